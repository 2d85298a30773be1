section
-- ===== PART A: goes FIRST, ahead of the names: the tables' words, and 'selects' of the private methods out of them =====
/-- a private method of a class that the tables say can be made, by its rows of tables_1 -/
def lw_okq (q : MethodName × Nat) : Prop := (q.1.cls ≠ "java/lang/invoke/MethodHandle" ∧ q.1.cls ≠ "java/lang/invoke/VarHandle") ∧ Cond.instantiable q.1.cls q.2 ∈ tables_1 ∧ Cond.privateMethod q.1 ∈ tables_1 ∧ Cond.instanceMethod q.1 ∈ tables_1
theorem lw_p0 : lw_okq (⟨"Taperhall$Script", "clear", "()I"⟩, 6) := ⟨⟨by decide +kernel, by decide +kernel⟩, List.mem_of_getElem? (i := 96) (by decide +kernel), List.mem_of_getElem? (i := 221) (by decide +kernel), List.mem_of_getElem? (i := 222) (by decide +kernel)⟩
theorem lw_p1 : lw_okq (⟨"Taperhall$Book", "size", "()I"⟩, 1) := ⟨⟨by decide +kernel, by decide +kernel⟩, List.mem_of_getElem? (i := 57) (by decide +kernel), List.mem_of_getElem? (i := 229) (by decide +kernel), List.mem_of_getElem? (i := 230) (by decide +kernel)⟩
theorem lw_p2 : lw_okq (⟨"Taperhall$Script", "faultPlace", "(I)I"⟩, 6) := ⟨⟨by decide +kernel, by decide +kernel⟩, List.mem_of_getElem? (i := 96) (by decide +kernel), List.mem_of_getElem? (i := 237) (by decide +kernel), List.mem_of_getElem? (i := 238) (by decide +kernel)⟩
theorem lw_p3 : lw_okq (⟨"Taperhall$Script", "misfit", "(I)I"⟩, 6) := ⟨⟨by decide +kernel, by decide +kernel⟩, List.mem_of_getElem? (i := 96) (by decide +kernel), List.mem_of_getElem? (i := 241) (by decide +kernel), List.mem_of_getElem? (i := 242) (by decide +kernel)⟩
theorem lw_p4 : lw_okq (⟨"Taperhall$Script", "unfold", "()I"⟩, 6) := ⟨⟨by decide +kernel, by decide +kernel⟩, List.mem_of_getElem? (i := 96) (by decide +kernel), List.mem_of_getElem? (i := 251) (by decide +kernel), List.mem_of_getElem? (i := 252) (by decide +kernel)⟩
theorem lw_p5 : lw_okq (⟨"Taperhall$Script", "open", "(II)V"⟩, 6) := ⟨⟨by decide +kernel, by decide +kernel⟩, List.mem_of_getElem? (i := 96) (by decide +kernel), List.mem_of_getElem? (i := 255) (by decide +kernel), List.mem_of_getElem? (i := 256) (by decide +kernel)⟩
theorem lw_p6 : lw_okq (⟨"Taperhall$Script", "close", "(I)V"⟩, 6) := ⟨⟨by decide +kernel, by decide +kernel⟩, List.mem_of_getElem? (i := 96) (by decide +kernel), List.mem_of_getElem? (i := 259) (by decide +kernel), List.mem_of_getElem? (i := 260) (by decide +kernel)⟩
theorem lw_p7 : lw_okq (⟨"Taperhall$Script", "repeat", "(II)V"⟩, 6) := ⟨⟨by decide +kernel, by decide +kernel⟩, List.mem_of_getElem? (i := 96) (by decide +kernel), List.mem_of_getElem? (i := 263) (by decide +kernel), List.mem_of_getElem? (i := 264) (by decide +kernel)⟩
theorem lw_p8 : lw_okq (⟨"Taperhall$Script", "addDay", "(C)V"⟩, 6) := ⟨⟨by decide +kernel, by decide +kernel⟩, List.mem_of_getElem? (i := 96) (by decide +kernel), List.mem_of_getElem? (i := 270) (by decide +kernel), List.mem_of_getElem? (i := 271) (by decide +kernel)⟩
theorem lw_p9 : lw_okq (⟨"Taperhall", "busiestWeek", "(LTaperhall$Athlete;)I"⟩, 11) := ⟨⟨by decide +kernel, by decide +kernel⟩, List.mem_of_getElem? (i := 49) (by decide +kernel), List.mem_of_getElem? (i := 307) (by decide +kernel), List.mem_of_getElem? (i := 308) (by decide +kernel)⟩
theorem lw_p10 : lw_okq (⟨"Taperhall$Diary", "busiestWeek", "([CLTaperhall$Book;I)I"⟩, 3) := ⟨⟨by decide +kernel, by decide +kernel⟩, List.mem_of_getElem? (i := 313) (by decide +kernel), List.mem_of_getElem? (i := 311) (by decide +kernel), List.mem_of_getElem? (i := 312) (by decide +kernel)⟩
theorem lw_p11 : lw_okq (⟨"Taperhall$Diary", "loadOn", "([CILTaperhall$Book;I)I"⟩, 3) := ⟨⟨by decide +kernel, by decide +kernel⟩, List.mem_of_getElem? (i := 313) (by decide +kernel), List.mem_of_getElem? (i := 316) (by decide +kernel), List.mem_of_getElem? (i := 317) (by decide +kernel)⟩
theorem lw_p12 : lw_okq (⟨"Taperhall$Book", "feltOf", "(C)I"⟩, 1) := ⟨⟨by decide +kernel, by decide +kernel⟩, List.mem_of_getElem? (i := 57) (by decide +kernel), List.mem_of_getElem? (i := 320) (by decide +kernel), List.mem_of_getElem? (i := 321) (by decide +kernel)⟩
theorem lw_p13 : lw_okq (⟨"Taperhall$Book", "find", "(C)LTaperhall$Session;"⟩, 1) := ⟨⟨by decide +kernel, by decide +kernel⟩, List.mem_of_getElem? (i := 57) (by decide +kernel), List.mem_of_getElem? (i := 324) (by decide +kernel), List.mem_of_getElem? (i := 325) (by decide +kernel)⟩
theorem lw_p14 : lw_okq (⟨"java/lang/Throwable", "fillInStackTrace", "(I)Ljava/lang/Throwable;"⟩, 6) := ⟨⟨by decide +kernel, by decide +kernel⟩, List.mem_of_getElem? (i := 382) (by decide +kernel), List.mem_of_getElem? (i := 380) (by decide +kernel), List.mem_of_getElem? (i := 381) (by decide +kernel)⟩
theorem lw_p15 : lw_okq (⟨"Taperhall$Book", "open", "()C"⟩, 1) := ⟨⟨by decide +kernel, by decide +kernel⟩, List.mem_of_getElem? (i := 57) (by decide +kernel), List.mem_of_getElem? (i := 408) (by decide +kernel), List.mem_of_getElem? (i := 409) (by decide +kernel)⟩
def lw_privs_1 : List (MethodName × Nat) := [(⟨"Taperhall$Script", "clear", "()I"⟩, 6), (⟨"Taperhall$Book", "size", "()I"⟩, 1), (⟨"Taperhall$Script", "faultPlace", "(I)I"⟩, 6), (⟨"Taperhall$Script", "misfit", "(I)I"⟩, 6), (⟨"Taperhall$Script", "unfold", "()I"⟩, 6), (⟨"Taperhall$Script", "open", "(II)V"⟩, 6), (⟨"Taperhall$Script", "close", "(I)V"⟩, 6), (⟨"Taperhall$Script", "repeat", "(II)V"⟩, 6), (⟨"Taperhall$Script", "addDay", "(C)V"⟩, 6), (⟨"Taperhall", "busiestWeek", "(LTaperhall$Athlete;)I"⟩, 11), (⟨"Taperhall$Diary", "busiestWeek", "([CLTaperhall$Book;I)I"⟩, 3), (⟨"Taperhall$Diary", "loadOn", "([CILTaperhall$Book;I)I"⟩, 3), (⟨"Taperhall$Book", "feltOf", "(C)I"⟩, 1), (⟨"Taperhall$Book", "find", "(C)LTaperhall$Session;"⟩, 1), (⟨"java/lang/Throwable", "fillInStackTrace", "(I)Ljava/lang/Throwable;"⟩, 6), (⟨"Taperhall$Book", "open", "()C"⟩, 1)]
theorem lw_r1 : ∀ q ∈ lw_privs_1, lw_okq q := List.forall_mem_cons.mpr ⟨lw_p0, List.forall_mem_cons.mpr ⟨lw_p1, List.forall_mem_cons.mpr ⟨lw_p2, List.forall_mem_cons.mpr ⟨lw_p3, List.forall_mem_cons.mpr ⟨lw_p4, List.forall_mem_cons.mpr ⟨lw_p5, List.forall_mem_cons.mpr ⟨lw_p6, List.forall_mem_cons.mpr ⟨lw_p7, List.forall_mem_cons.mpr ⟨lw_p8, List.forall_mem_cons.mpr ⟨lw_p9, List.forall_mem_cons.mpr ⟨lw_p10, List.forall_mem_cons.mpr ⟨lw_p11, List.forall_mem_cons.mpr ⟨lw_p12, List.forall_mem_cons.mpr ⟨lw_p13, List.forall_mem_cons.mpr ⟨lw_p14, List.forall_mem_cons.mpr ⟨lw_p15, fun _ h => absurd h List.not_mem_nil⟩⟩⟩⟩⟩⟩⟩⟩⟩⟩⟩⟩⟩⟩⟩⟩
theorem lw_p16 : lw_okq (⟨"java/util/ArrayList", "add", "(Ljava/lang/Object;[Ljava/lang/Object;I)V"⟩, 3) := ⟨⟨by decide +kernel, by decide +kernel⟩, List.mem_of_getElem? (i := 63) (by decide +kernel), List.mem_of_getElem? (i := 440) (by decide +kernel), List.mem_of_getElem? (i := 441) (by decide +kernel)⟩
theorem lw_p17 : lw_okq (⟨"java/util/ArrayList", "grow", "()[Ljava/lang/Object;"⟩, 3) := ⟨⟨by decide +kernel, by decide +kernel⟩, List.mem_of_getElem? (i := 63) (by decide +kernel), List.mem_of_getElem? (i := 444) (by decide +kernel), List.mem_of_getElem? (i := 445) (by decide +kernel)⟩
theorem lw_p18 : lw_okq (⟨"java/util/ArrayList", "grow", "(I)[Ljava/lang/Object;"⟩, 3) := ⟨⟨by decide +kernel, by decide +kernel⟩, List.mem_of_getElem? (i := 63) (by decide +kernel), List.mem_of_getElem? (i := 448) (by decide +kernel), List.mem_of_getElem? (i := 449) (by decide +kernel)⟩
theorem lw_p19 : lw_okq (⟨"Taperhall", "knownSession", "(C)LTaperhall$Session;"⟩, 11) := ⟨⟨by decide +kernel, by decide +kernel⟩, List.mem_of_getElem? (i := 49) (by decide +kernel), List.mem_of_getElem? (i := 517) (by decide +kernel), List.mem_of_getElem? (i := 518) (by decide +kernel)⟩
theorem lw_p20 : lw_okq (⟨"Taperhall", "isStillPlanned", "(C)Z"⟩, 11) := ⟨⟨by decide +kernel, by decide +kernel⟩, List.mem_of_getElem? (i := 49) (by decide +kernel), List.mem_of_getElem? (i := 540) (by decide +kernel), List.mem_of_getElem? (i := 541) (by decide +kernel)⟩
theorem lw_p21 : lw_okq (⟨"Taperhall$Diary", "holdsFrom", "(IC)Z"⟩, 3) := ⟨⟨by decide +kernel, by decide +kernel⟩, List.mem_of_getElem? (i := 313) (by decide +kernel), List.mem_of_getElem? (i := 544) (by decide +kernel), List.mem_of_getElem? (i := 545) (by decide +kernel)⟩
theorem lw_p22 : lw_okq (⟨"Taperhall$Session", "addSet", "(III)I"⟩, 5) := ⟨⟨by decide +kernel, by decide +kernel⟩, List.mem_of_getElem? (i := 411) (by decide +kernel), List.mem_of_getElem? (i := 563) (by decide +kernel), List.mem_of_getElem? (i := 564) (by decide +kernel)⟩
theorem lw_p23 : lw_okq (⟨"Taperhall$Session", "sumIn", "(C)I"⟩, 5) := ⟨⟨by decide +kernel, by decide +kernel⟩, List.mem_of_getElem? (i := 411) (by decide +kernel), List.mem_of_getElem? (i := 580) (by decide +kernel), List.mem_of_getElem? (i := 581) (by decide +kernel)⟩
theorem lw_p24 : lw_okq (⟨"Taperhall$Book", "sumIn", "(C)J"⟩, 1) := ⟨⟨by decide +kernel, by decide +kernel⟩, List.mem_of_getElem? (i := 57) (by decide +kernel), List.mem_of_getElem? (i := 620) (by decide +kernel), List.mem_of_getElem? (i := 621) (by decide +kernel)⟩
theorem lw_p25 : lw_okq (⟨"Taperhall$Script", "append", "(C)I"⟩, 6) := ⟨⟨by decide +kernel, by decide +kernel⟩, List.mem_of_getElem? (i := 96) (by decide +kernel), List.mem_of_getElem? (i := 642) (by decide +kernel), List.mem_of_getElem? (i := 643) (by decide +kernel)⟩
theorem lw_p26 : lw_okq (⟨"Taperhall", "known", "(I)LTaperhall$Athlete;"⟩, 11) := ⟨⟨by decide +kernel, by decide +kernel⟩, List.mem_of_getElem? (i := 49) (by decide +kernel), List.mem_of_getElem? (i := 858) (by decide +kernel), List.mem_of_getElem? (i := 859) (by decide +kernel)⟩
theorem lw_p27 : lw_okq (⟨"Taperhall$Trace", "reply", "(II)V"⟩, 6) := ⟨⟨by decide +kernel, by decide +kernel⟩, List.mem_of_getElem? (i := 126) (by decide +kernel), List.mem_of_getElem? (i := 877) (by decide +kernel), List.mem_of_getElem? (i := 878) (by decide +kernel)⟩
theorem lw_p28 : lw_okq (⟨"Taperhall$Diary", "copyInto", "([C)V"⟩, 3) := ⟨⟨by decide +kernel, by decide +kernel⟩, List.mem_of_getElem? (i := 313) (by decide +kernel), List.mem_of_getElem? (i := 895) (by decide +kernel), List.mem_of_getElem? (i := 896) (by decide +kernel)⟩
theorem lw_p29 : lw_okq (⟨"Taperhall$Script", "writeInto", "([CI)V"⟩, 6) := ⟨⟨by decide +kernel, by decide +kernel⟩, List.mem_of_getElem? (i := 96) (by decide +kernel), List.mem_of_getElem? (i := 899) (by decide +kernel), List.mem_of_getElem? (i := 900) (by decide +kernel)⟩
theorem lw_p30 : lw_okq (⟨"Taperhall", "adoptDraft", "(LTaperhall$Athlete;)V"⟩, 11) := ⟨⟨by decide +kernel, by decide +kernel⟩, List.mem_of_getElem? (i := 49) (by decide +kernel), List.mem_of_getElem? (i := 903) (by decide +kernel), List.mem_of_getElem? (i := 904) (by decide +kernel)⟩
theorem lw_p31 : lw_okq (⟨"Taperhall$Diary", "copyFrom", "([C)V"⟩, 3) := ⟨⟨by decide +kernel, by decide +kernel⟩, List.mem_of_getElem? (i := 313) (by decide +kernel), List.mem_of_getElem? (i := 907) (by decide +kernel), List.mem_of_getElem? (i := 908) (by decide +kernel)⟩
def lw_privs_2 : List (MethodName × Nat) := [(⟨"java/util/ArrayList", "add", "(Ljava/lang/Object;[Ljava/lang/Object;I)V"⟩, 3), (⟨"java/util/ArrayList", "grow", "()[Ljava/lang/Object;"⟩, 3), (⟨"java/util/ArrayList", "grow", "(I)[Ljava/lang/Object;"⟩, 3), (⟨"Taperhall", "knownSession", "(C)LTaperhall$Session;"⟩, 11), (⟨"Taperhall", "isStillPlanned", "(C)Z"⟩, 11), (⟨"Taperhall$Diary", "holdsFrom", "(IC)Z"⟩, 3), (⟨"Taperhall$Session", "addSet", "(III)I"⟩, 5), (⟨"Taperhall$Session", "sumIn", "(C)I"⟩, 5), (⟨"Taperhall$Book", "sumIn", "(C)J"⟩, 1), (⟨"Taperhall$Script", "append", "(C)I"⟩, 6), (⟨"Taperhall", "known", "(I)LTaperhall$Athlete;"⟩, 11), (⟨"Taperhall$Trace", "reply", "(II)V"⟩, 6), (⟨"Taperhall$Diary", "copyInto", "([C)V"⟩, 3), (⟨"Taperhall$Script", "writeInto", "([CI)V"⟩, 6), (⟨"Taperhall", "adoptDraft", "(LTaperhall$Athlete;)V"⟩, 11), (⟨"Taperhall$Diary", "copyFrom", "([C)V"⟩, 3)]
theorem lw_r2 : ∀ q ∈ lw_privs_2, lw_okq q := List.forall_mem_cons.mpr ⟨lw_p16, List.forall_mem_cons.mpr ⟨lw_p17, List.forall_mem_cons.mpr ⟨lw_p18, List.forall_mem_cons.mpr ⟨lw_p19, List.forall_mem_cons.mpr ⟨lw_p20, List.forall_mem_cons.mpr ⟨lw_p21, List.forall_mem_cons.mpr ⟨lw_p22, List.forall_mem_cons.mpr ⟨lw_p23, List.forall_mem_cons.mpr ⟨lw_p24, List.forall_mem_cons.mpr ⟨lw_p25, List.forall_mem_cons.mpr ⟨lw_p26, List.forall_mem_cons.mpr ⟨lw_p27, List.forall_mem_cons.mpr ⟨lw_p28, List.forall_mem_cons.mpr ⟨lw_p29, List.forall_mem_cons.mpr ⟨lw_p30, List.forall_mem_cons.mpr ⟨lw_p31, fun _ h => absurd h List.not_mem_nil⟩⟩⟩⟩⟩⟩⟩⟩⟩⟩⟩⟩⟩⟩⟩⟩
theorem lw_p32 : lw_okq (⟨"Taperhall$Log", "keep", "(CI)V"⟩, 3) := ⟨⟨by decide +kernel, by decide +kernel⟩, List.mem_of_getElem? (i := 730) (by decide +kernel), List.mem_of_getElem? (i := 911) (by decide +kernel), List.mem_of_getElem? (i := 912) (by decide +kernel)⟩
theorem lw_p33 : lw_okq (⟨"Taperhall$Diary", "countFrom", "(I)I"⟩, 3) := ⟨⟨by decide +kernel, by decide +kernel⟩, List.mem_of_getElem? (i := 313) (by decide +kernel), List.mem_of_getElem? (i := 923) (by decide +kernel), List.mem_of_getElem? (i := 924) (by decide +kernel)⟩
theorem lw_p34 : lw_okq (⟨"Taperhall$Diary", "shiftInto", "([CII)V"⟩, 3) := ⟨⟨by decide +kernel, by decide +kernel⟩, List.mem_of_getElem? (i := 313) (by decide +kernel), List.mem_of_getElem? (i := 927) (by decide +kernel), List.mem_of_getElem? (i := 928) (by decide +kernel)⟩
theorem lw_p35 : lw_okq (⟨"Taperhall$Diary", "letterOn", "(I)C"⟩, 3) := ⟨⟨by decide +kernel, by decide +kernel⟩, List.mem_of_getElem? (i := 313) (by decide +kernel), List.mem_of_getElem? (i := 932) (by decide +kernel), List.mem_of_getElem? (i := 933) (by decide +kernel)⟩
theorem lw_p36 : lw_okq (⟨"Taperhall$Diary", "clearDay", "(I)V"⟩, 3) := ⟨⟨by decide +kernel, by decide +kernel⟩, List.mem_of_getElem? (i := 313) (by decide +kernel), List.mem_of_getElem? (i := 960) (by decide +kernel), List.mem_of_getElem? (i := 961) (by decide +kernel)⟩
theorem lw_p37 : lw_okq (⟨"Taperhall$Diary", "feltOn", "(I)I"⟩, 3) := ⟨⟨by decide +kernel, by decide +kernel⟩, List.mem_of_getElem? (i := 313) (by decide +kernel), List.mem_of_getElem? (i := 978) (by decide +kernel), List.mem_of_getElem? (i := 979) (by decide +kernel)⟩
theorem lw_p38 : lw_okq (⟨"Taperhall", "goThroughDay", "()V"⟩, 11) := ⟨⟨by decide +kernel, by decide +kernel⟩, List.mem_of_getElem? (i := 49) (by decide +kernel), List.mem_of_getElem? (i := 1003) (by decide +kernel), List.mem_of_getElem? (i := 1004) (by decide +kernel)⟩
theorem lw_p39 : lw_okq (⟨"Taperhall", "train", "(LTaperhall$Athlete;)V"⟩, 11) := ⟨⟨by decide +kernel, by decide +kernel⟩, List.mem_of_getElem? (i := 49) (by decide +kernel), List.mem_of_getElem? (i := 1007) (by decide +kernel), List.mem_of_getElem? (i := 1008) (by decide +kernel)⟩
theorem lw_p40 : lw_okq (⟨"Taperhall$Body", "canTrainOn", "(I)Z"⟩, 11) := ⟨⟨by decide +kernel, by decide +kernel⟩, List.mem_of_getElem? (i := 662) (by decide +kernel), List.mem_of_getElem? (i := 1011) (by decide +kernel), List.mem_of_getElem? (i := 1012) (by decide +kernel)⟩
theorem lw_p41 : lw_okq (⟨"Taperhall$Body", "isIllOn", "(I)Z"⟩, 11) := ⟨⟨by decide +kernel, by decide +kernel⟩, List.mem_of_getElem? (i := 662) (by decide +kernel), List.mem_of_getElem? (i := 1015) (by decide +kernel), List.mem_of_getElem? (i := 1016) (by decide +kernel)⟩
theorem lw_p42 : lw_okq (⟨"Taperhall", "wantsLane", "(LTaperhall$Athlete;)Z"⟩, 11) := ⟨⟨by decide +kernel, by decide +kernel⟩, List.mem_of_getElem? (i := 49) (by decide +kernel), List.mem_of_getElem? (i := 1019) (by decide +kernel), List.mem_of_getElem? (i := 1020) (by decide +kernel)⟩
theorem lw_p43 : lw_okq (⟨"Taperhall$Book", "isHard", "(C)Z"⟩, 1) := ⟨⟨by decide +kernel, by decide +kernel⟩, List.mem_of_getElem? (i := 57) (by decide +kernel), List.mem_of_getElem? (i := 1023) (by decide +kernel), List.mem_of_getElem? (i := 1024) (by decide +kernel)⟩
theorem lw_p44 : lw_okq (⟨"Taperhall", "countAheadOf", "(LTaperhall$Athlete;)I"⟩, 11) := ⟨⟨by decide +kernel, by decide +kernel⟩, List.mem_of_getElem? (i := 49) (by decide +kernel), List.mem_of_getElem? (i := 1027) (by decide +kernel), List.mem_of_getElem? (i := 1028) (by decide +kernel)⟩
theorem lw_p45 : lw_okq (⟨"Taperhall$Body", "isBackOn", "(I)Z"⟩, 11) := ⟨⟨by decide +kernel, by decide +kernel⟩, List.mem_of_getElem? (i := 662) (by decide +kernel), List.mem_of_getElem? (i := 1035) (by decide +kernel), List.mem_of_getElem? (i := 1036) (by decide +kernel)⟩
theorem lw_p46 : lw_okq (⟨"Taperhall$Diary", "write", "(III)V"⟩, 3) := ⟨⟨by decide +kernel, by decide +kernel⟩, List.mem_of_getElem? (i := 313) (by decide +kernel), List.mem_of_getElem? (i := 1039) (by decide +kernel), List.mem_of_getElem? (i := 1040) (by decide +kernel)⟩
theorem lw_p47 : lw_okq (⟨"Taperhall", "recover", "(LTaperhall$Athlete;)V"⟩, 11) := ⟨⟨by decide +kernel, by decide +kernel⟩, List.mem_of_getElem? (i := 49) (by decide +kernel), List.mem_of_getElem? (i := 1043) (by decide +kernel), List.mem_of_getElem? (i := 1044) (by decide +kernel)⟩
def lw_privs_3 : List (MethodName × Nat) := [(⟨"Taperhall$Log", "keep", "(CI)V"⟩, 3), (⟨"Taperhall$Diary", "countFrom", "(I)I"⟩, 3), (⟨"Taperhall$Diary", "shiftInto", "([CII)V"⟩, 3), (⟨"Taperhall$Diary", "letterOn", "(I)C"⟩, 3), (⟨"Taperhall$Diary", "clearDay", "(I)V"⟩, 3), (⟨"Taperhall$Diary", "feltOn", "(I)I"⟩, 3), (⟨"Taperhall", "goThroughDay", "()V"⟩, 11), (⟨"Taperhall", "train", "(LTaperhall$Athlete;)V"⟩, 11), (⟨"Taperhall$Body", "canTrainOn", "(I)Z"⟩, 11), (⟨"Taperhall$Body", "isIllOn", "(I)Z"⟩, 11), (⟨"Taperhall", "wantsLane", "(LTaperhall$Athlete;)Z"⟩, 11), (⟨"Taperhall$Book", "isHard", "(C)Z"⟩, 1), (⟨"Taperhall", "countAheadOf", "(LTaperhall$Athlete;)I"⟩, 11), (⟨"Taperhall$Body", "isBackOn", "(I)Z"⟩, 11), (⟨"Taperhall$Diary", "write", "(III)V"⟩, 3), (⟨"Taperhall", "recover", "(LTaperhall$Athlete;)V"⟩, 11)]
theorem lw_r3 : ∀ q ∈ lw_privs_3, lw_okq q := List.forall_mem_cons.mpr ⟨lw_p32, List.forall_mem_cons.mpr ⟨lw_p33, List.forall_mem_cons.mpr ⟨lw_p34, List.forall_mem_cons.mpr ⟨lw_p35, List.forall_mem_cons.mpr ⟨lw_p36, List.forall_mem_cons.mpr ⟨lw_p37, List.forall_mem_cons.mpr ⟨lw_p38, List.forall_mem_cons.mpr ⟨lw_p39, List.forall_mem_cons.mpr ⟨lw_p40, List.forall_mem_cons.mpr ⟨lw_p41, List.forall_mem_cons.mpr ⟨lw_p42, List.forall_mem_cons.mpr ⟨lw_p43, List.forall_mem_cons.mpr ⟨lw_p44, List.forall_mem_cons.mpr ⟨lw_p45, List.forall_mem_cons.mpr ⟨lw_p46, List.forall_mem_cons.mpr ⟨lw_p47, fun _ h => absurd h List.not_mem_nil⟩⟩⟩⟩⟩⟩⟩⟩⟩⟩⟩⟩⟩⟩⟩⟩
theorem lw_p48 : lw_okq (⟨"Taperhall$Body", "live", "(I)Z"⟩, 11) := ⟨⟨by decide +kernel, by decide +kernel⟩, List.mem_of_getElem? (i := 662) (by decide +kernel), List.mem_of_getElem? (i := 1047) (by decide +kernel), List.mem_of_getElem? (i := 1048) (by decide +kernel)⟩
theorem lw_p49 : lw_okq (⟨"Taperhall$Trace", "live", "(I)V"⟩, 6) := ⟨⟨by decide +kernel, by decide +kernel⟩, List.mem_of_getElem? (i := 126) (by decide +kernel), List.mem_of_getElem? (i := 1051) (by decide +kernel), List.mem_of_getElem? (i := 1052) (by decide +kernel)⟩
theorem lw_p50 : lw_okq (⟨"Taperhall", "mayCatch", "(LTaperhall$Athlete;)V"⟩, 11) := ⟨⟨by decide +kernel, by decide +kernel⟩, List.mem_of_getElem? (i := 49) (by decide +kernel), List.mem_of_getElem? (i := 1059) (by decide +kernel), List.mem_of_getElem? (i := 1060) (by decide +kernel)⟩
theorem lw_p51 : lw_okq (⟨"Taperhall", "isSquadIll", "(I)Z"⟩, 11) := ⟨⟨by decide +kernel, by decide +kernel⟩, List.mem_of_getElem? (i := 49) (by decide +kernel), List.mem_of_getElem? (i := 1064) (by decide +kernel), List.mem_of_getElem? (i := 1065) (by decide +kernel)⟩
theorem lw_p52 : lw_okq (⟨"Taperhall", "restOfDraw", "(I)I"⟩, 11) := ⟨⟨by decide +kernel, by decide +kernel⟩, List.mem_of_getElem? (i := 49) (by decide +kernel), List.mem_of_getElem? (i := 1068) (by decide +kernel), List.mem_of_getElem? (i := 1069) (by decide +kernel)⟩
theorem lw_p53 : lw_okq (⟨"Taperhall$Body", "sicken", "(II)V"⟩, 11) := ⟨⟨by decide +kernel, by decide +kernel⟩, List.mem_of_getElem? (i := 662) (by decide +kernel), List.mem_of_getElem? (i := 1074) (by decide +kernel), List.mem_of_getElem? (i := 1075) (by decide +kernel)⟩
theorem lw_p54 : lw_okq (⟨"Taperhall$Body", "readyOn", "(I)I"⟩, 11) := ⟨⟨by decide +kernel, by decide +kernel⟩, List.mem_of_getElem? (i := 662) (by decide +kernel), List.mem_of_getElem? (i := 1085) (by decide +kernel), List.mem_of_getElem? (i := 1086) (by decide +kernel)⟩
theorem lw_p55 : lw_okq (⟨"Taperhall$Trace", "level", "()I"⟩, 6) := ⟨⟨by decide +kernel, by decide +kernel⟩, List.mem_of_getElem? (i := 126) (by decide +kernel), List.mem_of_getElem? (i := 1089) (by decide +kernel), List.mem_of_getElem? (i := 1090) (by decide +kernel)⟩
theorem lw_p56 : lw_okq (⟨"Taperhall$Body", "campGivesOn", "(I)I"⟩, 11) := ⟨⟨by decide +kernel, by decide +kernel⟩, List.mem_of_getElem? (i := 662) (by decide +kernel), List.mem_of_getElem? (i := 1093) (by decide +kernel), List.mem_of_getElem? (i := 1094) (by decide +kernel)⟩
theorem lw_p57 : lw_okq (⟨"Taperhall$Body", "illDaysFrom", "(I)I"⟩, 11) := ⟨⟨by decide +kernel, by decide +kernel⟩, List.mem_of_getElem? (i := 662) (by decide +kernel), List.mem_of_getElem? (i := 1097) (by decide +kernel), List.mem_of_getElem? (i := 1098) (by decide +kernel)⟩
theorem lw_p58 : lw_okq (⟨"Taperhall$Body", "tryStep", "(II)I"⟩, 11) := ⟨⟨by decide +kernel, by decide +kernel⟩, List.mem_of_getElem? (i := 662) (by decide +kernel), List.mem_of_getElem? (i := 1116) (by decide +kernel), List.mem_of_getElem? (i := 1117) (by decide +kernel)⟩
theorem lw_p59 : lw_okq (⟨"Taperhall$Log", "causeAt", "(I)C"⟩, 3) := ⟨⟨by decide +kernel, by decide +kernel⟩, List.mem_of_getElem? (i := 730) (by decide +kernel), List.mem_of_getElem? (i := 1137) (by decide +kernel), List.mem_of_getElem? (i := 1138) (by decide +kernel)⟩
theorem lw_p60 : lw_okq (⟨"Taperhall$Log", "dayAt", "(I)I"⟩, 3) := ⟨⟨by decide +kernel, by decide +kernel⟩, List.mem_of_getElem? (i := 730) (by decide +kernel), List.mem_of_getElem? (i := 1148) (by decide +kernel), List.mem_of_getElem? (i := 1149) (by decide +kernel)⟩
theorem lw_p61 : lw_okq (⟨"Taperhall$Body", "goToCamp", "(II)I"⟩, 11) := ⟨⟨by decide +kernel, by decide +kernel⟩, List.mem_of_getElem? (i := 662) (by decide +kernel), List.mem_of_getElem? (i := 1159) (by decide +kernel), List.mem_of_getElem? (i := 1160) (by decide +kernel)⟩
theorem lw_p62 : lw_okq (⟨"Taperhall$Fits", "keep", "(II)V"⟩, 9) := ⟨⟨by decide +kernel, by decide +kernel⟩, List.mem_of_getElem? (i := 747) (by decide +kernel), List.mem_of_getElem? (i := 1177) (by decide +kernel), List.mem_of_getElem? (i := 1178) (by decide +kernel)⟩
theorem lw_p63 : lw_okq (⟨"Taperhall$Fits", "renew", "(LTaperhall$Diary;LTaperhall$Trace;)V"⟩, 9) := ⟨⟨by decide +kernel, by decide +kernel⟩, List.mem_of_getElem? (i := 747) (by decide +kernel), List.mem_of_getElem? (i := 1191) (by decide +kernel), List.mem_of_getElem? (i := 1192) (by decide +kernel)⟩
def lw_privs_4 : List (MethodName × Nat) := [(⟨"Taperhall$Body", "live", "(I)Z"⟩, 11), (⟨"Taperhall$Trace", "live", "(I)V"⟩, 6), (⟨"Taperhall", "mayCatch", "(LTaperhall$Athlete;)V"⟩, 11), (⟨"Taperhall", "isSquadIll", "(I)Z"⟩, 11), (⟨"Taperhall", "restOfDraw", "(I)I"⟩, 11), (⟨"Taperhall$Body", "sicken", "(II)V"⟩, 11), (⟨"Taperhall$Body", "readyOn", "(I)I"⟩, 11), (⟨"Taperhall$Trace", "level", "()I"⟩, 6), (⟨"Taperhall$Body", "campGivesOn", "(I)I"⟩, 11), (⟨"Taperhall$Body", "illDaysFrom", "(I)I"⟩, 11), (⟨"Taperhall$Body", "tryStep", "(II)I"⟩, 11), (⟨"Taperhall$Log", "causeAt", "(I)C"⟩, 3), (⟨"Taperhall$Log", "dayAt", "(I)I"⟩, 3), (⟨"Taperhall$Body", "goToCamp", "(II)I"⟩, 11), (⟨"Taperhall$Fits", "keep", "(II)V"⟩, 9), (⟨"Taperhall$Fits", "renew", "(LTaperhall$Diary;LTaperhall$Trace;)V"⟩, 9)]
theorem lw_r4 : ∀ q ∈ lw_privs_4, lw_okq q := List.forall_mem_cons.mpr ⟨lw_p48, List.forall_mem_cons.mpr ⟨lw_p49, List.forall_mem_cons.mpr ⟨lw_p50, List.forall_mem_cons.mpr ⟨lw_p51, List.forall_mem_cons.mpr ⟨lw_p52, List.forall_mem_cons.mpr ⟨lw_p53, List.forall_mem_cons.mpr ⟨lw_p54, List.forall_mem_cons.mpr ⟨lw_p55, List.forall_mem_cons.mpr ⟨lw_p56, List.forall_mem_cons.mpr ⟨lw_p57, List.forall_mem_cons.mpr ⟨lw_p58, List.forall_mem_cons.mpr ⟨lw_p59, List.forall_mem_cons.mpr ⟨lw_p60, List.forall_mem_cons.mpr ⟨lw_p61, List.forall_mem_cons.mpr ⟨lw_p62, List.forall_mem_cons.mpr ⟨lw_p63, fun _ h => absurd h List.not_mem_nil⟩⟩⟩⟩⟩⟩⟩⟩⟩⟩⟩⟩⟩⟩⟩⟩
theorem lw_p64 : lw_okq (⟨"Taperhall$Trace", "begin", "(IILTaperhall$Trace;)V"⟩, 6) := ⟨⟨by decide +kernel, by decide +kernel⟩, List.mem_of_getElem? (i := 126) (by decide +kernel), List.mem_of_getElem? (i := 1201) (by decide +kernel), List.mem_of_getElem? (i := 1202) (by decide +kernel)⟩
theorem lw_p65 : lw_okq (⟨"Taperhall$Fits", "compare", "(LTaperhall$Diary;)V"⟩, 9) := ⟨⟨by decide +kernel, by decide +kernel⟩, List.mem_of_getElem? (i := 747) (by decide +kernel), List.mem_of_getElem? (i := 1205) (by decide +kernel), List.mem_of_getElem? (i := 1206) (by decide +kernel)⟩
theorem lw_p66 : lw_okq (⟨"Taperhall$Fits", "isTestOf", "(II)Z"⟩, 9) := ⟨⟨by decide +kernel, by decide +kernel⟩, List.mem_of_getElem? (i := 747) (by decide +kernel), List.mem_of_getElem? (i := 1209) (by decide +kernel), List.mem_of_getElem? (i := 1210) (by decide +kernel)⟩
theorem lw_p67 : lw_okq (⟨"Taperhall$Fits", "leave", "(II)V"⟩, 9) := ⟨⟨by decide +kernel, by decide +kernel⟩, List.mem_of_getElem? (i := 747) (by decide +kernel), List.mem_of_getElem? (i := 1214) (by decide +kernel), List.mem_of_getElem? (i := 1215) (by decide +kernel)⟩
theorem lw_p68 : lw_okq (⟨"Taperhall$Fits", "judge", "(I)V"⟩, 9) := ⟨⟨by decide +kernel, by decide +kernel⟩, List.mem_of_getElem? (i := 747) (by decide +kernel), List.mem_of_getElem? (i := 1220) (by decide +kernel), List.mem_of_getElem? (i := 1221) (by decide +kernel)⟩
theorem lw_p69 : lw_okq (⟨"Taperhall$Fits", "faultOf", "(I)J"⟩, 9) := ⟨⟨by decide +kernel, by decide +kernel⟩, List.mem_of_getElem? (i := 747) (by decide +kernel), List.mem_of_getElem? (i := 1224) (by decide +kernel), List.mem_of_getElem? (i := 1225) (by decide +kernel)⟩
theorem lw_p70 : lw_okq (⟨"Taperhall$Fits", "countRivals", "()I"⟩, 9) := ⟨⟨by decide +kernel, by decide +kernel⟩, List.mem_of_getElem? (i := 747) (by decide +kernel), List.mem_of_getElem? (i := 1228) (by decide +kernel), List.mem_of_getElem? (i := 1229) (by decide +kernel)⟩
theorem lw_p71 : lw_okq (⟨"Taperhall$Fits", "isRival", "(I)Z"⟩, 9) := ⟨⟨by decide +kernel, by decide +kernel⟩, List.mem_of_getElem? (i := 747) (by decide +kernel), List.mem_of_getElem? (i := 1232) (by decide +kernel), List.mem_of_getElem? (i := 1233) (by decide +kernel)⟩
theorem lw_p72 : lw_okq (⟨"Taperhall$Fits", "indexOf", "(I)I"⟩, 9) := ⟨⟨by decide +kernel, by decide +kernel⟩, List.mem_of_getElem? (i := 747) (by decide +kernel), List.mem_of_getElem? (i := 1247) (by decide +kernel), List.mem_of_getElem? (i := 1248) (by decide +kernel)⟩
theorem lw_p73 : lw_okq (⟨"Taperhall$Fits", "baseOf", "(I)J"⟩, 9) := ⟨⟨by decide +kernel, by decide +kernel⟩, List.mem_of_getElem? (i := 747) (by decide +kernel), List.mem_of_getElem? (i := 1253) (by decide +kernel), List.mem_of_getElem? (i := 1254) (by decide +kernel)⟩
theorem lw_p74 : lw_okq (⟨"Taperhall", "livePlanned", "(LTaperhall$Diary;II)V"⟩, 11) := ⟨⟨by decide +kernel, by decide +kernel⟩, List.mem_of_getElem? (i := 49) (by decide +kernel), List.mem_of_getElem? (i := 1267) (by decide +kernel), List.mem_of_getElem? (i := 1268) (by decide +kernel)⟩
theorem lw_p75 : lw_okq (⟨"Taperhall$Body", "isFitOn", "(I)Z"⟩, 11) := ⟨⟨by decide +kernel, by decide +kernel⟩, List.mem_of_getElem? (i := 662) (by decide +kernel), List.mem_of_getElem? (i := 1286) (by decide +kernel), List.mem_of_getElem? (i := 1287) (by decide +kernel)⟩
theorem lw_p76 : lw_okq (⟨"Taperhall$Athlete", "keepResult", "(IZ)V"⟩, 11) := ⟨⟨by decide +kernel, by decide +kernel⟩, List.mem_of_getElem? (i := 660) (by decide +kernel), List.mem_of_getElem? (i := 1290) (by decide +kernel), List.mem_of_getElem? (i := 1291) (by decide +kernel)⟩
theorem lw_p77 : lw_okq (⟨"Taperhall", "qualifiedAt", "(I)I"⟩, 11) := ⟨⟨by decide +kernel, by decide +kernel⟩, List.mem_of_getElem? (i := 49) (by decide +kernel), List.mem_of_getElem? (i := 1316) (by decide +kernel), List.mem_of_getElem? (i := 1317) (by decide +kernel)⟩
theorem lw_p78 : lw_okq (⟨"Taperhall", "countBetterThan", "(LTaperhall$Athlete;)I"⟩, 11) := ⟨⟨by decide +kernel, by decide +kernel⟩, List.mem_of_getElem? (i := 49) (by decide +kernel), List.mem_of_getElem? (i := 1320) (by decide +kernel), List.mem_of_getElem? (i := 1321) (by decide +kernel)⟩
theorem lw_p79 : lw_okq (⟨"Taperhall", "needTaper", "(II)V"⟩, 11) := ⟨⟨by decide +kernel, by decide +kernel⟩, List.mem_of_getElem? (i := 49) (by decide +kernel), List.mem_of_getElem? (i := 1334) (by decide +kernel), List.mem_of_getElem? (i := 1335) (by decide +kernel)⟩
def lw_privs_5 : List (MethodName × Nat) := [(⟨"Taperhall$Trace", "begin", "(IILTaperhall$Trace;)V"⟩, 6), (⟨"Taperhall$Fits", "compare", "(LTaperhall$Diary;)V"⟩, 9), (⟨"Taperhall$Fits", "isTestOf", "(II)Z"⟩, 9), (⟨"Taperhall$Fits", "leave", "(II)V"⟩, 9), (⟨"Taperhall$Fits", "judge", "(I)V"⟩, 9), (⟨"Taperhall$Fits", "faultOf", "(I)J"⟩, 9), (⟨"Taperhall$Fits", "countRivals", "()I"⟩, 9), (⟨"Taperhall$Fits", "isRival", "(I)Z"⟩, 9), (⟨"Taperhall$Fits", "indexOf", "(I)I"⟩, 9), (⟨"Taperhall$Fits", "baseOf", "(I)J"⟩, 9), (⟨"Taperhall", "livePlanned", "(LTaperhall$Diary;II)V"⟩, 11), (⟨"Taperhall$Body", "isFitOn", "(I)Z"⟩, 11), (⟨"Taperhall$Athlete", "keepResult", "(IZ)V"⟩, 11), (⟨"Taperhall", "qualifiedAt", "(I)I"⟩, 11), (⟨"Taperhall", "countBetterThan", "(LTaperhall$Athlete;)I"⟩, 11), (⟨"Taperhall", "needTaper", "(II)V"⟩, 11)]
theorem lw_r5 : ∀ q ∈ lw_privs_5, lw_okq q := List.forall_mem_cons.mpr ⟨lw_p64, List.forall_mem_cons.mpr ⟨lw_p65, List.forall_mem_cons.mpr ⟨lw_p66, List.forall_mem_cons.mpr ⟨lw_p67, List.forall_mem_cons.mpr ⟨lw_p68, List.forall_mem_cons.mpr ⟨lw_p69, List.forall_mem_cons.mpr ⟨lw_p70, List.forall_mem_cons.mpr ⟨lw_p71, List.forall_mem_cons.mpr ⟨lw_p72, List.forall_mem_cons.mpr ⟨lw_p73, List.forall_mem_cons.mpr ⟨lw_p74, List.forall_mem_cons.mpr ⟨lw_p75, List.forall_mem_cons.mpr ⟨lw_p76, List.forall_mem_cons.mpr ⟨lw_p77, List.forall_mem_cons.mpr ⟨lw_p78, List.forall_mem_cons.mpr ⟨lw_p79, fun _ h => absurd h List.not_mem_nil⟩⟩⟩⟩⟩⟩⟩⟩⟩⟩⟩⟩⟩⟩⟩⟩
theorem lw_p80 : lw_okq (⟨"Taperhall", "searchTaper", "(LTaperhall$Athlete;II)V"⟩, 11) := ⟨⟨by decide +kernel, by decide +kernel⟩, List.mem_of_getElem? (i := 49) (by decide +kernel), List.mem_of_getElem? (i := 1338) (by decide +kernel), List.mem_of_getElem? (i := 1339) (by decide +kernel)⟩
theorem lw_p81 : lw_okq (⟨"Taperhall$Trace", "copyFrom", "(LTaperhall$Trace;)V"⟩, 6) := ⟨⟨by decide +kernel, by decide +kernel⟩, List.mem_of_getElem? (i := 126) (by decide +kernel), List.mem_of_getElem? (i := 1342) (by decide +kernel), List.mem_of_getElem? (i := 1343) (by decide +kernel)⟩
theorem lw_p82 : lw_okq (⟨"Taperhall$Tapering", "begin", "(LTaperhall$Trace;I)V"⟩, 6) := ⟨⟨by decide +kernel, by decide +kernel⟩, List.mem_of_getElem? (i := 155) (by decide +kernel), List.mem_of_getElem? (i := 1347) (by decide +kernel), List.mem_of_getElem? (i := 1348) (by decide +kernel)⟩
theorem lw_p83 : lw_okq (⟨"Taperhall$Tapering", "expect", "(II)V"⟩, 6) := ⟨⟨by decide +kernel, by decide +kernel⟩, List.mem_of_getElem? (i := 155) (by decide +kernel), List.mem_of_getElem? (i := 1352) (by decide +kernel), List.mem_of_getElem? (i := 1353) (by decide +kernel)⟩
theorem lw_p84 : lw_okq (⟨"Taperhall$Tapering", "search", "()V"⟩, 6) := ⟨⟨by decide +kernel, by decide +kernel⟩, List.mem_of_getElem? (i := 155) (by decide +kernel), List.mem_of_getElem? (i := 1356) (by decide +kernel), List.mem_of_getElem? (i := 1357) (by decide +kernel)⟩
theorem lw_p85 : lw_okq (⟨"Taperhall$Tapering", "levelBy", "(I)I"⟩, 6) := ⟨⟨by decide +kernel, by decide +kernel⟩, List.mem_of_getElem? (i := 155) (by decide +kernel), List.mem_of_getElem? (i := 1360) (by decide +kernel), List.mem_of_getElem? (i := 1361) (by decide +kernel)⟩
theorem lw_p86 : lw_okq (⟨"Taperhall$Tapering", "digitOf", "(II)I"⟩, 6) := ⟨⟨by decide +kernel, by decide +kernel⟩, List.mem_of_getElem? (i := 155) (by decide +kernel), List.mem_of_getElem? (i := 1364) (by decide +kernel), List.mem_of_getElem? (i := 1365) (by decide +kernel)⟩
theorem lw_p87 : lw_okq (⟨"Taperhall$Tapering", "bestChoice", "(I)C"⟩, 6) := ⟨⟨by decide +kernel, by decide +kernel⟩, List.mem_of_getElem? (i := 155) (by decide +kernel), List.mem_of_getElem? (i := 1377) (by decide +kernel), List.mem_of_getElem? (i := 1378) (by decide +kernel)⟩
theorem lw_p88 : lw_okq (⟨"Taperhall$Diary", "sumFelt", "(I)J"⟩, 3) := ⟨⟨by decide +kernel, by decide +kernel⟩, List.mem_of_getElem? (i := 313) (by decide +kernel), List.mem_of_getElem? (i := 1407) (by decide +kernel), List.mem_of_getElem? (i := 1408) (by decide +kernel)⟩
theorem lw_p89 : lw_okq (⟨"TaperhallModel", "named", "(C)LTaperhallModel$Session;"⟩, 9) := ⟨⟨by decide +kernel, by decide +kernel⟩, List.mem_of_getElem? (i := 1412) (by decide +kernel), List.mem_of_getElem? (i := 1507) (by decide +kernel), List.mem_of_getElem? (i := 1508) (by decide +kernel)⟩
theorem lw_p90 : lw_okq (⟨"TaperhallModel", "isPlanned", "(C)Z"⟩, 9) := ⟨⟨by decide +kernel, by decide +kernel⟩, List.mem_of_getElem? (i := 1412) (by decide +kernel), List.mem_of_getElem? (i := 1518) (by decide +kernel), List.mem_of_getElem? (i := 1519) (by decide +kernel)⟩
theorem lw_p91 : lw_okq (⟨"TaperhallModel", "sum", "(C)J"⟩, 9) := ⟨⟨by decide +kernel, by decide +kernel⟩, List.mem_of_getElem? (i := 1412) (by decide +kernel), List.mem_of_getElem? (i := 1594) (by decide +kernel), List.mem_of_getElem? (i := 1595) (by decide +kernel)⟩
theorem lw_p92 : lw_okq (⟨"TaperhallModel", "faultOf", "()I"⟩, 9) := ⟨⟨by decide +kernel, by decide +kernel⟩, List.mem_of_getElem? (i := 1412) (by decide +kernel), List.mem_of_getElem? (i := 1875) (by decide +kernel), List.mem_of_getElem? (i := 1876) (by decide +kernel)⟩
theorem lw_p93 : lw_okq (⟨"TaperhallModel", "unfolded", "()Ljava/util/ArrayList;"⟩, 9) := ⟨⟨by decide +kernel, by decide +kernel⟩, List.mem_of_getElem? (i := 1412) (by decide +kernel), List.mem_of_getElem? (i := 1889) (by decide +kernel), List.mem_of_getElem? (i := 1890) (by decide +kernel)⟩
theorem lw_p94 : lw_okq (⟨"java/util/ArrayList", "fastRemove", "([Ljava/lang/Object;I)V"⟩, 3) := ⟨⟨by decide +kernel, by decide +kernel⟩, List.mem_of_getElem? (i := 63) (by decide +kernel), List.mem_of_getElem? (i := 1897) (by decide +kernel), List.mem_of_getElem? (i := 1898) (by decide +kernel)⟩
theorem lw_p95 : lw_okq (⟨"TaperhallModel", "noAthlete", "(I)Z"⟩, 9) := ⟨⟨by decide +kernel, by decide +kernel⟩, List.mem_of_getElem? (i := 1412) (by decide +kernel), List.mem_of_getElem? (i := 2084) (by decide +kernel), List.mem_of_getElem? (i := 2085) (by decide +kernel)⟩
def lw_privs_6 : List (MethodName × Nat) := [(⟨"Taperhall", "searchTaper", "(LTaperhall$Athlete;II)V"⟩, 11), (⟨"Taperhall$Trace", "copyFrom", "(LTaperhall$Trace;)V"⟩, 6), (⟨"Taperhall$Tapering", "begin", "(LTaperhall$Trace;I)V"⟩, 6), (⟨"Taperhall$Tapering", "expect", "(II)V"⟩, 6), (⟨"Taperhall$Tapering", "search", "()V"⟩, 6), (⟨"Taperhall$Tapering", "levelBy", "(I)I"⟩, 6), (⟨"Taperhall$Tapering", "digitOf", "(II)I"⟩, 6), (⟨"Taperhall$Tapering", "bestChoice", "(I)C"⟩, 6), (⟨"Taperhall$Diary", "sumFelt", "(I)J"⟩, 3), (⟨"TaperhallModel", "named", "(C)LTaperhallModel$Session;"⟩, 9), (⟨"TaperhallModel", "isPlanned", "(C)Z"⟩, 9), (⟨"TaperhallModel", "sum", "(C)J"⟩, 9), (⟨"TaperhallModel", "faultOf", "()I"⟩, 9), (⟨"TaperhallModel", "unfolded", "()Ljava/util/ArrayList;"⟩, 9), (⟨"java/util/ArrayList", "fastRemove", "([Ljava/lang/Object;I)V"⟩, 3), (⟨"TaperhallModel", "noAthlete", "(I)Z"⟩, 9)]
theorem lw_r6 : ∀ q ∈ lw_privs_6, lw_okq q := List.forall_mem_cons.mpr ⟨lw_p80, List.forall_mem_cons.mpr ⟨lw_p81, List.forall_mem_cons.mpr ⟨lw_p82, List.forall_mem_cons.mpr ⟨lw_p83, List.forall_mem_cons.mpr ⟨lw_p84, List.forall_mem_cons.mpr ⟨lw_p85, List.forall_mem_cons.mpr ⟨lw_p86, List.forall_mem_cons.mpr ⟨lw_p87, List.forall_mem_cons.mpr ⟨lw_p88, List.forall_mem_cons.mpr ⟨lw_p89, List.forall_mem_cons.mpr ⟨lw_p90, List.forall_mem_cons.mpr ⟨lw_p91, List.forall_mem_cons.mpr ⟨lw_p92, List.forall_mem_cons.mpr ⟨lw_p93, List.forall_mem_cons.mpr ⟨lw_p94, List.forall_mem_cons.mpr ⟨lw_p95, fun _ h => absurd h List.not_mem_nil⟩⟩⟩⟩⟩⟩⟩⟩⟩⟩⟩⟩⟩⟩⟩⟩
theorem lw_p96 : lw_okq (⟨"TaperhallModel", "peakOf", "(LTaperhallModel$Athlete;[C)I"⟩, 9) := ⟨⟨by decide +kernel, by decide +kernel⟩, List.mem_of_getElem? (i := 1412) (by decide +kernel), List.mem_of_getElem? (i := 2094) (by decide +kernel), List.mem_of_getElem? (i := 2095) (by decide +kernel)⟩
theorem lw_p97 : lw_okq (⟨"TaperhallModel", "feltBy", "(C)I"⟩, 9) := ⟨⟨by decide +kernel, by decide +kernel⟩, List.mem_of_getElem? (i := 1412) (by decide +kernel), List.mem_of_getElem? (i := 2098) (by decide +kernel), List.mem_of_getElem? (i := 2099) (by decide +kernel)⟩
theorem lw_p98 : lw_okq (⟨"TaperhallModel", "day", "()V"⟩, 9) := ⟨⟨by decide +kernel, by decide +kernel⟩, List.mem_of_getElem? (i := 1412) (by decide +kernel), List.mem_of_getElem? (i := 2159) (by decide +kernel), List.mem_of_getElem? (i := 2160) (by decide +kernel)⟩
theorem lw_p99 : lw_okq (⟨"TaperhallModel", "trains", "(LTaperhallModel$Athlete;)Z"⟩, 9) := ⟨⟨by decide +kernel, by decide +kernel⟩, List.mem_of_getElem? (i := 1412) (by decide +kernel), List.mem_of_getElem? (i := 2163) (by decide +kernel), List.mem_of_getElem? (i := 2164) (by decide +kernel)⟩
theorem lw_p100 : lw_okq (⟨"TaperhallModel", "isHard", "(LTaperhallModel$Athlete;)Z"⟩, 9) := ⟨⟨by decide +kernel, by decide +kernel⟩, List.mem_of_getElem? (i := 1412) (by decide +kernel), List.mem_of_getElem? (i := 2167) (by decide +kernel), List.mem_of_getElem? (i := 2168) (by decide +kernel)⟩
theorem lw_p101 : lw_okq (⟨"TaperhallModel", "ahead", "(I)I"⟩, 9) := ⟨⟨by decide +kernel, by decide +kernel⟩, List.mem_of_getElem? (i := 1412) (by decide +kernel), List.mem_of_getElem? (i := 2175) (by decide +kernel), List.mem_of_getElem? (i := 2176) (by decide +kernel)⟩
theorem lw_p102 : lw_okq (⟨"TaperhallModel", "rest", "(I)I"⟩, 9) := ⟨⟨by decide +kernel, by decide +kernel⟩, List.mem_of_getElem? (i := 1412) (by decide +kernel), List.mem_of_getElem? (i := 2180) (by decide +kernel), List.mem_of_getElem? (i := 2181) (by decide +kernel)⟩
theorem lw_p103 : lw_okq (⟨"TaperhallModel", "noChange", "(II)Z"⟩, 9) := ⟨⟨by decide +kernel, by decide +kernel⟩, List.mem_of_getElem? (i := 1412) (by decide +kernel), List.mem_of_getElem? (i := 2272) (by decide +kernel), List.mem_of_getElem? (i := 2273) (by decide +kernel)⟩
theorem lw_p104 : lw_okq (⟨"TaperhallModel", "allFits", "(LTaperhallModel$Athlete;)Ljava/util/ArrayList;"⟩, 9) := ⟨⟨by decide +kernel, by decide +kernel⟩, List.mem_of_getElem? (i := 1412) (by decide +kernel), List.mem_of_getElem? (i := 2315) (by decide +kernel), List.mem_of_getElem? (i := 2316) (by decide +kernel)⟩
theorem lw_p105 : lw_okq (⟨"TaperhallModel", "fitted", "(LTaperhallModel$Athlete;II)[J"⟩, 9) := ⟨⟨by decide +kernel, by decide +kernel⟩, List.mem_of_getElem? (i := 1412) (by decide +kernel), List.mem_of_getElem? (i := 2319) (by decide +kernel), List.mem_of_getElem? (i := 2320) (by decide +kernel)⟩
theorem lw_p106 : lw_okq (⟨"TaperhallModel", "by", "(LTaperhallModel$Athlete;III)J"⟩, 9) := ⟨⟨by decide +kernel, by decide +kernel⟩, List.mem_of_getElem? (i := 1412) (by decide +kernel), List.mem_of_getElem? (i := 2328) (by decide +kernel), List.mem_of_getElem? (i := 2329) (by decide +kernel)⟩
theorem lw_p107 : lw_okq (⟨"TaperhallModel", "found", "(IIZ)[J"⟩, 9) := ⟨⟨by decide +kernel, by decide +kernel⟩, List.mem_of_getElem? (i := 1412) (by decide +kernel), List.mem_of_getElem? (i := 2345) (by decide +kernel), List.mem_of_getElem? (i := 2346) (by decide +kernel)⟩
theorem lw_p108 : lw_okq (⟨"java/util/ArrayList", "rangeCheckForAdd", "(I)V"⟩, 3) := ⟨⟨by decide +kernel, by decide +kernel⟩, List.mem_of_getElem? (i := 63) (by decide +kernel), List.mem_of_getElem? (i := 2379) (by decide +kernel), List.mem_of_getElem? (i := 2380) (by decide +kernel)⟩
theorem lw_p109 : lw_okq (⟨"java/util/ArrayList", "outOfBoundsMsg", "(I)Ljava/lang/String;"⟩, 3) := ⟨⟨by decide +kernel, by decide +kernel⟩, List.mem_of_getElem? (i := 63) (by decide +kernel), List.mem_of_getElem? (i := 2384) (by decide +kernel), List.mem_of_getElem? (i := 2385) (by decide +kernel)⟩
theorem lw_p110 : lw_okq (⟨"TaperhallModel", "noTaper", "(III)Z"⟩, 9) := ⟨⟨by decide +kernel, by decide +kernel⟩, List.mem_of_getElem? (i := 1412) (by decide +kernel), List.mem_of_getElem? (i := 2400) (by decide +kernel), List.mem_of_getElem? (i := 2401) (by decide +kernel)⟩
theorem lw_p111 : lw_okq (⟨"TaperhallModel", "bestTaper", "(LTaperhallModel$Athlete;II)I"⟩, 9) := ⟨⟨by decide +kernel, by decide +kernel⟩, List.mem_of_getElem? (i := 1412) (by decide +kernel), List.mem_of_getElem? (i := 2405) (by decide +kernel), List.mem_of_getElem? (i := 2406) (by decide +kernel)⟩
def lw_privs_7 : List (MethodName × Nat) := [(⟨"TaperhallModel", "peakOf", "(LTaperhallModel$Athlete;[C)I"⟩, 9), (⟨"TaperhallModel", "feltBy", "(C)I"⟩, 9), (⟨"TaperhallModel", "day", "()V"⟩, 9), (⟨"TaperhallModel", "trains", "(LTaperhallModel$Athlete;)Z"⟩, 9), (⟨"TaperhallModel", "isHard", "(LTaperhallModel$Athlete;)Z"⟩, 9), (⟨"TaperhallModel", "ahead", "(I)I"⟩, 9), (⟨"TaperhallModel", "rest", "(I)I"⟩, 9), (⟨"TaperhallModel", "noChange", "(II)Z"⟩, 9), (⟨"TaperhallModel", "allFits", "(LTaperhallModel$Athlete;)Ljava/util/ArrayList;"⟩, 9), (⟨"TaperhallModel", "fitted", "(LTaperhallModel$Athlete;II)[J"⟩, 9), (⟨"TaperhallModel", "by", "(LTaperhallModel$Athlete;III)J"⟩, 9), (⟨"TaperhallModel", "found", "(IIZ)[J"⟩, 9), (⟨"java/util/ArrayList", "rangeCheckForAdd", "(I)V"⟩, 3), (⟨"java/util/ArrayList", "outOfBoundsMsg", "(I)Ljava/lang/String;"⟩, 3), (⟨"TaperhallModel", "noTaper", "(III)Z"⟩, 9), (⟨"TaperhallModel", "bestTaper", "(LTaperhallModel$Athlete;II)I"⟩, 9)]
theorem lw_r7 : ∀ q ∈ lw_privs_7, lw_okq q := List.forall_mem_cons.mpr ⟨lw_p96, List.forall_mem_cons.mpr ⟨lw_p97, List.forall_mem_cons.mpr ⟨lw_p98, List.forall_mem_cons.mpr ⟨lw_p99, List.forall_mem_cons.mpr ⟨lw_p100, List.forall_mem_cons.mpr ⟨lw_p101, List.forall_mem_cons.mpr ⟨lw_p102, List.forall_mem_cons.mpr ⟨lw_p103, List.forall_mem_cons.mpr ⟨lw_p104, List.forall_mem_cons.mpr ⟨lw_p105, List.forall_mem_cons.mpr ⟨lw_p106, List.forall_mem_cons.mpr ⟨lw_p107, List.forall_mem_cons.mpr ⟨lw_p108, List.forall_mem_cons.mpr ⟨lw_p109, List.forall_mem_cons.mpr ⟨lw_p110, List.forall_mem_cons.mpr ⟨lw_p111, fun _ h => absurd h List.not_mem_nil⟩⟩⟩⟩⟩⟩⟩⟩⟩⟩⟩⟩⟩⟩⟩⟩
theorem lw_p112 : lw_okq (⟨"TaperhallModel", "tapered", "(LTaperhallModel$Athlete;III)J"⟩, 9) := ⟨⟨by decide +kernel, by decide +kernel⟩, List.mem_of_getElem? (i := 1412) (by decide +kernel), List.mem_of_getElem? (i := 2409) (by decide +kernel), List.mem_of_getElem? (i := 2410) (by decide +kernel)⟩
def lw_privs_8 : List (MethodName × Nat) := [(⟨"TaperhallModel", "tapered", "(LTaperhallModel$Athlete;III)J"⟩, 9)]
theorem lw_r8 : ∀ q ∈ lw_privs_8, lw_okq q := List.forall_mem_cons.mpr ⟨lw_p112, fun _ h => absurd h List.not_mem_nil⟩
def lw_privs : List (MethodName × Nat) := lw_privs_1 ++ (lw_privs_2 ++ (lw_privs_3 ++ (lw_privs_4 ++ (lw_privs_5 ++ (lw_privs_6 ++ (lw_privs_7 ++ (lw_privs_8)))))))
def lw_tbl : List Cond := k2_sels lw_privs ++ tables_1
theorem lw_privs_ok : ∀ q ∈ lw_privs, lw_okq q := by
  show ∀ q ∈ lw_privs_1 ++ (lw_privs_2 ++ (lw_privs_3 ++ (lw_privs_4 ++ (lw_privs_5 ++ (lw_privs_6 ++ (lw_privs_7 ++ (lw_privs_8))))))), lw_okq q
  exact List.forall_mem_append.mpr ⟨lw_r1, List.forall_mem_append.mpr ⟨lw_r2, List.forall_mem_append.mpr ⟨lw_r3, List.forall_mem_append.mpr ⟨lw_r4, List.forall_mem_append.mpr ⟨lw_r5, List.forall_mem_append.mpr ⟨lw_r6, List.forall_mem_append.mpr ⟨lw_r7, lw_r8⟩⟩⟩⟩⟩⟩⟩
/-- the streams that the claim lets the run draw from -/
abbrev lw_cs : List Choice := [Jvm.Choice.named "NaN.bits"]
theorem lw_bits : nanBits ∈ lw_cs := by first | decide | exact List.mem_cons_self | simp [lw_cs, nanBits]
-- ===== end of PART A; then your names; then what follows =====
end
section
/-! ===== BEGIN words of one list among another's, by their places ===== -/
theorem goodIn_r {big : List Cond} (ws : List Cond) (ps : List Nat) (hp : ws = ps.filterMap (fun i => big[i]?)) (h : ws.all goodWord = true) : GoodIn big ws := by
  intro w hw
  have h1 := List.all_eq_true.mp h w hw
  rw [hp] at hw
  obtain ⟨i, -, hi⟩ := List.mem_filterMap.mp hw
  have hm : w ∈ big := by first | exact List.mem_of_getElem? hi | exact List.getElem?_mem hi
  exact ⟨hm, good_of_word h1⟩
theorem goodIn_app {big a b : List Cond} (ha : GoodIn big a) (hb : GoodIn big b) : GoodIn big (a ++ b) := fun w h => (List.mem_append.mp h).elim (ha w) (hb w)
theorem goodIn_ca {big a b : List Cond} {c : Cond} (ha : GoodIn big (c :: a)) (hb : GoodIn big b) : GoodIn big (c :: (a ++ b)) := fun w h => (List.mem_cons.mp h).elim (fun e => ha w (List.mem_cons.mpr (Or.inl e))) (fun h => (List.mem_append.mp h).elim (fun h => ha w (List.mem_cons.mpr (Or.inr h))) (hb w))
theorem goodIn_sub {big ws : List Cond} (hm : ∀ w ∈ ws, w ∈ big) (h : ws.all goodWord = true) : GoodIn big ws := fun w hw => ⟨hm w hw, good_of_word (List.all_eq_true.mp h w hw)⟩
/-! ===== END ===== -/

/-! ===== BEGIN exceptions that leave a method, and their catching by the caller (launches without stack traces) ===== -/
section VXA
/-! The laws vx_back, vx_callV, vx_callS, vx_callSW, vx_throw0, vx_throwS follow proofs of the library, with one case more: JvmDerived/Free/Laws.lean (Back.of_free), Shelf42/LK1.lean (callV, callS), Shelf/KitTraced.lean (throwNew0V, throwNewS). -/
/-- where a method has thrown q: the class by its name, the cell, what was written, the world -/
def vx_T (XC : String → State → State → Prop) (st : State) (q : Addr) (t : State) (mc ms : Nat) (free : Addr → Prop) : Prop :=
  ∃ (E : String) (ce : Cell) (L : List Loc), XC E st t ∧ t.heap[q]? = some ce ∧ ce.vm = .none ∧ st.vm.findClass E = some ce.cls ∧ st.WarmedH t.vm ∧ st.sameButNew ({ t with vm := st.vm } : State) L mc ms ∧ ∀ z ∈ L, free z.base
def vx_Q (Qc : Array Value → State → Outcome → State → Prop) (XC : String → State → State → Prop) (mc ms : Nat) (free : Addr → Prop) : Array Value → State → Outcome → State → Prop := fun a st o t =>
  (Qc a st o t ∧ ∃ L, FrameEnd st o t L mc ms ∧ ∀ q ∈ L, free q.base) ∨ ∃ q, o = .threw q ∧ vx_T XC st q t mc ms free
/-- a callee that returns or throws -/
def vx_Met (l : Launch) (y : MethodName) (ws : List Cond) (rm : Room) (Pc : Array Value → State → Prop) (Qc : Array Value → State → Outcome → State → Prop) (XC : String → State → State → Prop) (mc ms : Nat) (free : Addr → Prop) : Prop :=
  MetFree l y (headSpec ws rm) Pc (fun _ _ _ _ _ => True) (vx_Q Qc XC mc ms free)
def vx_Post (XC : String → State → State → Prop) (mc ms : Nat) (free : Addr → Prop) : Pt → Array Value → Addr → Pt → Prop := fun A a q B =>
  ∃ (g : JFrame) (mk : MethodId) (t : State) (L : List Loc) (E : String) (ce : Cell), B.U.heap = t.heap ∧ B.U.vm = t.vm ∧ XC E (A.U.calling g mk a) t ∧ t.heap[q]? = some ce ∧ ce.vm = .none ∧ A.U.vm.findClass E = some ce.cls ∧ B.locs = A.locs ++ L ∧ (∀ z ∈ L, free z.base) ∧ B.cells = A.cells + mc ∧ B.slots = A.slots + ms
def vx_Back (l : Launch) (R : Room) (p : Program) (e : Env) (below : List Frame) (s : State) (sargs : Array Value) (y : MethodName) (len W9 : Nat)
    (Pre : Pt → Array Value → Prop) (Post : Pt → Array Value → Option Value → Pt → Prop) (PostX : Pt → Array Value → Addr → Pt → Prop) : Prop :=
  ∀ (m : MethodId) (meth : Method) (c : Code) (A : Pt) (g : JFrame) (ig : Instr) (mk : MethodId) (a : Array Value),
    Stand p l e R s m sargs below meth c A.U A.locs A.cells A.slots → g.method = m → g.locals.size = c.maxLocals → decode c.code g.pc = .ok (ig, len) →
    2 * g.monitorRoom + (g.stack.map fun v => v.category).sum ≤ W9 → A.U.methodNamed? y = some mk → Pre A a →
    (∃ (v : Option Value) (B : Pt), Stand p l e R s m sargs below meth c B.U B.locs B.cells B.slots ∧ Post A a v B ∧
      Steps p.tables e below (doInvoke e (A.U.setTop g) [] mk a).1 (B.U.setTop { g with pc := g.pc + len, stack := v.toList ++ g.stack })) ∨
    (∃ (q : Addr) (B : Pt), Stand p l e R s m sargs below meth c B.U B.locs B.cells B.slots ∧ PostX A a q B ∧
      Steps p.tables e below (doInvoke e (A.U.setTop g) [] mk a).1 ((B.U.setTop g).pushFrame (.throwing q)))
section Payer
variable {l : Launch} {R : Room} {p : Program} {e : Env} {below : List Frame} {s : State} {sargs : Array Value} {y : MethodName} {len W9 : Nat}
theorem vx_back {ws : List Cond} {rm : Room} {Pc : Array Value → State → Prop} {Qc : Array Value → State → Outcome → State → Prop} {XC : String → State → State → Prop} {mc ms : Nat} {free : Addr → Prop} {bytes : ByteArray} {maxL : Nat} {ret : Option FieldType}
    (hM : vx_Met l y ws rm Pc Qc XC mc ms free) (hblind : FrameBlind Pc) (hrc : rm.cells = mc) (hrs : rm.slots = ms)
    (hframes : rm.frames + 1 ≤ R.frames) (hlocals : W9 + (maxL + 11) + rm.locals ≤ R.locals)
    (hws : ∀ w ∈ ws, ∀ a' U, s.WarmedH U.vm → w.before a' U = true) (hcode : Cond.code y bytes maxL ret ∈ ws) (hinit : ∀ a' U, s.WarmedH U.vm → (Cond.initialized y.cls).before a' U = true) :
    vx_Back l R p e below s sargs y len W9 (PreOf R mc ms Pc) (PostOf Qc mc ms free) (vx_Post XC mc ms free) := by
  intro m meth c A g ig mk a X hg hsize hdg hW hn hp
  have h1 : (headSpec ws rm).pre.before a A.U = true := atoms_intro fun w hw => hws w hw _ _ X.warmed
  have h2 : (Cond.code y bytes maxL ret).before a A.U = true := hws _ hcode _ _ X.warmed
  have h3 : (Cond.initialized y.cls).before a A.U = true := hinit _ _ X.warmed
  have h4 : A.cells + (headSpec ws rm).room.cells ≤ R.cells := by rw [show (headSpec ws rm).room.cells = mc from hrc]; exact hp.1
  have h5 : A.slots + (headSpec ws rm).room.slots ≤ R.slots := by rw [show (headSpec ws rm).room.slots = ms from hrs]; exact hp.2.1
  have hPc : Pc a (A.U.calling g mk a) := hblind _ _ _ _ hp.2.2
  obtain ⟨U, Ls, c0, s0⟩ := A
  dsimp only [Pt.U, Pt.locs, Pt.cells, Pt.slots] at h1 h2 h3 h4 h5 X hn hPc ⊢
  obtain ⟨methY, cY, hmY, hcY, -, hlY, -, -, -, -⟩ := Cond.code_spec hn h2
  obtain ⟨kY, hkY, -⟩ := className_of_methodNamed hn
  have hinitY : kY.init = .initialized := Cond.initialized_spec (findClass_of_methodNamed hn) hkY h3
  have h : At U g.method c below := by rw [hg]; exact X.here
  have hlocals9 : W9 + (maxL + 11) + (headSpec ws rm).room.locals ≤ R.locals := hlocals
  have happ : (headSpec ws rm).appliesLoose y e.platform (U.calling g mk a) = true :=
    Spec.appliesLoose_calling (g := g) h hdg hn hkY hinitY
      (X.room_calling (g := g) (R' := (headSpec ws rm).room) hsize hmY hcY hframes (by rw [hlY]; omega) h4 h5) h1
  obtain ⟨mid, hmid⟩ := h.above
  have hfr : (U.setTop g).frames = (.java g :: mid) ++ below := by rw [State.frames_setTop' g h.top, hmid]; rfl
  obtain ⟨o, s₂, hsteps, -, hend, hq⟩ := Steps.callFree hM p X.admits X.cas X.clock (acts := []) hfr happ hPc trivial
  have hq' : vx_Q Qc XC mc ms free a (U.calling g mk a) o s₂ := hq
  rw [State.frames_setTop' g h.top] at hend
  obtain ⟨g₀, hg0⟩ := Option.isSome_iff_exists.mp h.top
  obtain ⟨r, hr⟩ := State.topJava?_eq_some.mp hg0
  have hr' : (({ U with heap := s₂.heap, slotsUsed := s₂.slotsUsed } : State).setVm s₂.vm).frames = .java g₀ :: r := hr
  rcases hq' with ⟨hqc, L, hfe, hL⟩ | ⟨q, rfl, E, ce, L, hx, hce, hcv, hcl, hW₂, hsm, hL⟩
  · obtain ⟨⟨v, rfl⟩, hW₂, e2, q2, q3, q4, q5, q6⟩ := id hfe
    have e3 : s₂ = ({ (U.calling g mk a).setFrames s₂.frames with heap := s₂.heap, slotsUsed := s₂.slotsUsed } : State).setVm s₂.vm := by
      have : s₂ = ({ s₂ with vm := (U.calling g mk a).vm } : State).setVm s₂.vm := rfl
      rw [e2] at this
      exact this
    obtain ⟨c₂, i₂, len₂, hc₂, hd₂, hf₂⟩ := hend
    have hW' : U.WarmedH s₂.vm := hW₂
    have hcc : c₂ = c := by
      have h1 : s₂.code? g.method = U.code? g.method := by
        rw [State.code?_eq, State.code?_eq, hW'.alike.method?]
      exact Option.some.inj (hc₂.symm.trans (h1.trans h.code))
    subst hcc
    have hlen : len₂ = len := by rw [hdg] at hd₂; cases hd₂; rfl
    subst hlen
    have hs₂ : s₂ = (({ U with heap := s₂.heap, slotsUsed := s₂.slotsUsed } : State).setVm s₂.vm).setTop { g with pc := g.pc + len₂, stack := v.toList ++ g.stack } := by
      refine e3.trans ?_
      rw [hf₂, State.calling_eq h.top, State.setFrames_setFrames, State.setTop_of_frames _ hr', hr]
      rfl
    have hsame : U.sameButNew ({ U with heap := s₂.heap, slotsUsed := s₂.slotsUsed } : State) L mc ms := by
      refine ⟨?_, q2, q3, q4, q5, q6⟩
      obtain ⟨t, ht, -⟩ := State.frames_cons hr
      show ({ U with heap := s₂.heap, slotsUsed := s₂.slotsUsed } : State) = { U.setFrames U.frames with heap := s₂.heap, slotsUsed := s₂.slotsUsed }
      rw [State.setFrames_self ht]
    subst hg
    refine Or.inl ⟨v, ⟨(({ U with heap := s₂.heap, slotsUsed := s₂.slotsUsed } : State).setVm s₂.vm), Ls ++ L, c0 + mc, s0 + ms⟩,
      ⟨X.admits, X.cas, X.clock, X.frames, X.room, X.hears, X.method, X.code, (X.here.setHeapUsed s₂.heap s₂.slotsUsed).setVm hW'.alike, X.tail, State.WarmedH.trans X.warmed hW', X.limits, X.bytes, X.same.trans (hsame.setVm s.vm)⟩,
      ⟨g, mk, s₂, L, rfl, rfl, hqc, rfl, hL, rfl, rfl⟩, ?_⟩
    show Steps p.tables e below _ ((({ U with heap := s₂.heap, slotsUsed := s₂.slotsUsed } : State).setVm s₂.vm).setTop { g with pc := g.pc + len₂, stack := v.toList ++ g.stack })
    rw [← hs₂]
    exact hsteps
  · obtain ⟨e2, q2, q3, q4, q5, q6⟩ := id hsm
    have e3 : s₂ = ({ (U.calling g mk a).setFrames s₂.frames with heap := s₂.heap, slotsUsed := s₂.slotsUsed } : State).setVm s₂.vm := by
      have : s₂ = ({ s₂ with vm := (U.calling g mk a).vm } : State).setVm s₂.vm := rfl
      rw [e2] at this
      exact this
    have hf₂ : s₂.frames = .throwing q :: .java g :: U.frames.tail := hend
    have hW' : U.WarmedH s₂.vm := hW₂
    have hs₂ : s₂ = ((({ U with heap := s₂.heap, slotsUsed := s₂.slotsUsed } : State).setVm s₂.vm).setTop g).pushFrame (.throwing q) := by
      refine e3.trans ?_
      rw [hf₂, State.calling_eq h.top, State.setFrames_setFrames, State.pushFrame, State.frames_setTop _ hr', State.setTop_of_frames _ hr', State.setFrames_setFrames, hr]
      rfl
    have hsame : U.sameButNew ({ U with heap := s₂.heap, slotsUsed := s₂.slotsUsed } : State) L mc ms := by
      refine ⟨?_, q2, q3, q4, q5, q6⟩
      obtain ⟨t, ht, -⟩ := State.frames_cons hr
      show ({ U with heap := s₂.heap, slotsUsed := s₂.slotsUsed } : State) = { U.setFrames U.frames with heap := s₂.heap, slotsUsed := s₂.slotsUsed }
      rw [State.setFrames_self ht]
    subst hg
    refine Or.inr ⟨q, ⟨(({ U with heap := s₂.heap, slotsUsed := s₂.slotsUsed } : State).setVm s₂.vm), Ls ++ L, c0 + mc, s0 + ms⟩,
      ⟨X.admits, X.cas, X.clock, X.frames, X.room, X.hears, X.method, X.code, (X.here.setHeapUsed s₂.heap s₂.slotsUsed).setVm hW'.alike, X.tail, State.WarmedH.trans X.warmed hW', X.limits, X.bytes, X.same.trans (hsame.setVm s.vm)⟩,
      ⟨g, mk, s₂, L, E, ce, rfl, rfl, hx, hce, hcv, hcl, rfl, hL, rfl, rfl⟩, ?_⟩
    show Steps p.tables e below _ (((({ U with heap := s₂.heap, slotsUsed := s₂.slotsUsed } : State).setVm s₂.vm).setTop g).pushFrame (.throwing q))
    rw [← hs₂]
    exact hsteps
end Payer
section Calls
variable {p : Program} {l : Launch} {e : Env} {R : Room} {s : State} {m : MethodId} {args : Array Value} {below : List Frame} {meth : Method} {c : Code} {T : State} {locs : List Loc} {cells slots : Nat}
theorem vx_callV (X : Stand p l e R s m args below meth c T locs cells slots) (hexec : p.tables.exec = Jvm.exec) {own C : String} {index : Nat} {y : MethodName} {bytes : ByteArray} {maxL : Nat} {ret : Option FieldType}
    (hown : s.vm.findClass own = some m.cls) (hlink : (Cond.methodLink own index y).before args s = true) (hinst : (Cond.instanceMethod y).before args s = true) (hsel : (Cond.selects C y y).before args s = true)
    (hcode : (Cond.code y bytes maxL ret).before args s = true) (hy : y.cls ≠ "java/lang/invoke/MethodHandle" ∧ y.cls ≠ "java/lang/invoke/VarHandle")
    {W9 : Nat} {Pre : Pt → Array Value → Prop} {Post : Pt → Array Value → Option Value → Pt → Prop} {PostX : Pt → Array Value → Addr → Pt → Prop} (hK : vx_Back l R p e below s args y 3 W9 Pre Post PostX)
    {b : Addr} {cellB : Cell} (hcell : T.heap[b]? = some cellB) (hobj : cellB.vm.isStatics = false) (hcls : s.vm.findClass C = some cellB.cls)
    {g : JFrame} (hg : g.method = m) (hsize : g.locals.size = c.maxLocals) {argsL rest : List Value} (hlen : ∀ sig, parseMethodDescriptor y.desc = some sig → argsL.length = sig.parameters.length)
    (hstack : g.stack = argsL.reverse ++ .ref b :: rest) (hW : 2 * g.monitorRoom + (rest.map fun v => v.category).sum ≤ W9) (hdg : decode c.code g.pc = .ok (.invokevirtual index, 3))
    (hpre : ∀ vm₁, s.WarmedH vm₁ → Pre ⟨T.setVm vm₁, locs, cells, slots⟩ (Value.ref b :: argsL).toArray) :
    (∃ (v : Option Value) (vm₁ : Vm) (B : Pt), s.WarmedH vm₁ ∧ Stand p l e R s m args below meth c B.U B.locs B.cells B.slots ∧ Post ⟨T.setVm vm₁, locs, cells, slots⟩ (Value.ref b :: argsL).toArray v B ∧
      ∀ target, Steps p.tables e below (B.U.setTop { g with pc := g.pc + 3, stack := v.toList ++ rest }) target → Steps p.tables e below (T.setTop g) target) ∨
    (∃ (q : Addr) (vm₁ : Vm) (B : Pt), s.WarmedH vm₁ ∧ Stand p l e R s m args below meth c B.U B.locs B.cells B.slots ∧ PostX ⟨T.setVm vm₁, locs, cells, slots⟩ (Value.ref b :: argsL).toArray q B ∧
      Steps p.tables e below (T.setTop g) ((B.U.setTop { g with stack := rest }).pushFrame (.throwing q))) := by
  obtain ⟨mk, methM, hnamed, hmethM, hstM, habM⟩ := Cond.instanceMethod_spec hinst
  obtain ⟨methM', cM, hmethM', -, -, -, -, -, -, hsigM⟩ := Cond.code_spec hnamed hcode
  cases hmethM.symm.trans hmethM'
  obtain ⟨c2, r2, m2, q1, q2, q3, q4, kP, hkP, hkPi⟩ := Cond.selects_spec hsel
  cases hcls.symm.trans q1
  cases (State.methodFound?_of_named hnamed hy).symm.trans q2
  cases hnamed.symm.trans q3
  have hselP : selectMethod e.platform s.vm cellB.cls mk = .method mk := by rw [Launch.admits_selectMethod X.admits]; exact q4
  obtain ⟨vm₁, X₁, hstep₁⟩ := X.invokevirtual hexec hown hlink hnamed hmethM hstM hkP hkPi hy (a := b) (cell := cellB) hcell
    (fun z h => by rw [h] at hobj; cases hobj) hselP hmethM habM hkP hkPi (g := g) hg (argsL := argsL) (rest := rest) (hlen _ hsigM) hstack hdg
  rcases hK m meth c ⟨T.setVm vm₁, locs, cells, slots⟩ { g with stack := rest } (.invokevirtual index) mk (Value.ref b :: argsL).toArray X₁ hg hsize hdg hW (X₁.named hnamed) (hpre vm₁ X₁.warmed) with ⟨v, B, X', hpost, hsteps⟩ | ⟨q, B, X', hpost, hsteps⟩
  · exact Or.inl ⟨v, vm₁, B, X₁.warmed, X', hpost, fun target h => hstep₁ _ fun acts => by rw [doInvoke_state]; exact hsteps.trans h⟩
  · exact Or.inr ⟨q, vm₁, B, X₁.warmed, X', hpost, hstep₁ _ fun acts => by rw [doInvoke_state]; exact hsteps⟩
theorem vx_callS (X : Stand p l e R s m args below meth c T locs cells slots) (hexec : p.tables.exec = Jvm.exec) {own : String} {index : Nat} {y : MethodName} {bytes : ByteArray} {maxL : Nat} {ret : Option FieldType}
    (hown : s.vm.findClass own = some m.cls) (hlink : (Cond.methodLink own index y).before args s = true) (hstat : (Cond.static y).before args s = true) (hinit : (Cond.initialized y.cls).before args s = true)
    (hcode : (Cond.code y bytes maxL ret).before args s = true) (hy : y.cls ≠ "java/lang/invoke/MethodHandle" ∧ y.cls ≠ "java/lang/invoke/VarHandle")
    {W9 : Nat} {Pre : Pt → Array Value → Prop} {Post : Pt → Array Value → Option Value → Pt → Prop} {PostX : Pt → Array Value → Addr → Pt → Prop} (hK : vx_Back l R p e below s args y 3 W9 Pre Post PostX)
    {g : JFrame} (hg : g.method = m) (hsize : g.locals.size = c.maxLocals) {argsL rest : List Value} (hlen : ∀ sig, parseMethodDescriptor y.desc = some sig → argsL.length = sig.parameters.length)
    (hstack : g.stack = argsL.reverse ++ rest) (hW : 2 * g.monitorRoom + (rest.map fun v => v.category).sum ≤ W9) (hdg : decode c.code g.pc = .ok (.invokestatic index, 3))
    (hpre : ∀ vm₁, s.WarmedH vm₁ → Pre ⟨T.setVm vm₁, locs, cells, slots⟩ argsL.toArray) :
    (∃ (v : Option Value) (vm₁ : Vm) (B : Pt), s.WarmedH vm₁ ∧ Stand p l e R s m args below meth c B.U B.locs B.cells B.slots ∧ Post ⟨T.setVm vm₁, locs, cells, slots⟩ argsL.toArray v B ∧
      ∀ target, Steps p.tables e below (B.U.setTop { g with pc := g.pc + 3, stack := v.toList ++ rest }) target → Steps p.tables e below (T.setTop g) target) ∨
    (∃ (q : Addr) (vm₁ : Vm) (B : Pt), s.WarmedH vm₁ ∧ Stand p l e R s m args below meth c B.U B.locs B.cells B.slots ∧ PostX ⟨T.setVm vm₁, locs, cells, slots⟩ argsL.toArray q B ∧
      Steps p.tables e below (T.setTop g) ((B.U.setTop { g with stack := rest }).pushFrame (.throwing q))) := by
  obtain ⟨mk, hnamed⟩ := Cond.code_named hcode
  obtain ⟨methM, cM, hmethM, -, -, -, -, -, -, hsigM⟩ := Cond.code_spec hnamed hcode
  have hstatic : methM.isStatic = true := Cond.static_spec hnamed hmethM hstat
  obtain ⟨kP, hkP, -⟩ := className_of_methodNamed hnamed
  have hinitP : kP.init = .initialized := Cond.initialized_spec (findClass_of_methodNamed hnamed) hkP hinit
  obtain ⟨vm₁, X₁, hstep₁⟩ := X.invokestatic hexec hown hlink hnamed hmethM hstatic hkP hinitP hy (g := g) hg (argsL := argsL) (rest := rest) (hlen _ hsigM) hstack hdg
  rcases hK m meth c ⟨T.setVm vm₁, locs, cells, slots⟩ { g with stack := rest } (.invokestatic index) mk argsL.toArray X₁ hg hsize hdg hW (X₁.named hnamed) (hpre vm₁ X₁.warmed) with ⟨v, B, X', hpost, hsteps⟩ | ⟨q, B, X', hpost, hsteps⟩
  · exact Or.inl ⟨v, vm₁, B, X₁.warmed, X', hpost, fun target h => hstep₁ _ fun acts => by rw [doInvoke_state]; exact hsteps.trans h⟩
  · exact Or.inr ⟨q, vm₁, B, X₁.warmed, X', hpost, hstep₁ _ fun acts => by rw [doInvoke_state]; exact hsteps⟩
end Calls
theorem vx_cls {s : State} {T : State} {vm₁ : Vm} {E : String} {k : ClassId} (hW : s.WarmedH vm₁) (h : (T.setVm vm₁).vm.findClass E = some k) : s.vm.findClass E = some k := by
  have h1 : vm₁.findClass E = some k := h
  rw [hW.alike.findClass] at h1
  exact h1
/-- the method's frame g, with q thrown over it -/
def vx_W (p : Program) (l : Launch) (e : Env) (R : Room) (s : State) (m : MethodId) (args : Array Value) (below : List Frame) (meth : Method) (c : Code) (H : Heap) (locs : List Loc) (cells slots : Nat) (Q : State → Prop) (g : JFrame) (q : Addr) : Prop :=
  ∀ T : State, T.heap = H → Stand p l e R s m args below meth c T locs cells slots → ∃ t, Steps p.tables e below ((T.setTop g).pushFrame (.throwing q)) t ∧ Q t
def vx_Run (p : Program) (l : Launch) (e : Env) (R : Room) (s : State) (m : MethodId) (args : Array Value) (below : List Frame) (meth : Method) (c : Code) (H : Heap) (locs : List Loc) (cells slots mc ms : Nat) (g : JFrame) (rest : List Value) (Qa : State → Outcome → State → Prop) (XC : String → State → State → Prop) (free : Addr → Prop) : Prop :=
  ∀ T : State, T.heap = H → Stand p l e R s m args below meth c T locs cells slots →
    (∃ (v : Option Value) (st₀ t T' : State) (L : List Loc), st₀.heap = H ∧ Stand p l e R s m args below meth c T' (locs ++ L) (cells + mc) (slots + ms) ∧ (∀ q ∈ L, free q.base) ∧ T'.heap = t.heap ∧ T'.vm = t.vm ∧ Qa st₀ (.returned v) t ∧
      Goes p e below T g T' { g with pc := g.pc + 3, stack := v.toList ++ rest }) ∨
    (∃ (q : Addr) (st₀ t T' : State) (L : List Loc) (E : String) (ce : Cell), st₀.heap = H ∧ Stand p l e R s m args below meth c T' (locs ++ L) (cells + mc) (slots + ms) ∧ (∀ z ∈ L, free z.base) ∧ T'.heap = t.heap ∧ T'.vm = t.vm ∧ XC E st₀ t ∧ t.heap[q]? = some ce ∧ ce.vm = .none ∧ s.vm.findClass E = some ce.cls ∧
      Steps p.tables e below (T.setTop g) ((T'.setTop { g with stack := rest }).pushFrame (.throwing q)))
def vx_X {S : Type} (px : S → Prop) (B : String → S → State → Prop) (A : Nat → Prop) : String → State → State → Prop := fun E st t => ∃ u : S, px u ∧ B E u t ∧ va_F A st t
section Runs
variable {p : Program} {l : Launch} {e : Env} {R : Room} {s : State} {m : MethodId} {args : Array Value} {below : List Frame} {meth : Method} {c : Code} {H : Heap} {locs : List Loc} {cells slots : Nat}
variable {y : MethodName} {bytes cc : ByteArray} {maxL nL mc ms n index : Nat} {ret : Option FieldType} {ws : List Cond} {rm : Room} {Pc : Array Value → State → Prop} {Qc : Array Value → State → Outcome → State → Prop} {XC : String → State → State → Prop} {free : Addr → Prop} {Ts : List Cond} {own C : String} {b : Addr} {As rest : List Value} {g : JFrame}
theorem vx_callBack (cb : CallB R s args own index y bytes maxL ret ws rm mc ms n) (hM : vx_Met l y ws rm Pc Qc XC mc ms free) (hbl : FrameBlind Pc) : vx_Back l R p e below s args y 3 8 (PreOf R mc ms Pc) (PostOf Qc mc ms free) (vx_Post XC mc ms free) := by
  obtain ⟨hrc, hrs, hfr, hlo, hws, hcw, -, hini, -⟩ := cb
  exact vx_back (bytes := bytes) (maxL := maxL) (ret := ret) hM hbl hrc hrs hfr hlo hws hcw (fun a' U hW => word_at hW (Or.inl (by first | rfl | simp [Cond.onTables, Cond.keeps, Cond.steady])) hini)
theorem vx_runV (S : CallFix p m c cc nL s args Ts own) (hM : vx_Met l y ws rm Pc Qc XC mc ms free) (cw : CallW R s args own C index y bytes maxL ret ws rm mc ms n) (hp : PreV s H C b Pc As)
    (hg : g.method = m) (hn : As.length = n) (hsize : g.locals.size = nL) (hstack : g.stack = As.reverse ++ .ref b :: rest) (hW : 2 * g.monitorRoom + (rest.map fun v => v.category).sum ≤ 8) (hdg : decode cc g.pc = .ok (.invokevirtual index, 3)) (hf : cells + mc ≤ R.cells ∧ slots + ms ≤ R.slots) :
    vx_Run p l e R s m args below meth c H locs cells slots mc ms g rest (Qc (Value.ref b :: As).toArray) XC free := by
  have hK : vx_Back l R p e below s args y 3 8 (PreOf R mc ms Pc) (PostOf Qc mc ms free) (vx_Post XC mc ms free) := vx_callBack cw.1 hM hp.1
  obtain ⟨⟨-, -, -, -, -, -, hcode, -, hy, hlen, hl⟩, hin, hse⟩ := cw
  obtain ⟨hx, hb, hml, ho, -⟩ := S
  obtain ⟨-, ⟨cellB, hcB, hoB, hclB⟩, hPc⟩ := hp
  intro T hT X
  rcases vx_callV X hx (C := C) (bytes := bytes) (maxL := maxL) (ret := ret) ho hl hin hse hcode hy hK (by rw [hT]; exact hcB) hoB hclB hg (hsize.trans hml.symm) (argsL := As) (rest := rest) (fun sig h => hn.trans (hlen sig h)) hstack hW (by rw [hb]; exact hdg)
    (fun vm₁ hW₁ => ⟨hf.1, hf.2, hPc (T.setVm vm₁) hT hW₁⟩) with ⟨v, vm₁, ⟨U', l2, c2, s2⟩, hW₁, X', ⟨g', mk, t, L, e1, e2, hq, h1, hL, h2, h3⟩, st⟩ | ⟨q, vm₁, ⟨U', l2, c2, s2⟩, hW₁, X', ⟨g', mk, t, L, E, ce, e1, e2, hq, hce, hcv, hcl, h1, hL, h2, h3⟩, st⟩
  · dsimp only [Pt.U, Pt.locs, Pt.cells, Pt.slots] at X' e1 e2 h1 h2 h3 st
    subst h1; subst h2; subst h3
    exact Or.inl ⟨v, (T.setVm vm₁).calling g' mk (Value.ref b :: As).toArray, t, U', L, hT, X', hL, e1, e2, hq, st⟩
  · dsimp only [Pt.U, Pt.locs, Pt.cells, Pt.slots] at X' e1 e2 h1 h2 h3 st hcl
    subst h1; subst h2; subst h3
    exact Or.inr ⟨q, (T.setVm vm₁).calling g' mk (Value.ref b :: As).toArray, t, U', L, E, ce, hT, X', hL, e1, e2, hq, hce, hcv, vx_cls hW₁ hcl, st⟩
theorem vx_runS (S : CallFix p m c cc nL s args Ts own) (hM : vx_Met l y ws rm Pc Qc XC mc ms free) (cw : CallB R s args own index y bytes maxL ret ws rm mc ms n ∧ (Cond.static y).before args s = true) (hp : PreS s H Pc As)
    (hg : g.method = m) (hn : As.length = n) (hsize : g.locals.size = nL) (hstack : g.stack = As.reverse ++ rest) (hW : 2 * g.monitorRoom + (rest.map fun v => v.category).sum ≤ 8) (hdg : decode cc g.pc = .ok (.invokestatic index, 3)) (hf : cells + mc ≤ R.cells ∧ slots + ms ≤ R.slots) :
    vx_Run p l e R s m args below meth c H locs cells slots mc ms g rest (Qc As.toArray) XC free := by
  have hK : vx_Back l R p e below s args y 3 8 (PreOf R mc ms Pc) (PostOf Qc mc ms free) (vx_Post XC mc ms free) := vx_callBack cw.1 hM hp.1
  obtain ⟨⟨-, -, -, -, -, -, hcode, hini, hy, hlen, hl⟩, hstt⟩ := cw
  obtain ⟨hx, hb, hml, ho, -⟩ := S
  intro T hT X
  rcases vx_callS X hx (bytes := bytes) (maxL := maxL) (ret := ret) ho hl hstt hini hcode hy hK hg (hsize.trans hml.symm) (argsL := As) (rest := rest) (fun sig h => hn.trans (hlen sig h)) hstack hW (by rw [hb]; exact hdg)
    (fun vm₁ hW₁ => ⟨hf.1, hf.2, hp.2 (T.setVm vm₁) hT hW₁⟩) with ⟨v, vm₁, ⟨U', l2, c2, s2⟩, hW₁, X', ⟨g', mk, t, L, e1, e2, hq, h1, hL, h2, h3⟩, st⟩ | ⟨q, vm₁, ⟨U', l2, c2, s2⟩, hW₁, X', ⟨g', mk, t, L, E, ce, e1, e2, hq, hce, hcv, hcl, h1, hL, h2, h3⟩, st⟩
  · dsimp only [Pt.U, Pt.locs, Pt.cells, Pt.slots] at X' e1 e2 h1 h2 h3 st
    subst h1; subst h2; subst h3
    exact Or.inl ⟨v, (T.setVm vm₁).calling g' mk As.toArray, t, U', L, hT, X', hL, e1, e2, hq, st⟩
  · dsimp only [Pt.U, Pt.locs, Pt.cells, Pt.slots] at X' e1 e2 h1 h2 h3 st hcl
    subst h1; subst h2; subst h3
    exact Or.inr ⟨q, (T.setVm vm₁).calling g' mk As.toArray, t, U', L, E, ce, hT, X', hL, e1, e2, hq, hce, hcv, vx_cls hW₁ hcl, st⟩
end Runs
section Rows
variable {p : Program} {l : Launch} {e : Env} {R : Room} {s : State} {m : MethodId} {args : Array Value} {below : List Frame} {meth : Method} {c : Code} {H : Heap} {locs : List Loc} {cells slots : Nat} {Q : State → Prop}
variable {mc ms : Nat} {free : Addr → Prop} {A0 A1 : Nat → Prop} {H0 : Heap} {a : Array Value} {pc : Nat} {ls : Array Slot} {st0 rest : List Value}
theorem vx_keep {st₀ t T' : State} {L : List Loc} (h0 : st₀.heap = H) (e1 : T'.heap = t.heap) (hS : va_S A0 H0 H locs) (hA : ∀ q, q < H.size → A1 q → A0 q) (hf : ∀ q, free q → A0 q) (hL : ∀ q ∈ L, free q.base) (hF : va_F A1 st₀ t) :
    H.size ≤ T'.heap.size ∧ (∀ q : Nat, q < H.size → ¬ A1 q → T'.heap[q]? = H[q]?) ∧ va_S A0 H0 T'.heap (locs ++ L) := by
  obtain ⟨hz, hk⟩ := hF
  rw [h0] at hz hk
  exact ⟨by rw [e1]; exact hz, fun q h1 h2 => by rw [e1]; exact hk q h1 h2,
    ⟨Nat.le_trans hS.1 (by rw [e1]; exact hz), fun q h1 h2 => by rw [e1, hk q (Nat.lt_of_lt_of_le h1 hS.1) (fun z => h2 (hA q (Nat.lt_of_lt_of_le h1 hS.1) z))]; exact hS.2.1 q h1 h2, fun q hq => by
      rcases List.mem_append.mp hq with h | h
      · exact hS.2.2 q h
      · exact hf _ (hL q h)⟩⟩
theorem vx_calli {S SX : Type} {post : Int32 → S → Prop} {px : SX → Prop} {B : S → State → Prop} {BX : String → SX → State → Prop} {AX : Nat → Prop} (hr : vx_Run p l e R s m args below meth c H locs cells slots mc ms (F0 m pc ls st0) rest (va_Qi post B A1 a) (vx_X px BX AX) free) (hS : va_S A0 H0 H locs) (hA : ∀ q, q < H.size → A1 q → A0 q) (hf : ∀ q, free q → A0 q) (hAX : ∀ q, q < H.size → AX q → A0 q)
    (kx : ∀ (E : String) (ce : Cell) (q9 : Addr) (u : SX) (t : State) (H1 : Heap) (locs1 : List Loc), t.heap = H1 → s.vm.Alike t.vm → px u → BX E u t → H.size ≤ H1.size → (∀ q : Nat, q < H.size → ¬ AX q → H1[q]? = H[q]?) → va_S A0 H0 H1 locs1 → H1[q9]? = some ce → ce.vm = .none → s.vm.findClass E = some ce.cls → vx_W p l e R s m args below meth c H1 locs1 (cells + mc) (slots + ms) Q (F0 m pc ls rest) q9)
    (kk : ∀ (r : Int32) (u : S) (t : State) (H1 : Heap) (locs1 : List Loc), t.heap = H1 → s.vm.Alike t.vm → post r u → B u t → H.size ≤ H1.size → (∀ q : Nat, q < H.size → ¬ A1 q → H1[q]? = H[q]?) → va_S A0 H0 H1 locs1 → W p l e R s m args below meth c H1 locs1 (cells + mc) (slots + ms) Q (F0 m (pc + 3) ls (.int r :: rest))) : W p l e R s m args below meth c H locs cells slots Q (F0 m pc ls st0) := by
  intro T hT X
  rcases hr T hT X with ⟨v, st₀, t, T', L, h0, X', hL, e1, e2, ⟨⟨r, u, hv, hp, hb⟩, hF⟩, st⟩ | ⟨q, st₀, t, T', L, E, ce, h0, X', hL, e1, e2, ⟨u, hp, hb, hF⟩, hce, hcv, hcl, st⟩
  · cases hv
    obtain ⟨k1, k2, k3⟩ := vx_keep h0 e1 hS hA hf hL hF
    obtain ⟨t2, a1, b1⟩ := kk r u t T'.heap (locs ++ L) e1.symm (by rw [← e2]; exact X'.warmed.alike) hp hb k1 k2 k3 T' rfl X'
    exact ⟨t2, st t2 a1, b1⟩
  · obtain ⟨k1, k2, k3⟩ := vx_keep h0 e1 hS hAX hf hL hF
    obtain ⟨t2, a1, b1⟩ := kx E ce q u t T'.heap (locs ++ L) e1.symm (by rw [← e2]; exact X'.warmed.alike) hp hb k1 k2 k3 (by rw [e1]; exact hce) hcv hcl T' rfl X'
    exact ⟨t2, st.trans a1, b1⟩
theorem vx_calll {S SX : Type} {post : Int64 → S → Prop} {px : SX → Prop} {B : S → State → Prop} {BX : String → SX → State → Prop} {AX : Nat → Prop} (hr : vx_Run p l e R s m args below meth c H locs cells slots mc ms (F0 m pc ls st0) rest (va_Ql post B A1 a) (vx_X px BX AX) free) (hS : va_S A0 H0 H locs) (hA : ∀ q, q < H.size → A1 q → A0 q) (hf : ∀ q, free q → A0 q) (hAX : ∀ q, q < H.size → AX q → A0 q)
    (kx : ∀ (E : String) (ce : Cell) (q9 : Addr) (u : SX) (t : State) (H1 : Heap) (locs1 : List Loc), t.heap = H1 → s.vm.Alike t.vm → px u → BX E u t → H.size ≤ H1.size → (∀ q : Nat, q < H.size → ¬ AX q → H1[q]? = H[q]?) → va_S A0 H0 H1 locs1 → H1[q9]? = some ce → ce.vm = .none → s.vm.findClass E = some ce.cls → vx_W p l e R s m args below meth c H1 locs1 (cells + mc) (slots + ms) Q (F0 m pc ls rest) q9)
    (kk : ∀ (r : Int64) (u : S) (t : State) (H1 : Heap) (locs1 : List Loc), t.heap = H1 → s.vm.Alike t.vm → post r u → B u t → H.size ≤ H1.size → (∀ q : Nat, q < H.size → ¬ A1 q → H1[q]? = H[q]?) → va_S A0 H0 H1 locs1 → W p l e R s m args below meth c H1 locs1 (cells + mc) (slots + ms) Q (F0 m (pc + 3) ls (.long r :: rest))) : W p l e R s m args below meth c H locs cells slots Q (F0 m pc ls st0) := by
  intro T hT X
  rcases hr T hT X with ⟨v, st₀, t, T', L, h0, X', hL, e1, e2, ⟨⟨r, u, hv, hp, hb⟩, hF⟩, st⟩ | ⟨q, st₀, t, T', L, E, ce, h0, X', hL, e1, e2, ⟨u, hp, hb, hF⟩, hce, hcv, hcl, st⟩
  · cases hv
    obtain ⟨k1, k2, k3⟩ := vx_keep h0 e1 hS hA hf hL hF
    obtain ⟨t2, a1, b1⟩ := kk r u t T'.heap (locs ++ L) e1.symm (by rw [← e2]; exact X'.warmed.alike) hp hb k1 k2 k3 T' rfl X'
    exact ⟨t2, st t2 a1, b1⟩
  · obtain ⟨k1, k2, k3⟩ := vx_keep h0 e1 hS hAX hf hL hF
    obtain ⟨t2, a1, b1⟩ := kx E ce q u t T'.heap (locs ++ L) e1.symm (by rw [← e2]; exact X'.warmed.alike) hp hb k1 k2 k3 (by rw [e1]; exact hce) hcv hcl T' rfl X'
    exact ⟨t2, st.trans a1, b1⟩
theorem vx_callf {S SX : Type} {post : UInt32 → S → Prop} {px : SX → Prop} {B : S → State → Prop} {BX : String → SX → State → Prop} {AX : Nat → Prop} (hr : vx_Run p l e R s m args below meth c H locs cells slots mc ms (F0 m pc ls st0) rest (va_Qf post B A1 a) (vx_X px BX AX) free) (hS : va_S A0 H0 H locs) (hA : ∀ q, q < H.size → A1 q → A0 q) (hf : ∀ q, free q → A0 q) (hAX : ∀ q, q < H.size → AX q → A0 q)
    (kx : ∀ (E : String) (ce : Cell) (q9 : Addr) (u : SX) (t : State) (H1 : Heap) (locs1 : List Loc), t.heap = H1 → s.vm.Alike t.vm → px u → BX E u t → H.size ≤ H1.size → (∀ q : Nat, q < H.size → ¬ AX q → H1[q]? = H[q]?) → va_S A0 H0 H1 locs1 → H1[q9]? = some ce → ce.vm = .none → s.vm.findClass E = some ce.cls → vx_W p l e R s m args below meth c H1 locs1 (cells + mc) (slots + ms) Q (F0 m pc ls rest) q9)
    (kk : ∀ (r : UInt32) (u : S) (t : State) (H1 : Heap) (locs1 : List Loc), t.heap = H1 → s.vm.Alike t.vm → post r u → B u t → H.size ≤ H1.size → (∀ q : Nat, q < H.size → ¬ A1 q → H1[q]? = H[q]?) → va_S A0 H0 H1 locs1 → W p l e R s m args below meth c H1 locs1 (cells + mc) (slots + ms) Q (F0 m (pc + 3) ls (.float r :: rest))) : W p l e R s m args below meth c H locs cells slots Q (F0 m pc ls st0) := by
  intro T hT X
  rcases hr T hT X with ⟨v, st₀, t, T', L, h0, X', hL, e1, e2, ⟨⟨r, u, hv, hp, hb⟩, hF⟩, st⟩ | ⟨q, st₀, t, T', L, E, ce, h0, X', hL, e1, e2, ⟨u, hp, hb, hF⟩, hce, hcv, hcl, st⟩
  · cases hv
    obtain ⟨k1, k2, k3⟩ := vx_keep h0 e1 hS hA hf hL hF
    obtain ⟨t2, a1, b1⟩ := kk r u t T'.heap (locs ++ L) e1.symm (by rw [← e2]; exact X'.warmed.alike) hp hb k1 k2 k3 T' rfl X'
    exact ⟨t2, st t2 a1, b1⟩
  · obtain ⟨k1, k2, k3⟩ := vx_keep h0 e1 hS hAX hf hL hF
    obtain ⟨t2, a1, b1⟩ := kx E ce q u t T'.heap (locs ++ L) e1.symm (by rw [← e2]; exact X'.warmed.alike) hp hb k1 k2 k3 (by rw [e1]; exact hce) hcv hcl T' rfl X'
    exact ⟨t2, st.trans a1, b1⟩
theorem vx_calld {S SX : Type} {post : UInt64 → S → Prop} {px : SX → Prop} {B : S → State → Prop} {BX : String → SX → State → Prop} {AX : Nat → Prop} (hr : vx_Run p l e R s m args below meth c H locs cells slots mc ms (F0 m pc ls st0) rest (va_Qd post B A1 a) (vx_X px BX AX) free) (hS : va_S A0 H0 H locs) (hA : ∀ q, q < H.size → A1 q → A0 q) (hf : ∀ q, free q → A0 q) (hAX : ∀ q, q < H.size → AX q → A0 q)
    (kx : ∀ (E : String) (ce : Cell) (q9 : Addr) (u : SX) (t : State) (H1 : Heap) (locs1 : List Loc), t.heap = H1 → s.vm.Alike t.vm → px u → BX E u t → H.size ≤ H1.size → (∀ q : Nat, q < H.size → ¬ AX q → H1[q]? = H[q]?) → va_S A0 H0 H1 locs1 → H1[q9]? = some ce → ce.vm = .none → s.vm.findClass E = some ce.cls → vx_W p l e R s m args below meth c H1 locs1 (cells + mc) (slots + ms) Q (F0 m pc ls rest) q9)
    (kk : ∀ (r : UInt64) (u : S) (t : State) (H1 : Heap) (locs1 : List Loc), t.heap = H1 → s.vm.Alike t.vm → post r u → B u t → H.size ≤ H1.size → (∀ q : Nat, q < H.size → ¬ A1 q → H1[q]? = H[q]?) → va_S A0 H0 H1 locs1 → W p l e R s m args below meth c H1 locs1 (cells + mc) (slots + ms) Q (F0 m (pc + 3) ls (.double r :: rest))) : W p l e R s m args below meth c H locs cells slots Q (F0 m pc ls st0) := by
  intro T hT X
  rcases hr T hT X with ⟨v, st₀, t, T', L, h0, X', hL, e1, e2, ⟨⟨r, u, hv, hp, hb⟩, hF⟩, st⟩ | ⟨q, st₀, t, T', L, E, ce, h0, X', hL, e1, e2, ⟨u, hp, hb, hF⟩, hce, hcv, hcl, st⟩
  · cases hv
    obtain ⟨k1, k2, k3⟩ := vx_keep h0 e1 hS hA hf hL hF
    obtain ⟨t2, a1, b1⟩ := kk r u t T'.heap (locs ++ L) e1.symm (by rw [← e2]; exact X'.warmed.alike) hp hb k1 k2 k3 T' rfl X'
    exact ⟨t2, st t2 a1, b1⟩
  · obtain ⟨k1, k2, k3⟩ := vx_keep h0 e1 hS hAX hf hL hF
    obtain ⟨t2, a1, b1⟩ := kx E ce q u t T'.heap (locs ++ L) e1.symm (by rw [← e2]; exact X'.warmed.alike) hp hb k1 k2 k3 (by rw [e1]; exact hce) hcv hcl T' rfl X'
    exact ⟨t2, st.trans a1, b1⟩
theorem vx_callv {S SX : Type} {post : S → Prop} {px : SX → Prop} {B : S → State → Prop} {BX : String → SX → State → Prop} {AX : Nat → Prop} (hr : vx_Run p l e R s m args below meth c H locs cells slots mc ms (F0 m pc ls st0) rest (va_Qv post B A1 a) (vx_X px BX AX) free) (hS : va_S A0 H0 H locs) (hA : ∀ q, q < H.size → A1 q → A0 q) (hf : ∀ q, free q → A0 q) (hAX : ∀ q, q < H.size → AX q → A0 q)
    (kx : ∀ (E : String) (ce : Cell) (q9 : Addr) (u : SX) (t : State) (H1 : Heap) (locs1 : List Loc), t.heap = H1 → s.vm.Alike t.vm → px u → BX E u t → H.size ≤ H1.size → (∀ q : Nat, q < H.size → ¬ AX q → H1[q]? = H[q]?) → va_S A0 H0 H1 locs1 → H1[q9]? = some ce → ce.vm = .none → s.vm.findClass E = some ce.cls → vx_W p l e R s m args below meth c H1 locs1 (cells + mc) (slots + ms) Q (F0 m pc ls rest) q9)
    (kk : ∀ (u : S) (t : State) (H1 : Heap) (locs1 : List Loc), t.heap = H1 → s.vm.Alike t.vm → post u → B u t → H.size ≤ H1.size → (∀ q : Nat, q < H.size → ¬ A1 q → H1[q]? = H[q]?) → va_S A0 H0 H1 locs1 → W p l e R s m args below meth c H1 locs1 (cells + mc) (slots + ms) Q (F0 m (pc + 3) ls (rest))) : W p l e R s m args below meth c H locs cells slots Q (F0 m pc ls st0) := by
  intro T hT X
  rcases hr T hT X with ⟨v, st₀, t, T', L, h0, X', hL, e1, e2, ⟨⟨u, hv, hp, hb⟩, hF⟩, st⟩ | ⟨q, st₀, t, T', L, E, ce, h0, X', hL, e1, e2, ⟨u, hp, hb, hF⟩, hce, hcv, hcl, st⟩
  · cases hv
    obtain ⟨k1, k2, k3⟩ := vx_keep h0 e1 hS hA hf hL hF
    obtain ⟨t2, a1, b1⟩ := kk u t T'.heap (locs ++ L) e1.symm (by rw [← e2]; exact X'.warmed.alike) hp hb k1 k2 k3 T' rfl X'
    exact ⟨t2, st t2 a1, b1⟩
  · obtain ⟨k1, k2, k3⟩ := vx_keep h0 e1 hS hAX hf hL hF
    obtain ⟨t2, a1, b1⟩ := kx E ce q u t T'.heap (locs ++ L) e1.symm (by rw [← e2]; exact X'.warmed.alike) hp hb k1 k2 k3 (by rw [e1]; exact hce) hcv hcl T' rfl X'
    exact ⟨t2, st.trans a1, b1⟩
/-- caught by the row x of this method's table; the rows ahead don't take it -/
theorem vx_catch {own name : String} {E : String} {ce : Cell} {q : Addr} (hown : s.vm.findClass own = some m.cls) (pre : List ExceptionTableEntry) (x : ExceptionTableEntry) (suf : List ExceptionTableEntry) (hsplit : c.exceptionTable.toList = pre ++ x :: suf)
    (hpass : ∀ z ∈ pre, covers z pc = false ∨ (z.catchType ≠ 0 ∧ ∃ nm : String, (Cond.classLink own z.catchType nm).before args s = true ∧ va_Nc E nm s)) (hx : covers x pc = true) (h0 : x.catchType ≠ 0)
    (hlink : (Cond.classLink own x.catchType name).before args s = true) (hcast : (Cond.castable E name).before args s = true) (hcell : H[q]? = some ce) (hv : ce.vm = .none) (hcl : s.vm.findClass E = some ce.cls)
    (kk : W p l e R s m args below meth c H locs cells slots Q (F0 m x.handlerPc ls [.ref q])) : vx_W p l e R s m args below meth c H locs cells slots Q (F0 m pc ls rest) q := by
  intro T hT X
  have hpl : e.platform.magicAccessors = ({} : Platform).magicAccessors := by rw [X.admits.platform]
  obtain ⟨c3, c4, hc3, hc4, hasg⟩ := Cond.castable_spec hcast
  cases Option.some.inj (hc3.symm.trans hcl)
  obtain ⟨c5, hc5, hcl5⟩ := Cond.classLink_spec hown hlink e.platform hpl
  cases Option.some.inj (hc4.symm.trans hc5)
  obtain ⟨vm', X', st⟩ := X.thenCaughtThrough q (g := F0 m pc ls rest) rfl (Steps.refl _) (by rw [hT]; exact hcell) (by rw [hv]; rfl) (by obtain ⟨k9, h9, -⟩ := Vm.findClass_spec hcl; exact ⟨k9, h9⟩) pre x suf hsplit
    (fun z hz => by
      rcases hpass z hz with h | ⟨hz0, nm, hl1, hn1⟩
      · exact Or.inl h
      · obtain ⟨c6, hc6, hcl6⟩ := Cond.classLink_spec hown hl1 e.platform hpl
        obtain ⟨a8, b8, h1, h2, h3⟩ := hn1
        cases Option.some.inj (h1.symm.trans hcl)
        cases Option.some.inj (h2.symm.trans hc6)
        exact Or.inr ⟨hz0, _, hcl6, h3⟩) hx (Or.inr ⟨h0, c4, hcl5, hasg⟩)
  obtain ⟨t, a1, b1⟩ := kk (T.setVm vm') hT X'
  exact ⟨t, st.trans a1, b1⟩
end Rows
section Ends
variable {p : Program} {l : Launch} {e : Env} {R : Room} {s : State} {m : MethodId} {args : Array Value} {below : List Frame} {meth : Method} {c : Code} {H : Heap} {locs : List Loc} {cells slots : Nat} {Q : State → Prop}
variable {mc ms : Nat} {free : Addr → Prop} {A0 A1 : Nat → Prop} {H0 : Heap} {a : Array Value} {ls : Array Slot} {st0 rest : List Value}
variable {Qc : Array Value → State → Outcome → State → Prop} {XC : String → State → State → Prop}
/-- what a body that may throw owes at its end -/
def vx_MQ (below : List Frame) (Qc : Array Value → State → Outcome → State → Prop) (XC : String → State → State → Prop) (a : Array Value) (s : State) (mc ms : Nat) (free : Addr → Prop) : State → Prop := fun t =>
  ∃ o, t.status = .running ∧ Ended t below o ∧ vx_Q Qc XC mc ms free a s o t
theorem vx_ret {g : JFrame} {mc ms : Nat} (k : W p l e R s m args below meth c H locs cells slots (MQ below Qc args s mc ms free) g) : W p l e R s m args below meth c H locs cells slots (vx_MQ below Qc XC args s mc ms free) g := by
  intro T hT X
  obtain ⟨t, a1, o, b1, b2, b3, b4⟩ := k T hT X
  exact ⟨t, a1, o, b1, b2, Or.inl ⟨b3, b4⟩⟩
/-- not caught here: it goes on to the caller -/
theorem vx_widen {g : JFrame} {q : Addr} {k n : Nat} (h1 : cells ≤ k) (h2 : slots ≤ n) (kk : vx_W p l e R s m args below meth c H locs k n Q g q) : vx_W p l e R s m args below meth c H locs cells slots Q g q := fun T hT X => kk T hT (stand_widen X h1 h2)
theorem vx_out {pc : Nat} {E : String} {ce : Cell} {q : Addr} {mc ms : Nat} (hout : ∀ x ∈ c.exceptionTable.toList, covers x pc = false) (hlocks : meth.locks = false) (hcell : H[q]? = some ce) (hv : ce.vm = .none) (hcl : s.vm.findClass E = some ce.cls)
    (hx : ∀ t : State, t.heap = H → s.vm.Alike t.vm → XC E s t) (hf : ∀ z ∈ locs, free z.base) (hc : cells ≤ mc) (hs : slots ≤ ms) :
    vx_W p l e R s m args below meth c H locs cells slots (vx_MQ below Qc XC args s mc ms free) (F0 m pc ls rest) q := by
  intro T hT X
  obtain ⟨st1, hrun, hend, hW, hsm⟩ := X.leaveThrown q (g := F0 m pc ls rest) rfl rfl rfl hout hlocks
  have hcell9 : (T.setFrames (.throwing q :: below)).heap[q]? = some ce := by
    show T.heap[q]? = some ce
    rw [hT]; exact hcell
  exact ⟨_, st1, .threw q, hrun, hend, Or.inr ⟨q, rfl, E, ce, locs, hx _ hT hW.alike, hcell9, hv, hcl, hW, hsm.mono hc hs, hf⟩⟩
theorem vx_frame {U : State} {k n : Nat} (h : s.sameButNew ({ U with vm := s.vm } : State) locs k n) : s.heap.size ≤ U.heap.size ∧ ∀ q : Nat, q < s.heap.size → (∀ z ∈ locs, z.base ≠ q) → U.heap[q]? = s.heap[q]? := by
  obtain ⟨-, h2, -, -, -, h6⟩ := h
  refine ⟨h2, fun q hq hz => ?_⟩
  obtain ⟨c9, e1, e2, e3, e4⟩ := h6 q _ (Array.getElem?_eq_getElem hq)
  have hs : c9.slots = (s.heap[q]).slots := Array.ext_getElem? fun i => e4 i fun hm => hz _ hm rfl
  have h9 : c9 = s.heap[q] := by
    rw [hs] at e2
    exact e2
  have e5 : U.heap[q]? = some c9 := e1
  rw [e5, h9, Array.getElem?_eq_getElem hq]
/-- the words of a throw but the four that speak of the heap -/
def vx_no (w : Cond) : Bool := decide (w ≠ .isRef (.static Bundle.tN "UNASSIGNED_STACK" Bundle.steD)) && decide (w ≠ .isRef (.static Bundle.tN "SUPPRESSED_SENTINEL" Bundle.listD)) && decide (w ≠ .laysStatic Bundle.tN "UNASSIGNED_STACK" Bundle.steD) && decide (w ≠ .laysStatic Bundle.tN "SUPPRESSED_SENTINEL" Bundle.listD)
def vx_at0 (own : String) (ic : Nat) (X : String) (names : List String) : List Cond := (Bundle.ownAtoms0 own ic X names).filter vx_no
def vx_atS (own : String) (ic : Nat) (X : String) (names : List String) : List Cond := (Bundle.ownAtoms own ic X names).filter vx_no
/-- a word that the tables alone decide, or a good one -/
def vx_ot (w : Cond) : Bool := w.onTables || goodWord w
theorem vx_ot_at {args a' : Array Value} {s U : State} {w : Cond} (hW : s.WarmedH U.vm) (hvm : s.vm = U.vm) (hg : vx_ot w = true) (h : w.before args s = true) : w.before a' U = true := by
  simp only [vx_ot, Bool.or_eq_true] at hg
  rcases hg with hg | hg
  · exact va_tabs hg hvm h
  · exact word_at hW (good_of_word hg) h
/-- a list's words: the good ones out of the method's own list, the others by premises of their own -/
theorem vx_hat {args : Array Value} {s : State} {L B : List Cond} (h1 : ∀ w ∈ L.filter goodWord, w.before args s = true) (h2 : ∀ w ∈ L.filter (fun w => !goodWord w), w ∈ B) (h3 : ∀ w ∈ B, w.before args s = true) : ∀ w ∈ L, w.before args s = true := by
  intro w hw
  by_cases g : goodWord w = true
  · exact h1 w (List.mem_filter.mpr ⟨hw, g⟩)
  · refine h3 w (h2 w (List.mem_filter.mpr ⟨hw, ?_⟩))
    show (!goodWord w) = true
    cases hgw : goodWord w
    · rfl
    · exact absurd hgw g
theorem vx_c {args : Array Value} {s : State} {w : Cond} {B : List Cond} (h : w.before args s = true) (t : ∀ w ∈ B, w.before args s = true) : ∀ w' ∈ w :: B, w'.before args s = true := fun w' h' => (List.mem_cons.mp h').elim (fun e => by rw [e]; exact h) (t w')
theorem vx_n {args : Array Value} {s : State} : ∀ w ∈ ([] : List Cond), w.before args s = true := fun _ h => nomatch h
theorem vx_own {args : Array Value} {s : State} {L : List Cond} (h1 : ∀ w ∈ L.filter vx_no, w.before args s = true)
    (hU : (Cond.isRef (.static Bundle.tN "UNASSIGNED_STACK" Bundle.steD)).before args s = true) (hN : (Cond.isRef (.static Bundle.tN "SUPPRESSED_SENTINEL" Bundle.listD)).before args s = true)
    (lU : (Cond.laysStatic Bundle.tN "UNASSIGNED_STACK" Bundle.steD).before args s = true) (lN : (Cond.laysStatic Bundle.tN "SUPPRESSED_SENTINEL" Bundle.listD).before args s = true) : ∀ w ∈ L, w.before args s = true := by
  intro w hw
  by_cases e1 : w = .isRef (.static Bundle.tN "UNASSIGNED_STACK" Bundle.steD)
  · rw [e1]; exact hU
  · by_cases e2 : w = .isRef (.static Bundle.tN "SUPPRESSED_SENTINEL" Bundle.listD)
    · rw [e2]; exact hN
    · by_cases e3 : w = .laysStatic Bundle.tN "UNASSIGNED_STACK" Bundle.steD
      · rw [e3]; exact lU
      · by_cases e4 : w = .laysStatic Bundle.tN "SUPPRESSED_SENTINEL" Bundle.listD
        · rw [e4]; exact lN
        · exact h1 w (List.mem_filter.mpr ⟨hw, by unfold vx_no; rw [decide_eq_true e1, decide_eq_true e2, decide_eq_true e3, decide_eq_true e4]; rfl⟩)
/-- where a static field lies, its class's statics cell in H -/
def vx_L (C n d : String) (A : Nat → Prop) (U : State) (H : Heap) : Prop := ∃ (c : ClassId) (k : Class) (i : Nat) (f : Field) (a : Nat) (cell : Cell), U.vm.findClass C = some c ∧ U.fieldFound? C n d = some (c, k, i, f) ∧ f.isStatic = true ∧ k.statics = some a ∧ H[a]? = some cell ∧ cell.vm.isStatics = true ∧ cell.cls = c ∧ f.slot < cell.slots.size ∧ k.staticTypes[f.slot]? = some f.type ∧ ¬ A a
theorem vx_L.moved {C n d : String} {A : Nat → Prop} {u U : State} {H : Heap} (hvm : u.vm.Alike U.vm) (h : vx_L C n d A u H) : vx_L C n d A U H := by
  obtain ⟨c, k, i, f, a, cell, h1, h2, h3, h4, h5, h6, h7, h8, h9, h10⟩ := h
  obtain ⟨k', hi', he⟩ := State.fieldFound?_setVm hvm h2
  exact ⟨c, k', i, f, a, cell, by rw [hvm.findClass]; exact h1, hi', h3, by rw [he]; exact h4, h5, h6, h7, h8, by rw [he]; exact h9, h10⟩
theorem vx_L.kept {C n d : String} {A : Nat → Prop} {U : State} {H H1 : Heap} (h : vx_L C n d A U H) (hq : ∀ a : Nat, a < H.size → ¬ A a → H1[a]? = H[a]?) : vx_L C n d A U H1 := by
  obtain ⟨c, k, i, f, a, cell, h1, h2, h3, h4, h5, h6, h7, h8, h9, h10⟩ := h
  exact ⟨c, k, i, f, a, cell, h1, h2, h3, h4, by rw [hq a (Array.getElem?_eq_some_iff.mp h5).1 h10]; exact h5, h6, h7, h8, h9, h10⟩
theorem vx_L.narrow {C n d : String} {A B : Nat → Prop} {U : State} {H : Heap} (h : vx_L C n d A U H) (hAB : ∀ q, B q → A q) : vx_L C n d B U H := by
  obtain ⟨c, k, i, f, a, cell, h1, h2, h3, h4, h5, h6, h7, h8, h9, h10⟩ := h
  exact ⟨c, k, i, f, a, cell, h1, h2, h3, h4, h5, h6, h7, h8, h9, fun z => h10 (hAB _ z)⟩
theorem vx_L.word {C n d : String} {A : Nat → Prop} {s : State} {args : Array Value} (h : vx_L C n d A s s.heap) : (Cond.laysStatic C n d).before args s = true := by
  obtain ⟨c, k, i, f, a, cell, h1, h2, h3, h4, h5, h6, h7, h8, h9, -⟩ := h
  show (Cond.laysStatic C n d).holds args s none s [] = true
  exact Cond.laysStatic_of h1 h2 h3 h4 h5 h6 h7 h8 h9
/-- .. and what it holds: null or some reference -/
def vx_Zq (C n d : String) (A : Nat → Prop) (U : State) (H : Heap) : Prop := va_Zq C n d A U H ∧ vx_L C n d A U H
theorem vx_Zq.moved {C n d : String} {A : Nat → Prop} {u U : State} {H : Heap} (hvm : u.vm.Alike U.vm) (h : vx_Zq C n d A u H) : vx_Zq C n d A U H := ⟨va_Zq.moved hvm h.1, vx_L.moved hvm h.2⟩
theorem vx_Zq.kept {C n d : String} {A : Nat → Prop} {U : State} {H H1 : Heap} (h : vx_Zq C n d A U H) (hq : ∀ a : Nat, a < H.size → ¬ A a → H1[a]? = H[a]?) : vx_Zq C n d A U H1 := ⟨va_Zq.kept h.1 hq, vx_L.kept h.2 hq⟩
theorem vx_Zq.narrow {C n d : String} {A B : Nat → Prop} {U : State} {H : Heap} (h : vx_Zq C n d A U H) (hAB : ∀ q, B q → A q) : vx_Zq C n d B U H := ⟨va_Zq.narrow h.1 hAB, vx_L.narrow h.2 hAB⟩
theorem vx_Zqof {args : Array Value} {s : State} {C n d : String} {A : Nat → Prop} (hl : (Cond.laysStatic C n d).before args s = true) (hini : (Cond.initialized C).before args s = true) (h : (Cond.isRef (.static C n d)).before args s = true) (hA : ∀ a : Nat, a < s.heap.size → ¬ A a) : vx_Zq C n d A s s.heap := by
  refine ⟨va_Zqof hl hini h hA, ?_⟩
  obtain ⟨c, k, i, f, a, cell, h1, h2, h3, h4, h5, h6, h7, h8, h9⟩ := Cond.laysStatic_spec hl
  exact ⟨c, k, i, f, a, cell, h1, h2, h3, h4, h5, h6, h7, h8, h9, hA a (Array.getElem?_eq_some_iff.mp h5).1⟩
theorem vx_isRef {C n d : String} {v : Value} {A : Nat → Prop} {s : State} {args : Array Value} (h : va_Z C n d v A s s.heap) (hv : v.isRef = true) : (Cond.isRef (.static C n d)).before args s = true := by
  obtain ⟨cf, kf, fi, f, a, cell, h1, h2, h3, h4, h5, h6, h7, -⟩ := h
  have he : (Term.static C n d).eval args s none [] s = some v := by
    simp [Term.eval, State.fieldNamed?, h1, h2, h4, h5, h6, h7]
  simp only [Cond.before, Cond.holds, Cond.value, he]
  cases v <;> simp_all [Value.isRef]
theorem vx_isRefq {C n d : String} {A : Nat → Prop} {s : State} {args : Array Value} (h : va_Zq C n d A s s.heap) : (Cond.isRef (.static C n d)).before args s = true := by
  rcases h with h | ⟨t, h⟩
  · exact vx_isRef h rfl
  · exact vx_isRef h rfl
/-- the same frame, seen from here: as if the method were called anew in this heap -/
theorem vx_rebase {T : State} (X : Stand p l e R s m args below meth c T locs cells slots) {R' : Room} (hf : R'.frames ≤ R.frames) (hl : R'.locals ≤ R.locals) (hc : cells + R'.cells ≤ R.cells) (hs : slots + R'.slots ≤ R.slots) :
    Stand p l e R' ((T.setVm s.vm).setFrames (.invoking m args :: below)) m args below meth c T [] 0 0 := by
  have htop : (T.setVm s.vm).topJava?.isSome := X.here.top
  have hF : ((T.setVm s.vm).setFrames (.invoking m args :: below)).frames = .invoking m args :: below := State.frames_setFrames _ (State.cur_lt_of_top htop)
  obtain ⟨g₀, hg0⟩ := Option.isSome_iff_exists.mp htop
  obtain ⟨r, hr⟩ := State.topJava?_eq_some.mp hg0
  have hl9 : e.platform.stackLimits (T.setVm s.vm).me = e.platform.stackLimits s.me := X.limits
  have hb9 : (T.setVm s.vm).me.stackBytes = s.me.stackBytes := X.bytes
  refine ⟨X.admits, X.cas, X.clock, hF, ?_, X.hears, X.method, X.code, X.here, X.tail, X.warmed, ?_, ?_, ?_⟩
  · have h := X.room
    have hU : ((T.setVm s.vm).setFrames (.invoking m args :: below)).localsInUse = s.localsInUse := by
      rw [State.localsInUse_invoking hF (meth := meth) (c := c) X.method X.code, State.localsInUse_invoking X.frames X.method X.code]
    simp only [State.hasRoom, Bool.and_eq_true, decide_eq_true_eq] at h ⊢
    obtain ⟨⟨⟨⟨h1, h2, h3, h4, h5, h6⟩, h7⟩, h8⟩, h9⟩ := h
    rw [X.frames, List.length_cons] at h2 h3
    have q1 := X.heapSize
    have q2 := X.used
    simp only [hF, hU, List.length_cons, State.stackLimits_setFrames, State.stackBytes_setFrames, hl9, hb9]
    refine ⟨⟨⟨⟨by omega, by omega, by omega, by omega, by omega, h6⟩, ?_⟩, ?_⟩, X.book⟩
    · show T.heap.size + R'.cells ≤ e.platform.maxCells
      omega
    · show T.slotsUsed + R'.slots ≤ e.platform.maxSlots
      omega
  · rw [State.stackLimits_setFrames]; rfl
  · rw [State.stackBytes_setFrames]; rfl
  · refine ⟨?_, Nat.le_refl _, Nat.le_refl _, ?_, ?_, fun a c9 h9 => ⟨c9, h9, rfl, rfl, fun _ _ => rfl⟩⟩
    · obtain ⟨t, ht, -⟩ := State.frames_cons hr
      show T.setVm s.vm = { ((T.setVm s.vm).setFrames (.invoking m args :: below)).setFrames (T.setVm s.vm).frames with heap := T.heap, slotsUsed := T.slotsUsed }
      rw [State.setFrames_setFrames, State.setFrames_self ht]
      rfl
    · show T.slotsUsed = T.slotsUsed + ((T.heap.toList.drop T.heap.size).map (·.slots.size)).sum
      rw [List.drop_eq_nil_of_le (Nat.le_of_eq Array.length_toList)]
      rfl
    · show ((T.heap.toList.drop T.heap.size).map (·.slots.size)).sum ≤ 0
      rw [List.drop_eq_nil_of_le (Nat.le_of_eq Array.length_toList)]
      exact Nat.le_refl _
/-- 'throw new E()': new; dup; invokespecial; athrow -/
theorem vx_throw0 {cc : ByteArray} {pc : Nat} (hexec : p.tables.exec = Jvm.exec) (hb : c.code = cc) (hl : l.stackTraces = false) {own cls : String} {names : List String} {ik ic mc ms : Nat} {A : Nat → Prop}
    (hown : s.vm.findClass own = some m.cls) (hcls : Bundle.fit cls = true) (hnames : ∀ n ∈ names, Bundle.fit n = true)
    (hk : (Cond.classLink own ik cls).before args s = true) (hini : (Cond.initialized cls).before args s = true) (hat : ∀ w ∈ vx_at0 own ic cls names, w.before args s = true)
    (hgood : ∀ w ∈ Cond.classLink own ik cls :: Cond.initialized cls :: vx_at0 own ic cls names, vx_ot w = true)
    (hU : vx_Zq Bundle.tN "UNASSIGNED_STACK" Bundle.steD A s s.heap) (hN : vx_Zq Bundle.tN "SUPPRESSED_SENTINEL" Bundle.listD A s s.heap) (hS : va_S A s.heap H locs) (hsize : ls.size = c.maxLocals)
    (d0 : decode cc pc = .ok (.new ik, 3)) (d3 : decode cc (pc + 3) = .ok (.dup, 1)) (d4 : decode cc (pc + 4) = .ok (.invokespecial ic, 3)) (d7 : decode cc (pc + 7) = .ok (.athrow, 1))
    (hout : ∀ x ∈ c.exceptionTable.toList, covers x (pc + 7) = false)
    (hRframes : names.length + 3 < R.frames) (hRlocals : (rest.map fun v => v.category).sum + (13 * (names.length + 1) + 42) ≤ R.locals) (hRcells : cells + 1 ≤ R.cells) (hRslots : slots + 6 ≤ R.slots) (hlocks : meth.locks = false)
    (hx : ∀ t : State, s.vm.Alike t.vm → H.size ≤ t.heap.size → (∀ q : Nat, q < H.size → t.heap[q]? = H[q]?) → XC cls s t)
    (hf : ∀ z ∈ locs, free z.base) (hc : cells + 1 ≤ mc) (hs : slots + 6 ≤ ms) :
    W p l e R s m args below meth c H locs cells slots (vx_MQ below Qc XC args s mc ms free) (F0 m pc ls rest) := by
  intro T hT X
  have htr : e.platform.stackTraces = false := (show e.platform.stackTraces = l.stackTraces by rw [X.admits.platform]).trans hl
  have Y := vx_rebase X (R' := { frames := R.frames, locals := R.locals, cells := 1, slots := 6 }) (Nat.le_refl _) (Nat.le_refl _) hRcells hRslots
  obtain ⟨s', hA⟩ : ∃ z, z = (T.setVm s.vm).setFrames (.invoking m args :: below) := ⟨_, rfl⟩
  rw [← hA] at Y
  have hvm : s'.vm = s.vm := by rw [hA]; rfl
  have hhp : s'.heap = H := by rw [hA]; exact hT
  have hW0 : s.WarmedH s'.vm := by rw [hvm]; exact State.WarmedH.refl s
  have hat' : ∀ w ∈ vx_at0 own ic cls names, w.before args s' = true := fun w hw => vx_ot_at hW0 hvm.symm (hgood w (List.mem_cons_of_mem _ (List.mem_cons_of_mem _ hw))) (hat w hw)
  have hk' : (Cond.classLink own ik cls).before args s' = true := vx_ot_at hW0 hvm.symm (hgood _ List.mem_cons_self) hk
  have hini' : (Cond.initialized cls).before args s' = true := vx_ot_at hW0 hvm.symm (hgood _ (List.mem_cons_of_mem _ List.mem_cons_self)) hini
  have hU' : vx_Zq Bundle.tN "UNASSIGNED_STACK" Bundle.steD A s' s'.heap := by rw [hhp]; exact vx_Zq.moved hW0.alike (hU.kept hS.2.1)
  have hN' : vx_Zq Bundle.tN "SUPPRESSED_SENTINEL" Bundle.listD A s' s'.heap := by rw [hhp]; exact vx_Zq.moved hW0.alike (hN.kept hS.2.1)
  have h : ∀ w ∈ Bundle.ownAtoms0 own ic cls names, w.before args s' = true := vx_own hat' (vx_isRefq hU'.1) (vx_isRefq hN'.1) hU'.2.word hN'.2.word
  have hown' : s'.vm.findClass own = some m.cls := by rw [hvm]; exact hown
  have hins : (Cond.instantiable cls 6).before args s' = true := h _ (by simp [Bundle.ownAtoms0])
  obtain ⟨vm₁, cX, kX, hfX, hkX, -, -, X₁, st1⟩ := Y.newCold hexec (own := own) (C := cls) (index := ik) (n := 6) hown' hk' hins hini'
    (g := F0 m pc ls rest) rfl (by rw [hb]; exact d0) (Nat.le_refl _) (Nat.le_refl _)
  generalize hT1 : (T.setVm vm₁).pushCell { cls := cX, slots := kX.instanceTypes.map defaultValue, vm := .none } = T1 at X₁ st1
  have hcat : (Value.ref T.heap.size).category = 1 := rfl
  have hcellA : T1.heap[T.heap.size]? = some (freshCell cX kX) := by rw [← hT1]; exact State.heap_pushCell_size _ _
  have d3' : decode c.code (pc + 3) = .ok (.dup, 1) := by rw [hb]; exact d3
  obtain ⟨U, hsteps, hrun, hend, hW, hsame, ce, hce, hO⟩ := X₁.ctorThrow0 hexec htr (own := own) (cls := cls) (names := names) (ic := ic) hown' hcls hnames h (fun x hx => nomatch hx) hfX hkX hcellA (by rw [hhp, hT]; exact Nat.le_refl _)
    (g := { method := m, pc := pc + 4, locals := ls, stack := .ref T.heap.size :: .ref T.heap.size :: rest, locked := none }) rfl hsize rfl rfl (rest := rest) rfl
    (by rw [hb]; exact d4) (by rw [hb]; exact d7) hout hRframes (by simp only [List.map_cons, List.sum_cons, hcat]; omega) hlocks
  obtain ⟨f1, f2⟩ := vx_frame hsame
  rw [hhp] at f1 f2
  have hWs : s.WarmedH U.vm := State.WarmedH.trans hW0 hW
  have hcl : s.vm.findClass cls = some ce.cls := by
    have h9 := hO.cls
    rw [hvm] at h9
    exact h9
  have hall : s.sameButNew ({ U with vm := s.vm } : State) locs mc ms := by
    subst hA
    obtain ⟨e1, e2⟩ := hsame
    rw [State.setFrames_setFrames] at e1
    have h2 : (T.setVm s.vm).sameButNew ({ U with vm := s.vm } : State) [] (0 + 1) (0 + 6) := ⟨e1, e2⟩
    have h3 := X.same.trans h2
    rw [List.append_nil] at h3
    exact h3.mono hc hs
  refine ⟨U, ?_, .threw T.heap.size, hrun, hend, Or.inr ⟨T.heap.size, rfl, cls, ce, locs, hx U hWs.alike f1 (fun q hq => f2 q hq (fun z hz => nomatch hz)), hce, hO.vm, hcl, hWs, hall, hf⟩⟩
  refine st1 _ ?_
  show Steps p.tables e below (T1.setTop { method := m, pc := pc + 3, locals := ls, stack := .ref T.heap.size :: rest, locked := none }) _
  jvm_step X₁.here [X₁.here.top, hexec, d3', Value.category]
  exact hsteps
/-- 'throw new E("text")': new; dup; ldc; invokespecial; athrow -/
theorem vx_throwS {cc : ByteArray} {pc : Nat} (hexec : p.tables.exec = Jvm.exec) (hb : c.code = cc) (hl : l.stackTraces = false) {own cls text : String} {names : List String} {ik is ic mc ms sa : Nat} {A : Nat → Prop}
    (hown : s.vm.findClass own = some m.cls) (hcls : Bundle.fit cls = true) (hnames : ∀ n ∈ names, Bundle.fit n = true)
    (hk : (Cond.classLink own ik cls).before args s = true) (hini : (Cond.initialized cls).before args s = true) (hstr : vk_R own is text sa s) (hat : ∀ w ∈ vx_atS own ic cls names, w.before args s = true)
    (hgood : ∀ w ∈ Cond.classLink own ik cls :: Cond.initialized cls :: vx_atS own ic cls names, vx_ot w = true)
    (hU : vx_Zq Bundle.tN "UNASSIGNED_STACK" Bundle.steD A s s.heap) (hN : vx_Zq Bundle.tN "SUPPRESSED_SENTINEL" Bundle.listD A s s.heap) (hS : va_S A s.heap H locs) (hsize : ls.size = c.maxLocals)
    (d0 : decode cc pc = .ok (.new ik, 3)) (d3 : decode cc (pc + 3) = .ok (.dup, 1)) (d4 : decode cc (pc + 4) = .ok (.ldc is, 2)) (d6 : decode cc (pc + 6) = .ok (.invokespecial ic, 3)) (d9 : decode cc (pc + 9) = .ok (.athrow, 1))
    (hout : ∀ x ∈ c.exceptionTable.toList, covers x (pc + 9) = false)
    (hRframes : names.length + 3 < R.frames) (hRlocals : (rest.map fun v => v.category).sum + (13 * (names.length + 1) + 43) ≤ R.locals) (hRcells : cells + 1 ≤ R.cells) (hRslots : slots + 6 ≤ R.slots) (hlocks : meth.locks = false)
    (hx : ∀ t : State, s.vm.Alike t.vm → H.size ≤ t.heap.size → (∀ q : Nat, q < H.size → t.heap[q]? = H[q]?) → XC cls s t)
    (hf : ∀ z ∈ locs, free z.base) (hc : cells + 1 ≤ mc) (hs : slots + 6 ≤ ms) :
    W p l e R s m args below meth c H locs cells slots (vx_MQ below Qc XC args s mc ms free) (F0 m pc ls rest) := by
  intro T hT X
  have htr : e.platform.stackTraces = false := (show e.platform.stackTraces = l.stackTraces by rw [X.admits.platform]).trans hl
  have Y := vx_rebase X (R' := { frames := R.frames, locals := R.locals, cells := 1, slots := 6 }) (Nat.le_refl _) (Nat.le_refl _) hRcells hRslots
  obtain ⟨s', hA⟩ : ∃ z, z = (T.setVm s.vm).setFrames (.invoking m args :: below) := ⟨_, rfl⟩
  rw [← hA] at Y
  have hvm : s'.vm = s.vm := by rw [hA]; rfl
  have hhp : s'.heap = H := by rw [hA]; exact hT
  have hW0 : s.WarmedH s'.vm := by rw [hvm]; exact State.WarmedH.refl s
  have hat' : ∀ w ∈ vx_atS own ic cls names, w.before args s' = true := fun w hw => vx_ot_at hW0 hvm.symm (hgood w (List.mem_cons_of_mem _ (List.mem_cons_of_mem _ hw))) (hat w hw)
  have hk' : (Cond.classLink own ik cls).before args s' = true := vx_ot_at hW0 hvm.symm (hgood _ List.mem_cons_self) hk
  have hini' : (Cond.initialized cls).before args s' = true := vx_ot_at hW0 hvm.symm (hgood _ (List.mem_cons_of_mem _ List.mem_cons_self)) hini
  have hU' : vx_Zq Bundle.tN "UNASSIGNED_STACK" Bundle.steD A s' s'.heap := by rw [hhp]; exact vx_Zq.moved hW0.alike (hU.kept hS.2.1)
  have hN' : vx_Zq Bundle.tN "SUPPRESSED_SENTINEL" Bundle.listD A s' s'.heap := by rw [hhp]; exact vx_Zq.moved hW0.alike (hN.kept hS.2.1)
  have h : ∀ w ∈ Bundle.ownAtoms own ic cls names, w.before args s' = true := vx_own hat' (vx_isRefq hU'.1) (vx_isRefq hN'.1) hU'.2.word hN'.2.word
  have hown' : s'.vm.findClass own = some m.cls := by rw [hvm]; exact hown
  have hins : (Cond.instantiable cls 6).before args s' = true := h _ (by simp [Bundle.ownAtoms])
  obtain ⟨vm₁, cX, kX, hfX, hkX, -, -, X₁, st1⟩ := Y.newCold hexec (own := own) (C := cls) (index := ik) (n := 6) hown' hk' hins hini'
    (g := F0 m pc ls rest) rfl (by rw [hb]; exact d0) (Nat.le_refl _) (Nat.le_refl _)
  generalize hT1 : (T.setVm vm₁).pushCell { cls := cX, slots := kX.instanceTypes.map defaultValue, vm := .none } = T1 at X₁ st1
  have hcat : (Value.ref T.heap.size).category = 1 := rfl
  have hcellA : T1.heap[T.heap.size]? = some (freshCell cX kX) := by rw [← hT1]; exact State.heap_pushCell_size _ _
  have d3' : decode c.code (pc + 3) = .ok (.dup, 1) := by rw [hb]; exact d3
  have d4' : decode c.code (pc + 4) = .ok (.ldc is, 2) := by rw [hb]; exact d4
  have hstr' : vk_R own is text sa s' := vk_R.warm hW0 hstr
  obtain ⟨U, hsteps, hrun, hend, hW, hsame, ce, hce, hO⟩ := X₁.ctorThrowS hexec htr (own := own) (cls := cls) (names := names) (ic := ic) hown' hcls hnames h (fun x hx => nomatch hx) hfX hkX hcellA (by rw [hhp, hT]; exact Nat.le_refl _) (msg := .ref sa) rfl
    (g := { method := m, pc := pc + 6, locals := ls, stack := .ref sa :: .ref T.heap.size :: .ref T.heap.size :: rest, locked := none }) rfl hsize rfl rfl (rest := rest) rfl
    (by rw [hb]; exact d6) (by rw [hb]; exact d9) hout hRframes (by simp only [List.map_cons, List.sum_cons, hcat]; omega) hlocks
  obtain ⟨f1, f2⟩ := vx_frame hsame
  rw [hhp] at f1 f2
  have hWs : s.WarmedH U.vm := State.WarmedH.trans hW0 hW
  have hcl : s.vm.findClass cls = some ce.cls := by
    have h9 := hO.cls
    rw [hvm] at h9
    exact h9
  have hall : s.sameButNew ({ U with vm := s.vm } : State) locs mc ms := by
    subst hA
    obtain ⟨e1, e2⟩ := hsame
    rw [State.setFrames_setFrames] at e1
    have h2 : (T.setVm s.vm).sameButNew ({ U with vm := s.vm } : State) [] (0 + 1) (0 + 6) := ⟨e1, e2⟩
    have h3 := X.same.trans h2
    rw [List.append_nil] at h3
    exact h3.mono hc hs
  refine ⟨U, ?_, .threw T.heap.size, hrun, hend, Or.inr ⟨T.heap.size, rfl, cls, ce, locs, hx U hWs.alike f1 (fun q hq => f2 q hq (fun z hz => nomatch hz)), hce, hO.vm, hcl, hWs, hall, hf⟩⟩
  refine st1 _ ?_
  show Steps p.tables e below (T1.setTop { method := m, pc := pc + 3, locals := ls, stack := .ref T.heap.size :: rest, locked := none }) _
  jvm_step X₁.here [X₁.here.top, hexec, d3', Value.category]
  exact X₁.ldcString hexec (own := own) (text := text) (index := is) (a := sa) hown' hstr'.1 hstr'.2
    (g := { method := m, pc := pc + 4, locals := ls, stack := .ref T.heap.size :: .ref T.heap.size :: rest, locked := none }) rfl d4' _ hsteps
/-- 'throw new E("text")', the text by a wide index -/
theorem vx_throwSW {cc : ByteArray} {pc : Nat} (hexec : p.tables.exec = Jvm.exec) (hb : c.code = cc) (hl : l.stackTraces = false) {own cls text : String} {names : List String} {ik is ic mc ms sa : Nat} {A : Nat → Prop}
    (hown : s.vm.findClass own = some m.cls) (hcls : Bundle.fit cls = true) (hnames : ∀ n ∈ names, Bundle.fit n = true)
    (hk : (Cond.classLink own ik cls).before args s = true) (hini : (Cond.initialized cls).before args s = true) (hstr : vk_R own is text sa s) (hat : ∀ w ∈ vx_atS own ic cls names, w.before args s = true)
    (hgood : ∀ w ∈ Cond.classLink own ik cls :: Cond.initialized cls :: vx_atS own ic cls names, vx_ot w = true)
    (hU : vx_Zq Bundle.tN "UNASSIGNED_STACK" Bundle.steD A s s.heap) (hN : vx_Zq Bundle.tN "SUPPRESSED_SENTINEL" Bundle.listD A s s.heap) (hS : va_S A s.heap H locs) (hsize : ls.size = c.maxLocals)
    (d0 : decode cc pc = .ok (.new ik, 3)) (d3 : decode cc (pc + 3) = .ok (.dup, 1)) (d4 : decode cc (pc + 4) = .ok (.ldc_w is, 3)) (d7 : decode cc (pc + 7) = .ok (.invokespecial ic, 3)) (d10 : decode cc (pc + 10) = .ok (.athrow, 1))
    (hout : ∀ x ∈ c.exceptionTable.toList, covers x (pc + 10) = false)
    (hRframes : names.length + 3 < R.frames) (hRlocals : (rest.map fun v => v.category).sum + (13 * (names.length + 1) + 43) ≤ R.locals) (hRcells : cells + 1 ≤ R.cells) (hRslots : slots + 6 ≤ R.slots) (hlocks : meth.locks = false)
    (hx : ∀ t : State, s.vm.Alike t.vm → H.size ≤ t.heap.size → (∀ q : Nat, q < H.size → t.heap[q]? = H[q]?) → XC cls s t)
    (hf : ∀ z ∈ locs, free z.base) (hc : cells + 1 ≤ mc) (hs : slots + 6 ≤ ms) :
    W p l e R s m args below meth c H locs cells slots (vx_MQ below Qc XC args s mc ms free) (F0 m pc ls rest) := by
  intro T hT X
  have htr : e.platform.stackTraces = false := (show e.platform.stackTraces = l.stackTraces by rw [X.admits.platform]).trans hl
  have Y := vx_rebase X (R' := { frames := R.frames, locals := R.locals, cells := 1, slots := 6 }) (Nat.le_refl _) (Nat.le_refl _) hRcells hRslots
  obtain ⟨s', hA⟩ : ∃ z, z = (T.setVm s.vm).setFrames (.invoking m args :: below) := ⟨_, rfl⟩
  rw [← hA] at Y
  have hvm : s'.vm = s.vm := by rw [hA]; rfl
  have hhp : s'.heap = H := by rw [hA]; exact hT
  have hW0 : s.WarmedH s'.vm := by rw [hvm]; exact State.WarmedH.refl s
  have hat' : ∀ w ∈ vx_atS own ic cls names, w.before args s' = true := fun w hw => vx_ot_at hW0 hvm.symm (hgood w (List.mem_cons_of_mem _ (List.mem_cons_of_mem _ hw))) (hat w hw)
  have hk' : (Cond.classLink own ik cls).before args s' = true := vx_ot_at hW0 hvm.symm (hgood _ List.mem_cons_self) hk
  have hini' : (Cond.initialized cls).before args s' = true := vx_ot_at hW0 hvm.symm (hgood _ (List.mem_cons_of_mem _ List.mem_cons_self)) hini
  have hU' : vx_Zq Bundle.tN "UNASSIGNED_STACK" Bundle.steD A s' s'.heap := by rw [hhp]; exact vx_Zq.moved hW0.alike (hU.kept hS.2.1)
  have hN' : vx_Zq Bundle.tN "SUPPRESSED_SENTINEL" Bundle.listD A s' s'.heap := by rw [hhp]; exact vx_Zq.moved hW0.alike (hN.kept hS.2.1)
  have h : ∀ w ∈ Bundle.ownAtoms own ic cls names, w.before args s' = true := vx_own hat' (vx_isRefq hU'.1) (vx_isRefq hN'.1) hU'.2.word hN'.2.word
  have hown' : s'.vm.findClass own = some m.cls := by rw [hvm]; exact hown
  have hins : (Cond.instantiable cls 6).before args s' = true := h _ (by simp [Bundle.ownAtoms])
  obtain ⟨vm₁, cX, kX, hfX, hkX, -, -, X₁, st1⟩ := Y.newCold hexec (own := own) (C := cls) (index := ik) (n := 6) hown' hk' hins hini'
    (g := F0 m pc ls rest) rfl (by rw [hb]; exact d0) (Nat.le_refl _) (Nat.le_refl _)
  generalize hT1 : (T.setVm vm₁).pushCell { cls := cX, slots := kX.instanceTypes.map defaultValue, vm := .none } = T1 at X₁ st1
  have hcat : (Value.ref T.heap.size).category = 1 := rfl
  have hcellA : T1.heap[T.heap.size]? = some (freshCell cX kX) := by rw [← hT1]; exact State.heap_pushCell_size _ _
  have d3' : decode c.code (pc + 3) = .ok (.dup, 1) := by rw [hb]; exact d3
  have d4' : decode c.code (pc + 4) = .ok (.ldc_w is, 3) := by rw [hb]; exact d4
  have hstr' : vk_R own is text sa s' := vk_R.warm hW0 hstr
  obtain ⟨U, hsteps, hrun, hend, hW, hsame, ce, hce, hO⟩ := X₁.ctorThrowS hexec htr (own := own) (cls := cls) (names := names) (ic := ic) hown' hcls hnames h (fun x hx => nomatch hx) hfX hkX hcellA (by rw [hhp, hT]; exact Nat.le_refl _) (msg := .ref sa) rfl
    (g := { method := m, pc := pc + 7, locals := ls, stack := .ref sa :: .ref T.heap.size :: .ref T.heap.size :: rest, locked := none }) rfl hsize rfl rfl (rest := rest) rfl
    (by rw [hb]; exact d7) (by rw [hb]; exact d10) hout hRframes (by simp only [List.map_cons, List.sum_cons, hcat]; omega) hlocks
  obtain ⟨f1, f2⟩ := vx_frame hsame
  rw [hhp] at f1 f2
  have hWs : s.WarmedH U.vm := State.WarmedH.trans hW0 hW
  have hcl : s.vm.findClass cls = some ce.cls := by
    have h9 := hO.cls
    rw [hvm] at h9
    exact h9
  have hall : s.sameButNew ({ U with vm := s.vm } : State) locs mc ms := by
    subst hA
    obtain ⟨e1, e2⟩ := hsame
    rw [State.setFrames_setFrames] at e1
    have h2 : (T.setVm s.vm).sameButNew ({ U with vm := s.vm } : State) [] (0 + 1) (0 + 6) := ⟨e1, e2⟩
    have h3 := X.same.trans h2
    rw [List.append_nil] at h3
    exact h3.mono hc hs
  refine ⟨U, ?_, .threw T.heap.size, hrun, hend, Or.inr ⟨T.heap.size, rfl, cls, ce, locs, hx U hWs.alike f1 (fun q hq => f2 q hq (fun z hz => nomatch hz)), hce, hO.vm, hcl, hWs, hall, hf⟩⟩
  refine st1 _ ?_
  show Steps p.tables e below (T1.setTop { method := m, pc := pc + 3, locals := ls, stack := .ref T.heap.size :: rest, locked := none }) _
  jvm_step X₁.here [X₁.here.top, hexec, d3', Value.category]
  exact X₁.ldcStringW hexec (own := own) (text := text) (index := is) (a := sa) hown' hstr'.1 hstr'.2
    (g := { method := m, pc := pc + 4, locals := ls, stack := .ref T.heap.size :: .ref T.heap.size :: rest, locked := none }) rfl d4' _ hsteps
end Ends
section Bodies
variable {l : Launch}
theorem vx_ofW {y : MethodName} {ws ws' : List Cond} {rm : Room} {Pc : Array Value → State → Prop} {Qc : Array Value → State → Outcome → State → Prop} {XC : String → State → State → Prop} {mc ms : Nat} {free : Addr → Prop} {cc : ByteArray} {maxL : Nat} {ret : Option FieldType}
    (hy : plainName y.cls = true) (hw : ws = Cond.code y cc maxL ret :: ws')
    (body : ∀ p e s m args below meth c s₁, BodyLoose p l y (headSpec ws rm) cc maxL ret e s m args below meth c s₁ → c.maxLocals = maxL → (∀ x ∈ c.exceptionTable.toList, False) → Pc args s →
      W p l e (headSpec ws rm).room s m args below meth c s.heap [] 0 0 (vx_MQ below Qc XC args s mc ms free) (entryFrame m args maxL)) : vx_Met l y ws rm Pc Qc XC mc ms free := by
  refine MetFree.of_bodyS (code := cc) (maxLocals := maxL) (ret := ret) hy ?_ ?_
  · intro args s m h hn
    obtain ⟨meth, c, h1, h2, h3, h4, h5, h6, -, -⟩ := Cond.code_spec hn (atoms_spec (ws := ws) h _ (by rw [hw]; exact List.mem_cons_self))
    exact ⟨meth, c, h1, h2, h3, h4, h5, h6⟩
  · intro p e s m args below meth c s₁ B hml hP _
    have hh0 : s₁.heap = s.heap := by rw [B.state]; rfl
    have ht : ∀ x ∈ c.exceptionTable.toList, False := by
      obtain ⟨meth9, c9, h1, h2, -, -, -, -, h7, -⟩ := Cond.code_spec B.named (atoms_spec (ws := ws) B.pre _ (by rw [hw]; exact List.mem_cons_self))
      cases Option.some.inj (h1.symm.trans B.method)
      cases Option.some.inj (h2.symm.trans (Stand.of_body B).code)
      intro x hx
      rw [Array.isEmpty_iff.mp h7] at hx
      cases hx
    obtain ⟨t, a1, o, b1, b2, b3⟩ := body p e s m args below meth c s₁ B hml ht hP s₁ hh0 (Stand.of_body B)
    exact ⟨t, o, a1, b1, b2, b3⟩
/-- the table of a body with handlers -/
theorem vx_table {p : Program} {x y : MethodName} {S : Spec} {cc bytes : ByteArray} {maxL maxL' : Nat} {ret ret' : Option FieldType} {e : Env} {s s₁ : State} {m : MethodId} {args : Array Value} {below : List Frame} {meth : Method} {c : Code} {hh : List (Nat × Nat × Nat × Nat)}
    (B : BodyLoose p l y S cc maxL ret e s m args below meth c s₁) (h : (Cond.codeWith y bytes maxL' ret' hh).before args s = true) : c.exceptionTable.toList = tableOf hh := by
  obtain ⟨m9, meth9, c9, hn9, h1, h2, -, -, h6, -⟩ := Cond.codeWith_spec h
  cases Option.some.inj (hn9.symm.trans B.named)
  cases Option.some.inj (h1.symm.trans B.method)
  cases Option.some.inj (h2.symm.trans (Stand.of_body B).code)
  rw [← h6, table_eq]
end Bodies
end VXA
/-! ===== END ===== -/
/-! ===== BEGIN a static call of a method with an exception table ===== -/
section VXS
variable {p : Program} {l : Launch} {e : Env} {R : Room} {s : State} {m : MethodId} {args : Array Value} {below : List Frame} {meth : Method} {c : Code} {T : State} {H : Heap} {locs : List Loc} {cells slots : Nat}
abbrev vx_CSW (R : Room) (s : State) (args : Array Value) (own : String) (index : Nat) (y : MethodName) (bytes : ByteArray) (maxL : Nat) (ret : Option FieldType) (hh : List (Nat × Nat × Nat × Nat)) (ws : List Cond) (rm : Room) (mc ms n : Nat) : Prop :=
  (rm.cells = mc ∧ rm.slots = ms ∧ rm.frames + 1 ≤ R.frames ∧ 8 + (maxL + 11) + rm.locals ≤ R.locals ∧ (∀ w ∈ ws, ∀ (a' : Array Value) (U : State), s.WarmedH U.vm → w.before a' U = true) ∧ Cond.codeWith y bytes maxL ret hh ∈ ws) ∧
  (Cond.codeWith y bytes maxL ret hh).before args s = true ∧ (Cond.initialized y.cls).before args s = true ∧ (y.cls ≠ "java/lang/invoke/MethodHandle" ∧ y.cls ≠ "java/lang/invoke/VarHandle") ∧
  (∀ sig, parseMethodDescriptor y.desc = some sig → n = sig.parameters.length) ∧ (Cond.methodLink own index y).before args s = true ∧ (Cond.static y).before args s = true
theorem vx_cwSW {own : String} {index maxL mc ms : Nat} {y : MethodName} {bytes : ByteArray} {ret : Option FieldType} {hh : List (Nat × Nat × Nat × Nat)} {Ts ws ws' : List Cond} {rm : Room} (n : Nat) (ht : ∀ w ∈ Ts, w.before args s = true) (hT : GoodIn Ts (va_wsS own index y ws)) (hw : ws = Cond.codeWith y bytes maxL ret hh :: ws') (hrc : rm.cells = mc) (hrs : rm.slots = ms)
    (hd : y.cls ≠ "java/lang/invoke/MethodHandle" ∧ y.cls ≠ "java/lang/invoke/VarHandle" ∧ (parseMethodDescriptor y.desc).map (fun d => d.parameters.length) = some n) (hR : rm.frames + 1 ≤ R.frames ∧ 8 + (maxL + 11) + rm.locals ≤ R.locals) :
    vx_CSW R s args own index y bytes maxL ret hh ws rm mc ms n := by
  have ok : ∀ w ∈ va_wsS own index y ws, w.before args s = true := fun w h => ht w (hT w h).1
  have hG : GoodIn Ts ws := fun w h => hT w (by unfold va_wsS; exact List.mem_append_right _ h)
  have hc : Cond.codeWith y bytes maxL ret hh ∈ ws := by rw [hw]; exact List.mem_cons_self
  refine ⟨⟨hrc, hrs, hR.1, hR.2, pay_in ht hG, hc⟩, ht _ (hG _ hc).1, ok _ (by simp [va_wsS]), ⟨hd.1, hd.2.1⟩, fun sig h => ?_, ok _ (by simp [va_wsS]), ok _ (by simp [va_wsS])⟩
  have h2 := hd.2.2
  rw [h] at h2
  exact (Option.some.inj h2).symm
theorem vx_callSW (X : Stand p l e R s m args below meth c T locs cells slots) (hexec : p.tables.exec = Jvm.exec) {own : String} {index : Nat} {y : MethodName} {bytes : ByteArray} {maxL : Nat} {ret : Option FieldType} {hh : List (Nat × Nat × Nat × Nat)}
    (hown : s.vm.findClass own = some m.cls) (hlink : (Cond.methodLink own index y).before args s = true) (hstat : (Cond.static y).before args s = true) (hinit : (Cond.initialized y.cls).before args s = true)
    (hcode : (Cond.codeWith y bytes maxL ret hh).before args s = true) (hy : y.cls ≠ "java/lang/invoke/MethodHandle" ∧ y.cls ≠ "java/lang/invoke/VarHandle")
    {W9 : Nat} {Pre : Pt → Array Value → Prop} {Post : Pt → Array Value → Option Value → Pt → Prop} (hK : Back l R p e below s args y 3 W9 Pre Post)
    {g : JFrame} (hg : g.method = m) (hsize : g.locals.size = c.maxLocals) {argsL rest : List Value} (hlen : ∀ sig, parseMethodDescriptor y.desc = some sig → argsL.length = sig.parameters.length)
    (hstack : g.stack = argsL.reverse ++ rest) (hW : 2 * g.monitorRoom + (rest.map fun v => v.category).sum ≤ W9) (hdg : decode c.code g.pc = .ok (.invokestatic index, 3))
    (hpre : ∀ vm₁, s.WarmedH vm₁ → Pre ⟨T.setVm vm₁, locs, cells, slots⟩ argsL.toArray) :
    ∃ (v : Option Value) (vm₁ : Vm) (B : Pt), s.WarmedH vm₁ ∧ Stand p l e R s m args below meth c B.U B.locs B.cells B.slots ∧ Post ⟨T.setVm vm₁, locs, cells, slots⟩ argsL.toArray v B ∧
      ∀ target, Steps p.tables e below (B.U.setTop { g with pc := g.pc + 3, stack := v.toList ++ rest }) target → Steps p.tables e below (T.setTop g) target := by
  obtain ⟨mk, methM, cM, hnamed, hmethM, -, -, -, -, -, -, hsigM⟩ := Cond.codeWith_spec hcode
  have hstatic : methM.isStatic = true := Cond.static_spec hnamed hmethM hstat
  obtain ⟨kP, hkP, -⟩ := className_of_methodNamed hnamed
  have hinitP : kP.init = .initialized := Cond.initialized_spec (findClass_of_methodNamed hnamed) hkP hinit
  obtain ⟨vm₁, X₁, hstep₁⟩ := X.invokestatic hexec hown hlink hnamed hmethM hstatic hkP hinitP hy (g := g) hg (argsL := argsL) (rest := rest) (hlen _ hsigM) hstack hdg
  obtain ⟨v, B, X', hpost, hsteps⟩ := hK m meth c ⟨T.setVm vm₁, locs, cells, slots⟩ { g with stack := rest } (.invokestatic index) mk argsL.toArray X₁ hg hsize hdg hW (X₁.named hnamed) (hpre vm₁ X₁.warmed)
  exact ⟨v, vm₁, B, X₁.warmed, X', hpost, fun target h => hstep₁ _ fun acts => by rw [doInvoke_state]; exact hsteps.trans h⟩
theorem vx_runSW {y : MethodName} {bytes cc : ByteArray} {maxL nL mc ms n index : Nat} {ret : Option FieldType} {hh : List (Nat × Nat × Nat × Nat)} {ws : List Cond} {rm : Room} {Pc : Array Value → State → Prop} {Qc : Array Value → State → Outcome → State → Prop} {free : Addr → Prop} {Ts : List Cond} {own : String} {As rest : List Value} {g : JFrame}
    (S : CallFix p m c cc nL s args Ts own) (hM : Met l y ws rm Pc Qc mc ms free) (cw : vx_CSW R s args own index y bytes maxL ret hh ws rm mc ms n) (hp : PreS s H Pc As)
    (hg : g.method = m) (hn : As.length = n) (hsize : g.locals.size = nL) (hstack : g.stack = As.reverse ++ rest) (hW : 2 * g.monitorRoom + (rest.map fun v => v.category).sum ≤ 8) (hdg : decode cc g.pc = .ok (.invokestatic index, 3)) (hf : cells + mc ≤ R.cells ∧ slots + ms ≤ R.slots) :
    va_Run p l e R s m args below meth c H locs cells slots mc ms g rest (Qc As.toArray) (free) := by
  obtain ⟨⟨hrc, hrs, hfr, hlo, hws, hcw⟩, hcode, hini, hy, hlen, hl, hstt⟩ := cw
  have hK : Back l R p e below s args y 3 8 (PreOf R mc ms Pc) (PostOf Qc mc ms free) := va_backW (hh := hh) (bytes := bytes) (maxL := maxL) (ret := ret) hM hp.1 hrc hrs hfr hlo hws hcw (fun a' U hW => word_at hW (Or.inl (by first | rfl | simp [Cond.onTables, Cond.keeps, Cond.steady])) hini)
  obtain ⟨hx, hb, hml, ho, -⟩ := S
  intro T hT X
  obtain ⟨v, vm₁, ⟨U', l2, c2, s2⟩, hW₁, X', ⟨g', mk, t, L, e1, e2, hq, h1, hL, h2, h3⟩, st⟩ := vx_callSW X hx (hh := hh) (bytes := bytes) (maxL := maxL) (ret := ret) ho hl hstt hini hcode hy hK hg (hsize.trans hml.symm) (argsL := As) (rest := rest) (fun sig h => hn.trans (hlen sig h)) hstack hW (by rw [hb]; exact hdg)
    (fun vm₁ hW₁ => ⟨hf.1, hf.2, hp.2 (T.setVm vm₁) hT hW₁⟩)
  dsimp only [Pt.U, Pt.locs, Pt.cells, Pt.slots] at X' e1 e2 h1 h2 h3 st
  subst h1; subst h2; subst h3
  exact ⟨v, (T.setVm vm₁).calling g' mk As.toArray, t, U', L, hT, X', hL, e1, e2, hq, st⟩
/-- not caught here, past rows that name other classes: it goes on to the caller -/
theorem vx_outP {p : Program} {l : Launch} {e : Env} {R : Room} {s : State} {m : MethodId} {args : Array Value} {below : List Frame} {meth : Method} {c : Code} {H : Heap} {locs : List Loc} {cells slots : Nat} {free : Addr → Prop} {ls : Array Slot} {rest : List Value} {Qc : Array Value → State → Outcome → State → Prop} {XC : String → State → State → Prop}
    {pc : Nat} {own E : String} {ce : Cell} {q : Addr} {mc ms : Nat} (hown : s.vm.findClass own = some m.cls) (hlocks : meth.locks = false)
    (hpass : ∀ z ∈ c.exceptionTable.toList, covers z pc = false ∨ (z.catchType ≠ 0 ∧ ∃ nm : String, (Cond.classLink own z.catchType nm).before args s = true ∧ va_Nc E nm s)) (hcell : H[q]? = some ce) (hv : ce.vm = .none) (hcl : s.vm.findClass E = some ce.cls)
    (hx : ∀ t : State, t.heap = H → s.vm.Alike t.vm → XC E s t) (hf : ∀ z ∈ locs, free z.base) (hc : cells ≤ mc) (hs : slots ≤ ms) :
    vx_W p l e R s m args below meth c H locs cells slots (vx_MQ below Qc XC args s mc ms free) (F0 m pc ls rest) q := by
  intro T hT X
  have hpl : e.platform.magicAccessors = ({} : Platform).magicAccessors := by rw [X.admits.platform]
  obtain ⟨vm', hW', X', st⟩ := X.outThrough hlocks q (g := F0 m pc ls rest) rfl rfl rfl (cell := ce) (by rw [hT]; exact hcell) (by rw [hv]; rfl)
    (by obtain ⟨k9, h9, -⟩ := Vm.findClass_spec hcl; exact ⟨k9, h9⟩) (fun z hz => by
      rcases hpass z hz with h | ⟨hz0, nm, hl1, hn1⟩
      · exact Or.inl h
      · obtain ⟨c6, hc6, hcl6⟩ := Cond.classLink_spec hown hl1 e.platform hpl
        obtain ⟨a8, b8, h1, h2, h3⟩ := hn1
        cases Option.some.inj (h1.symm.trans hcl)
        cases Option.some.inj (h2.symm.trans hc6)
        exact Or.inr ⟨hz0, _, hcl6, h3⟩)
  obtain ⟨g₀, hfr⟩ := X'.frames_eq
  have hcell9 : ((T.setVm vm').setFrames (.throwing q :: below)).heap[q]? = some ce := by
    show T.heap[q]? = some ce
    rw [hT]; exact hcell
  have hend : Ended ((T.setVm vm').setFrames (.throwing q :: below)) below (.threw q) := State.frames_setFrames _ (State.cur_lt_of_frames hfr)
  refine ⟨(T.setVm vm').setFrames (.throwing q :: below), ?_, .threw q, X'.here.running, hend, Or.inr ⟨q, rfl, E, ce, locs, hx _ hT (X'.ends _).1.alike, hcell9, hv, hcl, (X'.ends _).1, (X'.ends _).2.mono hc hs, hf⟩⟩
  rw [X.pushThrowing_eq]
  exact st
/-- a thing of a world lies in the heap -/
theorem vx_lt {D : va_G} {cl : List vw_C} {ws : va_W} {H1 : Heap} (h : va_P D cl ws H1) {k : Nat} {q : Nat × va_E} (hk : ws[k]? = some q) : q.1 < H1.size := (h k q hk).lt
end VXS
/-! ===== END ===== -/
/-! ===== BEGIN methods with a table of their own: called by a name, returning or throwing ===== -/
section VXH
/-! vx_backW, vx_callVX, vx_callSX, vx_callVW, vx_runVW, vx_runVX, vx_runSX, vx_ofWH follow the same proofs as their sisters above (Free/Laws.lean, Shelf42/LK1.lean); vx_outP calls Shelf42/NT130.lean (outThrough). -/
section
variable {l : Launch} {R : Room} {p : Program} {e : Env} {below : List Frame} {s : State} {sargs : Array Value} {y : MethodName} {len W9 : Nat}
theorem vx_backW {ws : List Cond} {rm : Room} {Pc : Array Value → State → Prop} {Qc : Array Value → State → Outcome → State → Prop} {XC : String → State → State → Prop} {mc ms : Nat} {free : Addr → Prop} {bytes : ByteArray} {maxL : Nat} {ret : Option FieldType} {hh : List (Nat × Nat × Nat × Nat)}
    (hM : vx_Met l y ws rm Pc Qc XC mc ms free) (hblind : FrameBlind Pc) (hrc : rm.cells = mc) (hrs : rm.slots = ms)
    (hframes : rm.frames + 1 ≤ R.frames) (hlocals : W9 + (maxL + 11) + rm.locals ≤ R.locals)
    (hws : ∀ w ∈ ws, ∀ a' U, s.WarmedH U.vm → w.before a' U = true) (hcode : Cond.codeWith y bytes maxL ret hh ∈ ws) (hinit : ∀ a' U, s.WarmedH U.vm → (Cond.initialized y.cls).before a' U = true) :
    vx_Back l R p e below s sargs y len W9 (PreOf R mc ms Pc) (PostOf Qc mc ms free) (vx_Post XC mc ms free) := by
  intro m meth c A g ig mk a X hg hsize hdg hW hn hp
  have h1 : (headSpec ws rm).pre.before a A.U = true := atoms_intro fun w hw => hws w hw _ _ X.warmed
  have h2 : (Cond.codeWith y bytes maxL ret hh).before a A.U = true := hws _ hcode _ _ X.warmed
  have h3 : (Cond.initialized y.cls).before a A.U = true := hinit _ _ X.warmed
  have h4 : A.cells + (headSpec ws rm).room.cells ≤ R.cells := by rw [show (headSpec ws rm).room.cells = mc from hrc]; exact hp.1
  have h5 : A.slots + (headSpec ws rm).room.slots ≤ R.slots := by rw [show (headSpec ws rm).room.slots = ms from hrs]; exact hp.2.1
  have hPc : Pc a (A.U.calling g mk a) := hblind _ _ _ _ hp.2.2
  obtain ⟨U, Ls, c0, s0⟩ := A
  dsimp only [Pt.U, Pt.locs, Pt.cells, Pt.slots] at h1 h2 h3 h4 h5 X hn hPc ⊢
  obtain ⟨m9, methY, cY, hn9, hmY, hcY, -, hlY, -⟩ := Cond.codeWith_spec h2
  cases Option.some.inj (hn9.symm.trans hn)
  obtain ⟨kY, hkY, -⟩ := className_of_methodNamed hn
  have hinitY : kY.init = .initialized := Cond.initialized_spec (findClass_of_methodNamed hn) hkY h3
  have h : At U g.method c below := by rw [hg]; exact X.here
  have hlocals9 : W9 + (maxL + 11) + (headSpec ws rm).room.locals ≤ R.locals := hlocals
  have happ : (headSpec ws rm).appliesLoose y e.platform (U.calling g mk a) = true :=
    Spec.appliesLoose_calling (g := g) h hdg hn hkY hinitY
      (X.room_calling (g := g) (R' := (headSpec ws rm).room) hsize hmY hcY hframes (by rw [hlY]; omega) h4 h5) h1
  obtain ⟨mid, hmid⟩ := h.above
  have hfr : (U.setTop g).frames = (.java g :: mid) ++ below := by rw [State.frames_setTop' g h.top, hmid]; rfl
  obtain ⟨o, s₂, hsteps, -, hend, hq⟩ := Steps.callFree hM p X.admits X.cas X.clock (acts := []) hfr happ hPc trivial
  have hq' : vx_Q Qc XC mc ms free a (U.calling g mk a) o s₂ := hq
  rw [State.frames_setTop' g h.top] at hend
  obtain ⟨g₀, hg0⟩ := Option.isSome_iff_exists.mp h.top
  obtain ⟨r, hr⟩ := State.topJava?_eq_some.mp hg0
  have hr' : (({ U with heap := s₂.heap, slotsUsed := s₂.slotsUsed } : State).setVm s₂.vm).frames = .java g₀ :: r := hr
  rcases hq' with ⟨hqc, L, hfe, hL⟩ | ⟨q, rfl, E, ce, L, hx, hce, hcv, hcl, hW₂, hsm, hL⟩
  · obtain ⟨⟨v, rfl⟩, hW₂, e2, q2, q3, q4, q5, q6⟩ := id hfe
    have e3 : s₂ = ({ (U.calling g mk a).setFrames s₂.frames with heap := s₂.heap, slotsUsed := s₂.slotsUsed } : State).setVm s₂.vm := by
      have : s₂ = ({ s₂ with vm := (U.calling g mk a).vm } : State).setVm s₂.vm := rfl
      rw [e2] at this
      exact this
    obtain ⟨c₂, i₂, len₂, hc₂, hd₂, hf₂⟩ := hend
    have hW' : U.WarmedH s₂.vm := hW₂
    have hcc : c₂ = c := by
      have h1 : s₂.code? g.method = U.code? g.method := by
        rw [State.code?_eq, State.code?_eq, hW'.alike.method?]
      exact Option.some.inj (hc₂.symm.trans (h1.trans h.code))
    subst hcc
    have hlen : len₂ = len := by rw [hdg] at hd₂; cases hd₂; rfl
    subst hlen
    have hs₂ : s₂ = (({ U with heap := s₂.heap, slotsUsed := s₂.slotsUsed } : State).setVm s₂.vm).setTop { g with pc := g.pc + len₂, stack := v.toList ++ g.stack } := by
      refine e3.trans ?_
      rw [hf₂, State.calling_eq h.top, State.setFrames_setFrames, State.setTop_of_frames _ hr', hr]
      rfl
    have hsame : U.sameButNew ({ U with heap := s₂.heap, slotsUsed := s₂.slotsUsed } : State) L mc ms := by
      refine ⟨?_, q2, q3, q4, q5, q6⟩
      obtain ⟨t, ht, -⟩ := State.frames_cons hr
      show ({ U with heap := s₂.heap, slotsUsed := s₂.slotsUsed } : State) = { U.setFrames U.frames with heap := s₂.heap, slotsUsed := s₂.slotsUsed }
      rw [State.setFrames_self ht]
    subst hg
    refine Or.inl ⟨v, ⟨(({ U with heap := s₂.heap, slotsUsed := s₂.slotsUsed } : State).setVm s₂.vm), Ls ++ L, c0 + mc, s0 + ms⟩,
      ⟨X.admits, X.cas, X.clock, X.frames, X.room, X.hears, X.method, X.code, (X.here.setHeapUsed s₂.heap s₂.slotsUsed).setVm hW'.alike, X.tail, State.WarmedH.trans X.warmed hW', X.limits, X.bytes, X.same.trans (hsame.setVm s.vm)⟩,
      ⟨g, mk, s₂, L, rfl, rfl, hqc, rfl, hL, rfl, rfl⟩, ?_⟩
    show Steps p.tables e below _ ((({ U with heap := s₂.heap, slotsUsed := s₂.slotsUsed } : State).setVm s₂.vm).setTop { g with pc := g.pc + len₂, stack := v.toList ++ g.stack })
    rw [← hs₂]
    exact hsteps
  · obtain ⟨e2, q2, q3, q4, q5, q6⟩ := id hsm
    have e3 : s₂ = ({ (U.calling g mk a).setFrames s₂.frames with heap := s₂.heap, slotsUsed := s₂.slotsUsed } : State).setVm s₂.vm := by
      have : s₂ = ({ s₂ with vm := (U.calling g mk a).vm } : State).setVm s₂.vm := rfl
      rw [e2] at this
      exact this
    have hf₂ : s₂.frames = .throwing q :: .java g :: U.frames.tail := hend
    have hW' : U.WarmedH s₂.vm := hW₂
    have hs₂ : s₂ = ((({ U with heap := s₂.heap, slotsUsed := s₂.slotsUsed } : State).setVm s₂.vm).setTop g).pushFrame (.throwing q) := by
      refine e3.trans ?_
      rw [hf₂, State.calling_eq h.top, State.setFrames_setFrames, State.pushFrame, State.frames_setTop _ hr', State.setTop_of_frames _ hr', State.setFrames_setFrames, hr]
      rfl
    have hsame : U.sameButNew ({ U with heap := s₂.heap, slotsUsed := s₂.slotsUsed } : State) L mc ms := by
      refine ⟨?_, q2, q3, q4, q5, q6⟩
      obtain ⟨t, ht, -⟩ := State.frames_cons hr
      show ({ U with heap := s₂.heap, slotsUsed := s₂.slotsUsed } : State) = { U.setFrames U.frames with heap := s₂.heap, slotsUsed := s₂.slotsUsed }
      rw [State.setFrames_self ht]
    subst hg
    refine Or.inr ⟨q, ⟨(({ U with heap := s₂.heap, slotsUsed := s₂.slotsUsed } : State).setVm s₂.vm), Ls ++ L, c0 + mc, s0 + ms⟩,
      ⟨X.admits, X.cas, X.clock, X.frames, X.room, X.hears, X.method, X.code, (X.here.setHeapUsed s₂.heap s₂.slotsUsed).setVm hW'.alike, X.tail, State.WarmedH.trans X.warmed hW', X.limits, X.bytes, X.same.trans (hsame.setVm s.vm)⟩,
      ⟨g, mk, s₂, L, E, ce, rfl, rfl, hx, hce, hcv, hcl, rfl, hL, rfl, rfl⟩, ?_⟩
    show Steps p.tables e below _ (((({ U with heap := s₂.heap, slotsUsed := s₂.slotsUsed } : State).setVm s₂.vm).setTop g).pushFrame (.throwing q))
    rw [← hs₂]
    exact hsteps
end
variable {p : Program} {l : Launch} {e : Env} {R : Room} {s : State} {m : MethodId} {args : Array Value} {below : List Frame} {meth : Method} {c : Code} {T : State} {H : Heap} {locs : List Loc} {cells slots : Nat}
theorem vx_callVX (X : Stand p l e R s m args below meth c T locs cells slots) (hexec : p.tables.exec = Jvm.exec) {own C : String} {index : Nat} {y : MethodName} {bytes : ByteArray} {maxL : Nat} {ret : Option FieldType} {hh : List (Nat × Nat × Nat × Nat)}
    (hown : s.vm.findClass own = some m.cls) (hlink : (Cond.methodLink own index y).before args s = true) (hinst : (Cond.instanceMethod y).before args s = true) (hsel : (Cond.selects C y y).before args s = true)
    (hcode : (Cond.codeWith y bytes maxL ret hh).before args s = true) (hy : y.cls ≠ "java/lang/invoke/MethodHandle" ∧ y.cls ≠ "java/lang/invoke/VarHandle")
    {W9 : Nat} {Pre : Pt → Array Value → Prop} {Post : Pt → Array Value → Option Value → Pt → Prop} {PostX : Pt → Array Value → Addr → Pt → Prop} (hK : vx_Back l R p e below s args y 3 W9 Pre Post PostX)
    {b : Addr} {cellB : Cell} (hcell : T.heap[b]? = some cellB) (hobj : cellB.vm.isStatics = false) (hcls : s.vm.findClass C = some cellB.cls)
    {g : JFrame} (hg : g.method = m) (hsize : g.locals.size = c.maxLocals) {argsL rest : List Value} (hlen : ∀ sig, parseMethodDescriptor y.desc = some sig → argsL.length = sig.parameters.length)
    (hstack : g.stack = argsL.reverse ++ .ref b :: rest) (hW : 2 * g.monitorRoom + (rest.map fun v => v.category).sum ≤ W9) (hdg : decode c.code g.pc = .ok (.invokevirtual index, 3))
    (hpre : ∀ vm₁, s.WarmedH vm₁ → Pre ⟨T.setVm vm₁, locs, cells, slots⟩ (Value.ref b :: argsL).toArray) :
    (∃ (v : Option Value) (vm₁ : Vm) (B : Pt), s.WarmedH vm₁ ∧ Stand p l e R s m args below meth c B.U B.locs B.cells B.slots ∧ Post ⟨T.setVm vm₁, locs, cells, slots⟩ (Value.ref b :: argsL).toArray v B ∧
      ∀ target, Steps p.tables e below (B.U.setTop { g with pc := g.pc + 3, stack := v.toList ++ rest }) target → Steps p.tables e below (T.setTop g) target) ∨
    (∃ (q : Addr) (vm₁ : Vm) (B : Pt), s.WarmedH vm₁ ∧ Stand p l e R s m args below meth c B.U B.locs B.cells B.slots ∧ PostX ⟨T.setVm vm₁, locs, cells, slots⟩ (Value.ref b :: argsL).toArray q B ∧
      Steps p.tables e below (T.setTop g) ((B.U.setTop { g with stack := rest }).pushFrame (.throwing q))) := by
  obtain ⟨mk, methM, hnamed, hmethM, hstM, habM⟩ := Cond.instanceMethod_spec hinst
  obtain ⟨m8, methM', cM, hn8, hmethM', -, -, -, -, -, -, hsigM⟩ := Cond.codeWith_spec hcode
  cases Option.some.inj (hn8.symm.trans hnamed)
  cases hmethM.symm.trans hmethM'
  obtain ⟨c2, r2, m2, q1, q2, q3, q4, kP, hkP, hkPi⟩ := Cond.selects_spec hsel
  cases hcls.symm.trans q1
  cases (State.methodFound?_of_named hnamed hy).symm.trans q2
  cases hnamed.symm.trans q3
  have hselP : selectMethod e.platform s.vm cellB.cls mk = .method mk := by rw [Launch.admits_selectMethod X.admits]; exact q4
  obtain ⟨vm₁, X₁, hstep₁⟩ := X.invokevirtual hexec hown hlink hnamed hmethM hstM hkP hkPi hy (a := b) (cell := cellB) hcell
    (fun z h => by rw [h] at hobj; cases hobj) hselP hmethM habM hkP hkPi (g := g) hg (argsL := argsL) (rest := rest) (hlen _ hsigM) hstack hdg
  rcases hK m meth c ⟨T.setVm vm₁, locs, cells, slots⟩ { g with stack := rest } (.invokevirtual index) mk (Value.ref b :: argsL).toArray X₁ hg hsize hdg hW (X₁.named hnamed) (hpre vm₁ X₁.warmed) with ⟨v, B, X', hpost, hsteps⟩ | ⟨q, B, X', hpost, hsteps⟩
  · exact Or.inl ⟨v, vm₁, B, X₁.warmed, X', hpost, fun target h => hstep₁ _ fun acts => by rw [doInvoke_state]; exact hsteps.trans h⟩
  · exact Or.inr ⟨q, vm₁, B, X₁.warmed, X', hpost, hstep₁ _ fun acts => by rw [doInvoke_state]; exact hsteps⟩
theorem vx_callSX (X : Stand p l e R s m args below meth c T locs cells slots) (hexec : p.tables.exec = Jvm.exec) {own : String} {index : Nat} {y : MethodName} {bytes : ByteArray} {maxL : Nat} {ret : Option FieldType} {hh : List (Nat × Nat × Nat × Nat)}
    (hown : s.vm.findClass own = some m.cls) (hlink : (Cond.methodLink own index y).before args s = true) (hstat : (Cond.static y).before args s = true) (hinit : (Cond.initialized y.cls).before args s = true)
    (hcode : (Cond.codeWith y bytes maxL ret hh).before args s = true) (hy : y.cls ≠ "java/lang/invoke/MethodHandle" ∧ y.cls ≠ "java/lang/invoke/VarHandle")
    {W9 : Nat} {Pre : Pt → Array Value → Prop} {Post : Pt → Array Value → Option Value → Pt → Prop} {PostX : Pt → Array Value → Addr → Pt → Prop} (hK : vx_Back l R p e below s args y 3 W9 Pre Post PostX)
    {g : JFrame} (hg : g.method = m) (hsize : g.locals.size = c.maxLocals) {argsL rest : List Value} (hlen : ∀ sig, parseMethodDescriptor y.desc = some sig → argsL.length = sig.parameters.length)
    (hstack : g.stack = argsL.reverse ++ rest) (hW : 2 * g.monitorRoom + (rest.map fun v => v.category).sum ≤ W9) (hdg : decode c.code g.pc = .ok (.invokestatic index, 3))
    (hpre : ∀ vm₁, s.WarmedH vm₁ → Pre ⟨T.setVm vm₁, locs, cells, slots⟩ argsL.toArray) :
    (∃ (v : Option Value) (vm₁ : Vm) (B : Pt), s.WarmedH vm₁ ∧ Stand p l e R s m args below meth c B.U B.locs B.cells B.slots ∧ Post ⟨T.setVm vm₁, locs, cells, slots⟩ argsL.toArray v B ∧
      ∀ target, Steps p.tables e below (B.U.setTop { g with pc := g.pc + 3, stack := v.toList ++ rest }) target → Steps p.tables e below (T.setTop g) target) ∨
    (∃ (q : Addr) (vm₁ : Vm) (B : Pt), s.WarmedH vm₁ ∧ Stand p l e R s m args below meth c B.U B.locs B.cells B.slots ∧ PostX ⟨T.setVm vm₁, locs, cells, slots⟩ argsL.toArray q B ∧
      Steps p.tables e below (T.setTop g) ((B.U.setTop { g with stack := rest }).pushFrame (.throwing q))) := by
  obtain ⟨mk, methM, cM, hnamed, hmethM, -, -, -, -, -, -, hsigM⟩ := Cond.codeWith_spec hcode
  have hstatic : methM.isStatic = true := Cond.static_spec hnamed hmethM hstat
  obtain ⟨kP, hkP, -⟩ := className_of_methodNamed hnamed
  have hinitP : kP.init = .initialized := Cond.initialized_spec (findClass_of_methodNamed hnamed) hkP hinit
  obtain ⟨vm₁, X₁, hstep₁⟩ := X.invokestatic hexec hown hlink hnamed hmethM hstatic hkP hinitP hy (g := g) hg (argsL := argsL) (rest := rest) (hlen _ hsigM) hstack hdg
  rcases hK m meth c ⟨T.setVm vm₁, locs, cells, slots⟩ { g with stack := rest } (.invokestatic index) mk argsL.toArray X₁ hg hsize hdg hW (X₁.named hnamed) (hpre vm₁ X₁.warmed) with ⟨v, B, X', hpost, hsteps⟩ | ⟨q, B, X', hpost, hsteps⟩
  · exact Or.inl ⟨v, vm₁, B, X₁.warmed, X', hpost, fun target h => hstep₁ _ fun acts => by rw [doInvoke_state]; exact hsteps.trans h⟩
  · exact Or.inr ⟨q, vm₁, B, X₁.warmed, X', hpost, hstep₁ _ fun acts => by rw [doInvoke_state]; exact hsteps⟩
theorem vx_callVW (X : Stand p l e R s m args below meth c T locs cells slots) (hexec : p.tables.exec = Jvm.exec) {own C : String} {index : Nat} {y : MethodName} {bytes : ByteArray} {maxL : Nat} {ret : Option FieldType} {hh : List (Nat × Nat × Nat × Nat)}
    (hown : s.vm.findClass own = some m.cls) (hlink : (Cond.methodLink own index y).before args s = true) (hinst : (Cond.instanceMethod y).before args s = true) (hsel : (Cond.selects C y y).before args s = true)
    (hcode : (Cond.codeWith y bytes maxL ret hh).before args s = true) (hy : y.cls ≠ "java/lang/invoke/MethodHandle" ∧ y.cls ≠ "java/lang/invoke/VarHandle")
    {W9 : Nat} {Pre : Pt → Array Value → Prop} {Post : Pt → Array Value → Option Value → Pt → Prop} (hK : Back l R p e below s args y 3 W9 Pre Post)
    {b : Addr} {cellB : Cell} (hcell : T.heap[b]? = some cellB) (hobj : cellB.vm.isStatics = false) (hcls : s.vm.findClass C = some cellB.cls)
    {g : JFrame} (hg : g.method = m) (hsize : g.locals.size = c.maxLocals) {argsL rest : List Value} (hlen : ∀ sig, parseMethodDescriptor y.desc = some sig → argsL.length = sig.parameters.length)
    (hstack : g.stack = argsL.reverse ++ .ref b :: rest) (hW : 2 * g.monitorRoom + (rest.map fun v => v.category).sum ≤ W9) (hdg : decode c.code g.pc = .ok (.invokevirtual index, 3))
    (hpre : ∀ vm₁, s.WarmedH vm₁ → Pre ⟨T.setVm vm₁, locs, cells, slots⟩ (Value.ref b :: argsL).toArray) :
    ∃ (v : Option Value) (vm₁ : Vm) (B : Pt), s.WarmedH vm₁ ∧ Stand p l e R s m args below meth c B.U B.locs B.cells B.slots ∧ Post ⟨T.setVm vm₁, locs, cells, slots⟩ (Value.ref b :: argsL).toArray v B ∧
      ∀ target, Steps p.tables e below (B.U.setTop { g with pc := g.pc + 3, stack := v.toList ++ rest }) target → Steps p.tables e below (T.setTop g) target := by
  obtain ⟨mk, methM, hnamed, hmethM, hstM, habM⟩ := Cond.instanceMethod_spec hinst
  obtain ⟨m8, methM', cM, hn8, hmethM', -, -, -, -, -, -, hsigM⟩ := Cond.codeWith_spec hcode
  cases Option.some.inj (hn8.symm.trans hnamed)
  cases hmethM.symm.trans hmethM'
  obtain ⟨c2, r2, m2, q1, q2, q3, q4, kP, hkP, hkPi⟩ := Cond.selects_spec hsel
  cases hcls.symm.trans q1
  cases (State.methodFound?_of_named hnamed hy).symm.trans q2
  cases hnamed.symm.trans q3
  have hselP : selectMethod e.platform s.vm cellB.cls mk = .method mk := by rw [Launch.admits_selectMethod X.admits]; exact q4
  obtain ⟨vm₁, X₁, hstep₁⟩ := X.invokevirtual hexec hown hlink hnamed hmethM hstM hkP hkPi hy (a := b) (cell := cellB) hcell
    (fun z h => by rw [h] at hobj; cases hobj) hselP hmethM habM hkP hkPi (g := g) hg (argsL := argsL) (rest := rest) (hlen _ hsigM) hstack hdg
  obtain ⟨v, B, X', hpost, hsteps⟩ := hK m meth c ⟨T.setVm vm₁, locs, cells, slots⟩ { g with stack := rest } (.invokevirtual index) mk (Value.ref b :: argsL).toArray X₁ hg hsize hdg hW (X₁.named hnamed) (hpre vm₁ X₁.warmed)
  exact ⟨v, vm₁, B, X₁.warmed, X', hpost, fun target h => hstep₁ _ fun acts => by rw [doInvoke_state]; exact hsteps.trans h⟩
abbrev vx_CVW (R : Room) (s : State) (args : Array Value) (own C : String) (index : Nat) (y : MethodName) (bytes : ByteArray) (maxL : Nat) (ret : Option FieldType) (hh : List (Nat × Nat × Nat × Nat)) (ws : List Cond) (rm : Room) (mc ms n : Nat) : Prop :=
  (rm.cells = mc ∧ rm.slots = ms ∧ rm.frames + 1 ≤ R.frames ∧ 8 + (maxL + 11) + rm.locals ≤ R.locals ∧ (∀ w ∈ ws, ∀ (a' : Array Value) (U : State), s.WarmedH U.vm → w.before a' U = true) ∧ Cond.codeWith y bytes maxL ret hh ∈ ws) ∧
  (Cond.codeWith y bytes maxL ret hh).before args s = true ∧ (Cond.initialized y.cls).before args s = true ∧ (y.cls ≠ "java/lang/invoke/MethodHandle" ∧ y.cls ≠ "java/lang/invoke/VarHandle") ∧
  (∀ sig, parseMethodDescriptor y.desc = some sig → n = sig.parameters.length) ∧ (Cond.methodLink own index y).before args s = true ∧ (Cond.instanceMethod y).before args s = true ∧ (Cond.selects C y y).before args s = true
theorem vx_cwVW {own C : String} {index maxL mc ms : Nat} {y : MethodName} {bytes : ByteArray} {ret : Option FieldType} {hh : List (Nat × Nat × Nat × Nat)} {Ts ws ws' : List Cond} {rm : Room} (n : Nat) (ht : ∀ w ∈ Ts, w.before args s = true) (hT : GoodIn Ts (wsV own index C y ws)) (hw : ws = Cond.codeWith y bytes maxL ret hh :: ws') (hrc : rm.cells = mc) (hrs : rm.slots = ms)
    (hd : y.cls = C ∧ y.cls ≠ "java/lang/invoke/MethodHandle" ∧ y.cls ≠ "java/lang/invoke/VarHandle" ∧ (parseMethodDescriptor y.desc).map (fun d => d.parameters.length) = some n) (hR : rm.frames + 1 ≤ R.frames ∧ 8 + (maxL + 11) + rm.locals ≤ R.locals) :
    vx_CVW R s args own C index y bytes maxL ret hh ws rm mc ms n := by
  obtain ⟨hC, hd⟩ := hd
  subst hC
  have ok : ∀ w ∈ wsV own index y.cls y ws, w.before args s = true := fun w h => ht w (hT w h).1
  have hG : GoodIn Ts ws := fun w h => hT w (by unfold wsV; exact List.mem_append_right _ h)
  have hc : Cond.codeWith y bytes maxL ret hh ∈ ws := by rw [hw]; exact List.mem_cons_self
  refine ⟨⟨hrc, hrs, hR.1, hR.2, pay_in ht hG, hc⟩, ht _ (hG _ hc).1, ok _ (by simp [wsV]), ⟨hd.1, hd.2.1⟩, fun sig h => ?_, ok _ (by simp [wsV]), ok _ (by simp [wsV]), ok _ (by simp [wsV])⟩
  have h2 := hd.2.2
  rw [h] at h2
  exact (Option.some.inj h2).symm
theorem vx_runVW {y : MethodName} {bytes cc : ByteArray} {maxL nL mc ms n index : Nat} {ret : Option FieldType} {hh : List (Nat × Nat × Nat × Nat)} {ws : List Cond} {rm : Room} {Pc : Array Value → State → Prop} {Qc : Array Value → State → Outcome → State → Prop} {free : Addr → Prop} {Ts : List Cond} {own C : String} {b : Addr} {As rest : List Value} {g : JFrame}
    (S : CallFix p m c cc nL s args Ts own) (hM : Met l y ws rm Pc Qc mc ms free) (cw : vx_CVW R s args own C index y bytes maxL ret hh ws rm mc ms n) (hp : PreV s H C b Pc As)
    (hg : g.method = m) (hn : As.length = n) (hsize : g.locals.size = nL) (hstack : g.stack = As.reverse ++ .ref b :: rest) (hW : 2 * g.monitorRoom + (rest.map fun v => v.category).sum ≤ 8) (hdg : decode cc g.pc = .ok (.invokevirtual index, 3)) (hf : cells + mc ≤ R.cells ∧ slots + ms ≤ R.slots) :
    va_Run p l e R s m args below meth c H locs cells slots mc ms g rest (Qc (Value.ref b :: As).toArray) free := by
  obtain ⟨⟨hrc, hrs, hfr, hlo, hws, hcw⟩, hcode, hini, hy, hlen, hl, hin, hse⟩ := cw
  have hK : Back l R p e below s args y 3 8 (PreOf R mc ms Pc) (PostOf Qc mc ms free) := va_backW (hh := hh) (bytes := bytes) (maxL := maxL) (ret := ret) hM hp.1 hrc hrs hfr hlo hws hcw (fun a' U hW => word_at hW (Or.inl (by first | rfl | simp [Cond.onTables, Cond.keeps, Cond.steady])) hini)
  obtain ⟨hx, hb, hml, ho, -⟩ := S
  obtain ⟨-, ⟨cellB, hcB, hoB, hclB⟩, hPc⟩ := hp
  intro T hT X
  obtain ⟨v, vm₁, ⟨U', l2, c2, s2⟩, hW₁, X', ⟨g', mk, t, L, e1, e2, hq, h1, hL, h2, h3⟩, st⟩ := vx_callVW X hx (C := C) (hh := hh) (bytes := bytes) (maxL := maxL) (ret := ret) ho hl hin hse hcode hy hK (by rw [hT]; exact hcB) hoB hclB hg (hsize.trans hml.symm) (argsL := As) (rest := rest) (fun sig h => hn.trans (hlen sig h)) hstack hW (by rw [hb]; exact hdg)
    (fun vm₁ hW₁ => ⟨hf.1, hf.2, hPc (T.setVm vm₁) hT hW₁⟩)
  dsimp only [Pt.U, Pt.locs, Pt.cells, Pt.slots] at X' e1 e2 h1 h2 h3 st
  subst h1; subst h2; subst h3
  exact ⟨v, (T.setVm vm₁).calling g' mk (Value.ref b :: As).toArray, t, U', L, hT, X', hL, e1, e2, hq, st⟩
section
variable {y : MethodName} {bytes cc : ByteArray} {maxL nL mc ms n index : Nat} {ret : Option FieldType} {ws : List Cond} {rm : Room} {Pc : Array Value → State → Prop} {Qc : Array Value → State → Outcome → State → Prop} {XC : String → State → State → Prop} {free : Addr → Prop} {Ts : List Cond} {own C : String} {b : Addr} {As rest : List Value} {g : JFrame}
theorem vx_runVX {hh : List (Nat × Nat × Nat × Nat)} (S : CallFix p m c cc nL s args Ts own) (hM : vx_Met l y ws rm Pc Qc XC mc ms free) (cw : vx_CVW R s args own C index y bytes maxL ret hh ws rm mc ms n) (hp : PreV s H C b Pc As)
    (hg : g.method = m) (hn : As.length = n) (hsize : g.locals.size = nL) (hstack : g.stack = As.reverse ++ .ref b :: rest) (hW : 2 * g.monitorRoom + (rest.map fun v => v.category).sum ≤ 8) (hdg : decode cc g.pc = .ok (.invokevirtual index, 3)) (hf : cells + mc ≤ R.cells ∧ slots + ms ≤ R.slots) :
    vx_Run p l e R s m args below meth c H locs cells slots mc ms g rest (Qc (Value.ref b :: As).toArray) XC free := by
  obtain ⟨⟨hrc, hrs, hfr, hlo, hws, hcw⟩, hcode, hini, hy, hlen, hl, hin, hse⟩ := cw
  have hK : vx_Back l R p e below s args y 3 8 (PreOf R mc ms Pc) (PostOf Qc mc ms free) (vx_Post XC mc ms free) := vx_backW (hh := hh) (bytes := bytes) (maxL := maxL) (ret := ret) hM hp.1 hrc hrs hfr hlo hws hcw (fun a' U hW => word_at hW (Or.inl (by first | rfl | simp [Cond.onTables, Cond.keeps, Cond.steady])) hini)
  obtain ⟨hx, hb, hml, ho, -⟩ := S
  obtain ⟨-, ⟨cellB, hcB, hoB, hclB⟩, hPc⟩ := hp
  intro T hT X
  rcases vx_callVX X hx (C := C) (hh := hh) (bytes := bytes) (maxL := maxL) (ret := ret) ho hl hin hse hcode hy hK (by rw [hT]; exact hcB) hoB hclB hg (hsize.trans hml.symm) (argsL := As) (rest := rest) (fun sig h => hn.trans (hlen sig h)) hstack hW (by rw [hb]; exact hdg)
    (fun vm₁ hW₁ => ⟨hf.1, hf.2, hPc (T.setVm vm₁) hT hW₁⟩) with ⟨v, vm₁, ⟨U', l2, c2, s2⟩, hW₁, X', ⟨g', mk, t, L, e1, e2, hq, h1, hL, h2, h3⟩, st⟩ | ⟨q, vm₁, ⟨U', l2, c2, s2⟩, hW₁, X', ⟨g', mk, t, L, E, ce, e1, e2, hq, hce, hcv, hcl, h1, hL, h2, h3⟩, st⟩
  · dsimp only [Pt.U, Pt.locs, Pt.cells, Pt.slots] at X' e1 e2 h1 h2 h3 st
    subst h1; subst h2; subst h3
    exact Or.inl ⟨v, (T.setVm vm₁).calling g' mk (Value.ref b :: As).toArray, t, U', L, hT, X', hL, e1, e2, hq, st⟩
  · dsimp only [Pt.U, Pt.locs, Pt.cells, Pt.slots] at X' e1 e2 h1 h2 h3 st hcl
    subst h1; subst h2; subst h3
    exact Or.inr ⟨q, (T.setVm vm₁).calling g' mk (Value.ref b :: As).toArray, t, U', L, E, ce, hT, X', hL, e1, e2, hq, hce, hcv, vx_cls hW₁ hcl, st⟩
theorem vx_runSX {hh : List (Nat × Nat × Nat × Nat)} (S : CallFix p m c cc nL s args Ts own) (hM : vx_Met l y ws rm Pc Qc XC mc ms free) (cw : vx_CSW R s args own index y bytes maxL ret hh ws rm mc ms n) (hp : PreS s H Pc As)
    (hg : g.method = m) (hn : As.length = n) (hsize : g.locals.size = nL) (hstack : g.stack = As.reverse ++ rest) (hW : 2 * g.monitorRoom + (rest.map fun v => v.category).sum ≤ 8) (hdg : decode cc g.pc = .ok (.invokestatic index, 3)) (hf : cells + mc ≤ R.cells ∧ slots + ms ≤ R.slots) :
    vx_Run p l e R s m args below meth c H locs cells slots mc ms g rest (Qc As.toArray) XC free := by
  obtain ⟨⟨hrc, hrs, hfr, hlo, hws, hcw⟩, hcode, hini, hy, hlen, hl, hstt⟩ := cw
  have hK : vx_Back l R p e below s args y 3 8 (PreOf R mc ms Pc) (PostOf Qc mc ms free) (vx_Post XC mc ms free) := vx_backW (hh := hh) (bytes := bytes) (maxL := maxL) (ret := ret) hM hp.1 hrc hrs hfr hlo hws hcw (fun a' U hW => word_at hW (Or.inl (by first | rfl | simp [Cond.onTables, Cond.keeps, Cond.steady])) hini)
  obtain ⟨hx, hb, hml, ho, -⟩ := S
  intro T hT X
  rcases vx_callSX X hx (hh := hh) (bytes := bytes) (maxL := maxL) (ret := ret) ho hl hstt hini hcode hy hK hg (hsize.trans hml.symm) (argsL := As) (rest := rest) (fun sig h => hn.trans (hlen sig h)) hstack hW (by rw [hb]; exact hdg)
    (fun vm₁ hW₁ => ⟨hf.1, hf.2, hp.2 (T.setVm vm₁) hT hW₁⟩) with ⟨v, vm₁, ⟨U', l2, c2, s2⟩, hW₁, X', ⟨g', mk, t, L, e1, e2, hq, h1, hL, h2, h3⟩, st⟩ | ⟨q, vm₁, ⟨U', l2, c2, s2⟩, hW₁, X', ⟨g', mk, t, L, E, ce, e1, e2, hq, hce, hcv, hcl, h1, hL, h2, h3⟩, st⟩
  · dsimp only [Pt.U, Pt.locs, Pt.cells, Pt.slots] at X' e1 e2 h1 h2 h3 st
    subst h1; subst h2; subst h3
    exact Or.inl ⟨v, (T.setVm vm₁).calling g' mk As.toArray, t, U', L, hT, X', hL, e1, e2, hq, st⟩
  · dsimp only [Pt.U, Pt.locs, Pt.cells, Pt.slots] at X' e1 e2 h1 h2 h3 st hcl
    subst h1; subst h2; subst h3
    exact Or.inr ⟨q, (T.setVm vm₁).calling g' mk As.toArray, t, U', L, E, ce, hT, X', hL, e1, e2, hq, hce, hcv, vx_cls hW₁ hcl, st⟩
end
end VXH
theorem vx_ofWH {l : Launch} {y : MethodName} {ws ws' : List Cond} {rm : Room} {Pc : Array Value → State → Prop} {Qc : Array Value → State → Outcome → State → Prop} {XC : String → State → State → Prop} {mc ms : Nat} {free : Addr → Prop} {cc : ByteArray} {maxL : Nat} {ret : Option FieldType} {hh : List (Nat × Nat × Nat × Nat)}
    (hy : plainName y.cls = true) (hw : ws = Cond.codeWith y cc maxL ret hh :: ws')
    (body : ∀ p e s m args below meth c s₁, BodyLoose p l y (headSpec ws rm) cc maxL ret e s m args below meth c s₁ → c.maxLocals = maxL → Pc args s →
      W p l e (headSpec ws rm).room s m args below meth c s.heap [] 0 0 (vx_MQ below Qc XC args s mc ms free) (entryFrame m args maxL)) : vx_Met l y ws rm Pc Qc XC mc ms free := by
  refine MetFree.of_bodyS (code := cc) (maxLocals := maxL) (ret := ret) hy ?_ ?_
  · intro args s m h hn
    obtain ⟨m9, meth, c, hn9, h1, h2, h3, h4, -, h5, h6, -⟩ := Cond.codeWith_spec (atoms_spec (ws := ws) h _ (by rw [hw]; exact List.mem_cons_self))
    cases hn.symm.trans hn9
    exact ⟨meth, c, h1, h2, h3, h4, h5, h6⟩
  · intro p e s m args below meth c s₁ B hml hP _
    have hh0 : s₁.heap = s.heap := by rw [B.state]; rfl
    obtain ⟨t, a1, o, b1, b2, b3⟩ := body p e s m args below meth c s₁ B hml hP s₁ hh0 (Stand.of_body B)
    exact ⟨t, o, a1, b1, b2, b3⟩
/-! ===== END ===== -/

/-! ===== BEGIN what the machine throws by itself, no traces kept ===== -/
section VXM
set_option maxHeartbeats 1000000 in
/-- the machine throws cls with the message text, no traces kept: from its note over the frame g to 'throwing' over the same frame (follows the proofs of Stand.vmThrowsMessage, Shelf/KitTracedVmS.lean, and Stand.throwsMessageColdBareV, StandMessageColdV.lean, without the step out of the frame) -/
theorem vx_vmAt {p : Program} {l : Launch} {e : Env} {R : Room} {s : State} {m₀ : MethodId} {args : Array Value} {below : List Frame} {meth : Method} {c : Code} {W : State} {locs : List Loc} {cells slots : Nat}
    (X : Stand p l e R s m₀ args below meth c W locs cells slots) (hexec : p.tables.exec = Jvm.exec) (htr : e.platform.stackTraces = false) {cls : String} {names : List String} {text : String}
    (hcls : Bundle.fit cls = true) (hnames : ∀ n ∈ names, Bundle.fit n = true) (hsoe : (cls == "java/lang/StackOverflowError") = false) (hoom : (cls == "java/lang/OutOfMemoryError") = false)
    (h : ∀ a ∈ Bundle.messageArmAtoms cls names, a.before args s = true)
    (hlocs : ∀ x ∈ locs, ∀ cell, s.heap[x.base]? = some cell → cell.vm.isStatics = false)
    (htext : (text == notModelled) = false) (hlimit : ¬ (stringBytes (stringToUtf16 text)).size > e.platform.arrayLengthLimit) (hheap : ¬ (stringBytes (stringToUtf16 text)).size * componentBytes .byte > e.platform.maxHeapBytes)
    {g : JFrame} (hg : g.method = m₀) (hsize : g.locals.size = c.maxLocals)
    (hRframes : names.length + 4 < R.frames) (hRlocals : 2 * g.monitorRoom + (g.stack.map fun v => v.category).sum + 10240 ≤ R.locals) (hshort : 13 * names.length + 55 ≤ 10240)
    (hRcells : cells + 3 ≤ R.cells) (hRslots : slots + ((stringBytes (stringToUtf16 text)).size + 4 + 6) ≤ R.slots) (hlocks : meth.locks = false) :
    ∃ (S : State) (q : Addr) (ce : Cell), (∀ target, Steps p.tables e below ((S.setTop g).pushFrame (.throwing q)) target → Steps p.tables e below ((W.setTop g).pushFrame (.throwNew cls (some text) none)) target) ∧
      Stand p l e R s m₀ args below meth c S locs (cells + 3) (slots + ((stringBytes (stringToUtf16 text)).size + 4 + 6)) ∧ S.heap[q]? = some ce ∧ s.vm.findClass cls = some ce.cls ∧ ce.vm = .none := by
  have howns : e.platform.frameOwnsMonitors = true := by rw [X.admits.platform]
  have hfin : e.platform.finalization = false := by rw [X.admits.platform]
  have hpl : e.platform.magicAccessors = ({} : Platform).magicAccessors := by rw [X.admits.platform]
  have a : ∀ x, x ∈ Bundle.messageArmAtoms cls names → x.holds args s none s [] = true := fun x hx => h x hx
  obtain ⟨T, Z0, L, -, Y⟩ := ThrowableC.of_atoms (args := args) howns hfin hpl (fun x hx => h x (by simp [Bundle.messageArmAtoms, hx]))
  obtain ⟨Z, M, LZ, LM, hnZ⟩ := Init0T.ofS_atoms (args := args) hpl L Y (fun x hx => h x (by simp [Bundle.messageArmAtoms, hx]))
  obtain ⟨P1, Ps, hlen, L1, hL, hP1m, hlink1, hlink⟩ := Bundle.chainS (args := args) hpl hnZ names cls hcls hnames (fun x hx => h x (by simp [Bundle.messageArmAtoms, hx]))
  obtain ⟨Zs, LZs, hn4, hfitv, hfitc⟩ := StringT.of_atoms (args := args) (fun x hx => h x (by simp [Bundle.messageArmAtoms, hx]))
  have hfound : s.vm.findClass cls = some P1.m.cls := findClass_of_methodNamed hP1m
  obtain ⟨c1, kX, hc1, hk, hord, -, -, hn6⟩ := Cond.instantiable_spec (a (.instantiable cls 6) (by simp [Bundle.messageArmAtoms]))
  cases Option.some.inj (hc1.symm.trans hfound)
  have hinit := Cond.initialized_spec hfound hk (a (.initialized cls) (by simp [Bundle.messageArmAtoms]))
  have hctor : kX.findMethod "<init>" "(Ljava/lang/String;)V" = some P1.m.idx := findMethod_of_methodNamed hP1m hk
  have hsel0 : selectMethod e.platform s.vm P1.m.cls T.fill0 = .method T.fill0 := by
    obtain ⟨c2, r2, m2, q1, q2, q3, q4, -⟩ := Cond.selects_spec (a (.selects cls Bundle.tFill0 Bundle.tFill0) (by simp [Bundle.messageArmAtoms]))
    cases Option.some.inj (q1.symm.trans hfound)
    cases Option.some.inj (q2.symm.trans (State.methodFound?_of_named Y.fill0 (by decide)))
    cases Option.some.inj (q3.symm.trans Y.fill0)
    rw [Launch.admits_selectMethod X.admits]; exact q4
  have hselF : selectMethod e.platform s.vm P1.m.cls T.fill = .method T.fill := by
    obtain ⟨c2, r2, m2, q1, q2, q3, q4, -⟩ := Cond.selects_spec (a (.selects cls Bundle.tFill Bundle.tFill) (by simp [Bundle.messageArmAtoms]))
    cases Option.some.inj (q1.symm.trans hfound)
    cases Option.some.inj (q2.symm.trans (State.methodFound?_of_named Y.fill (by decide)))
    cases Option.some.inj (q3.symm.trans Y.fill)
    rw [Launch.admits_selectMethod X.admits]; exact q4
  obtain ⟨cellS0, hcS0, hiss⟩ := Y.statics
  obtain ⟨u0, hu0⟩ := Cond.staticRefV Y.unassigned L.unassignedStatic L.statics hcS0 hiss (a (.isRef (.static Bundle.tN "UNASSIGNED_STACK" Bundle.steD)) (by simp [Bundle.messageArmAtoms]))
  obtain ⟨sen, hsen⟩ := Cond.staticRefV Y.sentinel L.sentinelStatic L.statics hcS0 hiss (a (.isRef (.static Bundle.tN "SUPPRESSED_SENTINEL" Bundle.listD)) (by simp [Bundle.messageArmAtoms]))
  obtain ⟨ci198, i198, fB, hk198, hg198, ha198, hsB, -, hnB, htB, hffB⟩ := Cond.ownField (t := .object "java/lang/Object") Y.found L.cls (by decide +kernel) (a (.fieldLink Bundle.tN 198 Bundle.tN "backtrace" "Ljava/lang/Object;") (by simp [Bundle.messageArmAtoms])) (a (.lays Bundle.tN Bundle.tN "backtrace" "Ljava/lang/Object;") (by simp [Bundle.messageArmAtoms])) e.platform hpl
  obtain ⟨cellS, hcS', heS, -, hkeep⟩ := X.same.2.2.2.2.2 T.aS cellS0 hcS0
  have hcellS : W.heap[T.aS]? = some cellS := hcS'
  have hout' : ∀ i, (⟨T.aS, i⟩ : Loc) ∉ locs := fun i hmem => by
    have := hlocs _ hmem cellS0 hcS0
    rw [hiss] at this; cases this
  have hknownS : cellS.vm ≠ .unknown := by
    rw [heS]; intro hu
    rw [show cellS0.vm = .unknown from hu] at hiss
    cases hiss
  have hvU : cellS.slots[T.fUnassigned.slot]? = some u0.v := by rw [hkeep _ (hout' _)]; exact hu0
  have hvSen : cellS.slots[T.fSentinel.slot]? = some sen.v := by rw [hkeep _ (hout' _)]; exact hsen
  obtain ⟨iM, hffM⟩ := Y.msg
  obtain ⟨tyC, dC, hdC, hdnC⟩ := Cond.laysAt hfound hk Y.cause (a (.lays cls Bundle.tN "cause" "Ljava/lang/Throwable;") (by simp [Bundle.messageArmAtoms]))
  obtain ⟨tyS, dS, hdS, hdnS⟩ := Cond.laysAt hfound hk Y.stack (a (.lays cls Bundle.tN "stackTrace" Bundle.steD) (by simp [Bundle.messageArmAtoms]))
  obtain ⟨tyP, dP, hdP, hdnP⟩ := Cond.laysAt hfound hk Y.supp (a (.lays cls Bundle.tN "suppressedExceptions" Bundle.listD) (by simp [Bundle.messageArmAtoms]))
  obtain ⟨tyM, dM, hdM, hdnM⟩ := Cond.laysAt hfound hk hffM (a (.lays cls Bundle.tN "detailMessage" "Ljava/lang/String;") (by simp [Bundle.messageArmAtoms]))
  obtain ⟨tyB, dB, hdB, hdnB⟩ := Cond.laysAt hfound hk hffB (a (.lays cls Bundle.tN "backtrace" "Ljava/lang/Object;") (by simp [Bundle.messageArmAtoms]))
  have bC := Cond.laysApart hdB hdC hdnB hdnC (by rw [hnB, Y.causeName]; decide)
  have bS := Cond.laysApart hdB hdS hdnB hdnS (by rw [hnB, Y.stackName]; decide)
  have bP := Cond.laysApart hdB hdP hdnB hdnP (by rw [hnB, Y.suppName]; decide)
  have hbk : ((preparedCellV T.toThrowableT (freshCell P1.m.cls kX) (W.heap.size + 2) u0 sen).withEntry W.cur).slots[fB.slot]? = some .null := by
    have := fresh_default (c := P1.m.cls) tyB
    rw [htB] at this
    simpa [preparedCellV, Cell.setSlot, Cell.withEntry, Array.getElem?_setIfInBounds, bC, bS, bP, bC.symm, bS.symm, bP.symm, defaultValue] using this
  have tkC := Takes.of_laid (v := .ref (W.heap.size + 2)) hk hord tyC (by rw [Y.causeType]; rfl)
  have tkS := Takes.of_laid (v := u0.v) hk hord tyS (by rw [Y.stackType]; exact fits_refV_array _ u0)
  have tkP := Takes.of_laid (v := sen.v) hk hord tyP (by rw [Y.suppType]; exact fits_refV_object _ sen)
  have tkM := Takes.of_laid (v := .ref (W.heap.size + 1)) hk hord tyM (by rw [Y.msgType]; rfl)
  have hskip : SkipFacts T e.platform s (fun u => u) u0 ((preparedCellV T.toThrowableT (freshCell P1.m.cls kX) (W.heap.size + 2) u0 sen).withEntry W.cur) := ⟨{ ci198 := ci198, i198 := i198, fBack := fB }, ⟨hk198, hg198, ha198, hsB⟩, hbk, fun _ _ => rfl⟩
  have h0 : At W g.method c below := by rw [hg]; exact X.here
  obtain ⟨hbeyond, hfreeW⟩ := X.vmMayThrow hsize (.throwNew cls (some text) none) (fun f hf => by cases hf) rfl hRlocals
  have hfr' : W.frames.length + Ps.length + 4 < (e.platform.stackLimits W.me).1 := by have := X.framesAbove hRframes; omega
  have hwd' : (stackUse (.java g :: W.frames.tail)).2 + 13 * Ps.length + 55 ≤ (e.platform.stackLimits W.me).2 := by have := X.stackAbove hsize (K := 13 * Ps.length + 55) (by omega); omega
  have hslots : W.slotsUsed + (stringBytes (stringToUtf16 text)).size + Zs.kS.instanceTypes.size + kX.instanceTypes.size ≤ e.platform.maxSlots := by
    have := X.slotsAbove hRslots
    rw [hn4, hn6]
    omega
  obtain ⟨vm', hW', st⟩ := Steps.vmThrowsMessageColdByV p (s₀ := s) (S := W) (g := g) h0 hexec T L Z LZ M LM X.warmed (t := W.cur) rfl Zs LZs P1 L1 Ps hL hlink1 hlink hsoe hoom hfound hk hinit hord hctor
    (Launch.admits_hotImplicitExceptions X.admits) hbeyond hfreeW htext hlimit hheap (X.cellsAbove hRcells) hslots (hfitv _) (hfitc _)
    (Nn := fun u => u) heapOnly_id (fun _ _ => rfl) (fun _ => rfl) (fun u x y => setCell_twice _ _ _ _) (fun _ => Nat.le_refl _) (cN := ((preparedCellV T.toThrowableT (freshCell P1.m.cls kX) (W.heap.size + 2) u0 sen).withEntry W.cur))
    hsel0 hcellS hknownS hvU tkS (fun _ hu => hu) (fun _ hu => hu) rfl rfl rfl (by simp [preparedCellV, Cell.setSlot, Cell.withEntry]) hskip (fun _ _ hA hW _ hroom _ hrest => L.nativeOff p htr hA hW hroom hrest) hselF hvSen tkC tkP tkM Y.objLocals rfl hfr' hwd'
  rw [plainBareV_eq T.toThrowableT (W.heap.size + 2) u0 sen (.ref (W.heap.size + 1)) W.cur rfl rfl] at st
  obtain ⟨-, -, w3, w4, -, -, -⟩ := withThrown_facts e.platform W Zs text P1.m.cls kX
  have X3 := ((X.pushed (bytesOf Zs.cB (stringToUtf16 text))).pushed (stringAt Zs.cS Zs.kS Zs.fv Zs.fc (stringToUtf16 text) W.heap.size)).pushed (freshCell P1.m.cls kX)
  rw [← withString_eq] at X3
  have X4 := X3.noted hW'
  have ha : (W.heap.size + 2) < ((withThrown W Zs text P1.m.cls kX).setVm vm').heap.size := by show _ < (withThrown W Zs text P1.m.cls kX).heap.size; rw [w3]; omega
  have hcell : ((withThrown W Zs text P1.m.cls kX).setVm vm').heap[(W.heap.size + 2)]? = some (freshCell P1.m.cls kX) := w4
  have X5 := ((((X4.stored hcell T.fCause.slot (.ref (W.heap.size + 2))).storedAgain ha T.fStack.slot u0.v).storedAgain ha T.fSupp.slot sen.v).storedAgain ha T.fStack.slot u0.v).storedAgain ha T.fMsg.slot (.ref (W.heap.size + 1))
  obtain ⟨g₁, hfrM⟩ := X5.frames_eq
  have hU : ((((withThrown W Zs text P1.m.cls kX).setVm vm').setCell (W.heap.size + 2) (plainBareV T.toThrowableT (freshCell P1.m.cls kX) (W.heap.size + 2) u0 sen (.ref (W.heap.size + 1)))).setTop g).pushFrame (.throwing (W.heap.size + 2)) = (((withThrown W Zs text P1.m.cls kX).setVm vm').setCell (W.heap.size + 2) (plainBareV T.toThrowableT (freshCell P1.m.cls kX) (W.heap.size + 2) u0 sen (.ref (W.heap.size + 1)))).setFrames (.throwing (W.heap.size + 2) :: .java g :: below) := by
    rw [State.pushFrame, State.frames_setTop _ hfrM, State.setTop_of_frames _ hfrM, State.setFrames_setFrames]
  have b1 : (bytesOf Zs.cB (stringToUtf16 text)).slots.size = (stringBytes (stringToUtf16 text)).size := by
    rw [(Cell.writeAll_facts _ _).2.2]; simp [bytes0]
  have b2 : (stringAt Zs.cS Zs.kS Zs.fv Zs.fc (stringToUtf16 text) W.heap.size).slots.size = 4 := by simp [string0, Cell.setSlot, hn4]
  have b3 : (freshCell P1.m.cls kX).slots.size = 6 := by simp [hn6]
  rw [b1, b2, b3] at X5
  have e9 : slots + (stringBytes (stringToUtf16 text)).size + 4 + 6 = slots + ((stringBytes (stringToUtf16 text)).size + 4 + 6) := by omega
  rw [e9] at X5
  simp only [List.append_assoc, List.cons_append, List.nil_append] at X5
  refine ⟨((withThrown W Zs text P1.m.cls kX).setVm vm').setCell (W.heap.size + 2) (plainBareV T.toThrowableT (freshCell P1.m.cls kX) (W.heap.size + 2) u0 sen (.ref (W.heap.size + 1))), W.heap.size + 2, _, fun target ht => st _ (by rw [X.tail, ← hU]; exact ht),
    X5.forget (fun y hy => ?_), heapAt_setCell_self _ ha, hfound, rfl⟩
  simp only [List.mem_cons, List.not_mem_nil, or_false] at hy
  have hge : s.heap.size ≤ W.heap.size := X.same.2.1
  rcases hy with rfl | rfl | rfl | rfl | rfl <;> exact Nat.le_trans hge (Nat.le_add_right _ 2)
set_option maxHeartbeats 1000000 in
/-- the machine throws NullPointerException, no traces kept: from its note over the frame g to 'throwing' over the same frame (follows the proof of Stand.vmThrowsNpe, Shelf42/KT2.lean; throwsNpeColdBareVAt, Shelf42/NT91.lean, called) -/
theorem vx_npeAt {p : Program} {l : Launch} {e : Env} {R : Room} {s : State} {m₀ : MethodId} {args : Array Value} {below : List Frame} {meth : Method} {c : Code} {W : State} {locs : List Loc} {cells slots : Nat}
    (X : Stand p l e R s m₀ args below meth c W locs cells slots) (hexec : p.tables.exec = Jvm.exec) (htr : e.platform.stackTraces = false) {n : Nat}
    (h : ∀ a ∈ Bundle.npeArmAtoms n, a.before args s = true)
    (hlocs : ∀ x ∈ locs, ∀ cell, s.heap[x.base]? = some cell → cell.vm.isStatics = false)
    {g : JFrame} (hg : g.method = m₀) (hsize : g.locals.size = c.maxLocals)
    (hRframes : 7 < R.frames) (hRlocals : 2 * g.monitorRoom + (g.stack.map fun v => v.category).sum + 10240 ≤ R.locals)
    (hRcells : cells + 1 ≤ R.cells) (hRslots : slots + n ≤ R.slots) (hlocks : meth.locks = false) :
    ∃ (S : State) (q : Addr) (ce : Cell), (∀ target, Steps p.tables e below ((S.setTop g).pushFrame (.throwing q)) target → Steps p.tables e below ((W.setTop g).pushFrame (.throwNew "java/lang/NullPointerException" none none)) target) ∧
      Stand p l e R s m₀ args below meth c S locs (cells + 1) (slots + n) ∧ S.heap[q]? = some ce ∧ s.vm.findClass "java/lang/NullPointerException" = some ce.cls ∧ ce.vm = .none := by
  have howns : e.platform.frameOwnsMonitors = true := by rw [X.admits.platform]
  have hfin : e.platform.finalization = false := by rw [X.admits.platform]
  have hpl : e.platform.magicAccessors = ({} : Platform).magicAccessors := by rw [X.admits.platform]
  have hpl2 : e.platform.arrayCloneIsPublic = true := by rw [X.admits.platform]
  have a' : ∀ x, x ∈ Bundle.npeArmAtoms n → x.holds args s none s [] = true := fun x hx => h x hx
  obtain ⟨T, Z, L, LZ, Y⟩ := ThrowableC.of_atoms (args := args) howns hfin hpl (fun x hx => h x (by simp [Bundle.npeArmAtoms, hx]))
  obtain ⟨N, LN, hcN, hnNF, hordN, hffS⟩ := NpeC.of_atoms (args := args) hpl hpl2 L Y (fun x hx => h x (by simp [Bundle.npeArmAtoms, hx]))
  obtain ⟨P1, L1, hP1m, hP1s⟩ := PassC.of_atoms (args := args) (s := s) hpl (X := Bundle.nN) (Y := Bundle.rN) (by decide) (by decide) LibCode.NullPointerException.Init0.at_0 LibCode.NullPointerException.Init0.at_1 LibCode.NullPointerException.Init0.at_4 (fun x hx => h x (by simp [Bundle.npeArmAtoms, hx]))
  obtain ⟨PR, LR, hPRm, hPRs⟩ := PassC.of_atoms (args := args) (s := s) hpl (X := Bundle.rN) (Y := Bundle.eN) (by decide) (by decide) LibCode.RuntimeException.Init0.at_0 LibCode.RuntimeException.Init0.at_1 LibCode.RuntimeException.Init0.at_4 (fun x hx => h x (by simp [Bundle.npeArmAtoms, hx]))
  obtain ⟨PE, LEx, hPEm, hPEs⟩ := PassC.of_atoms (args := args) (s := s) hpl (X := Bundle.eN) (Y := Bundle.tN) (by decide) (by decide) LibCode.Exception.Init0.at_0 LibCode.Exception.Init0.at_1 LibCode.Exception.Init0.at_4 (fun x hx => h x (by simp [Bundle.npeArmAtoms, hx]))
  have hfound : s.vm.findClass Bundle.nN = some P1.m.cls := findClass_of_methodNamed hP1m
  have ecls : N.cN = P1.m.cls := Option.some.inj (hcN.symm.trans hfound)
  have hk : s.vm.classes[P1.m.cls]? = some N.kN := by rw [← ecls]; exact LN.cls
  have hinit := Cond.initialized_spec hfound hk (a' (.initialized Bundle.nN) (by simp [Bundle.npeArmAtoms]))
  have hctor : N.kN.findMethod "<init>" "()V" = some P1.m.idx := findMethod_of_methodNamed hP1m hk
  obtain ⟨c1, k1, hc1, hk1, -, -, -, hn⟩ := Cond.instantiable_spec (a' (.instantiable Bundle.nN n) (by simp [Bundle.npeArmAtoms]))
  cases Option.some.inj (hc1.symm.trans hfound)
  cases Option.some.inj (hk1.symm.trans hk)
  have hfsz : (freshCell P1.m.cls N.kN).slots.size = n := by simp [hn]
  have hlink1 : P1.sup = PR.m := Option.some.inj (hP1s.symm.trans hPRm)
  have hlinkR : PR.sup = PE.m := Option.some.inj (hPRs.symm.trans hPEm)
  have hlinkE : PE.sup = Z.m T.toThrowableT := Option.some.inj (hPEs.symm.trans Y.init0)
  have hLs : ∀ P, P ∈ [PR, PE] → P.Links0 e.platform s := fun P hP => by
    simp only [List.mem_cons, List.not_mem_nil, or_false] at hP
    rcases hP with rfl | rfl
    · exact LR
    · exact LEx
  have hsel0 : selectMethod e.platform s.vm P1.m.cls T.fill0 = .method T.fill0 := by
    obtain ⟨c2, r2, m2, q1, q2, q3, q4, -⟩ := Cond.selects_spec (a' (.selects Bundle.nN Bundle.tFill0 Bundle.tFill0) (by simp [Bundle.npeArmAtoms]))
    cases Option.some.inj (q1.symm.trans hfound)
    cases Option.some.inj (q2.symm.trans (State.methodFound?_of_named Y.fill0 (by decide)))
    cases Option.some.inj (q3.symm.trans Y.fill0)
    rw [Launch.admits_selectMethod X.admits]; exact q4
  have hselF : selectMethod e.platform s.vm P1.m.cls T.fill = .method N.fill := by
    obtain ⟨c2, r2, m2, q1, q2, q3, q4, -⟩ := Cond.selects_spec (a' (.selects Bundle.nN Bundle.tFill Bundle.nFill) (by simp [Bundle.npeArmAtoms]))
    cases Option.some.inj (q1.symm.trans hfound)
    cases Option.some.inj (q2.symm.trans (State.methodFound?_of_named Y.fill (by decide)))
    cases Option.some.inj (q3.symm.trans hnNF)
    rw [Launch.admits_selectMethod X.admits]; exact q4
  obtain ⟨cellS0, hcS0, hiss⟩ := Y.statics
  obtain ⟨u0, hu0⟩ := Cond.staticRefV Y.unassigned L.unassignedStatic L.statics hcS0 hiss (a' (.isRef (.static Bundle.tN "UNASSIGNED_STACK" Bundle.steD)) (by simp [Bundle.npeArmAtoms]))
  obtain ⟨sen, hsen⟩ := Cond.staticRefV Y.sentinel L.sentinelStatic L.statics hcS0 hiss (a' (.isRef (.static Bundle.tN "SUPPRESSED_SENTINEL" Bundle.listD)) (by simp [Bundle.npeArmAtoms]))
  obtain ⟨ci198, i198, fB, hk198, hg198, ha198, hsB, -, hnB, htB, hffB⟩ := Cond.ownField (t := .object "java/lang/Object") Y.found L.cls (by decide +kernel) (a' (.fieldLink Bundle.tN 198 Bundle.tN "backtrace" Bundle.objD) (by simp [Bundle.npeArmAtoms])) (a' (.lays Bundle.tN Bundle.tN "backtrace" Bundle.objD) (by simp [Bundle.npeArmAtoms])) e.platform hpl
  obtain ⟨cellS, hcS', heS, -, hkeep⟩ := X.same.2.2.2.2.2 T.aS cellS0 hcS0
  have hcellS : W.heap[T.aS]? = some cellS := hcS'
  have hout' : ∀ i, (⟨T.aS, i⟩ : Loc) ∉ locs := fun i hmem => by
    have := hlocs _ hmem cellS0 hcS0
    rw [hiss] at this; cases this
  have hknownS : cellS.vm ≠ .unknown := by
    rw [heS]; intro hu
    rw [show cellS0.vm = .unknown from hu] at hiss
    cases hiss
  have hvU : cellS.slots[T.fUnassigned.slot]? = some u0.v := by rw [hkeep _ (hout' _)]; exact hu0
  have hvSen : cellS.slots[T.fSentinel.slot]? = some sen.v := by rw [hkeep _ (hout' _)]; exact hsen
  obtain ⟨tyC, dC, hdC, hdnC⟩ := Cond.laysAt hfound hk Y.cause (a' (.lays Bundle.nN Bundle.tN "cause" "Ljava/lang/Throwable;") (by simp [Bundle.npeArmAtoms]))
  obtain ⟨tyS, dS, hdS, hdnS⟩ := Cond.laysAt hfound hk Y.stack (a' (.lays Bundle.nN Bundle.tN "stackTrace" Bundle.steD) (by simp [Bundle.npeArmAtoms]))
  obtain ⟨tyP, dP, hdP, hdnP⟩ := Cond.laysAt hfound hk Y.supp (a' (.lays Bundle.nN Bundle.tN "suppressedExceptions" Bundle.listD) (by simp [Bundle.npeArmAtoms]))
  obtain ⟨tyX, dX, hdX, hdnX⟩ := Cond.laysAt hfound hk hffS (a' (.lays Bundle.nN Bundle.nN "extendedMessageState" "I") (by simp [Bundle.npeArmAtoms, Bundle.npeAtoms]))
  obtain ⟨hnX, htX⟩ := State.fieldFound?_type hffS (t := .int) (by decide +kernel)
  have xC := Cond.laysApart hdC hdX hdnC hdnX (by rw [hnX, Y.causeName]; decide)
  have xS := Cond.laysApart hdS hdX hdnS hdnX (by rw [hnX, Y.stackName]; decide)
  have xP := Cond.laysApart hdP hdX hdnP hdnX (by rw [hnX, Y.suppName]; decide)
  have hv0 : (freshCell P1.m.cls N.kN).slots[N.fState.slot]? = some (.int 0) := by
    have := fresh_default (c := P1.m.cls) tyX
    rw [htX] at this; exact this
  obtain ⟨tyB, dB, hdB, hdnB⟩ := Cond.laysAt hfound hk hffB (a' (.lays Bundle.nN Bundle.tN "backtrace" Bundle.objD) (by simp [Bundle.npeArmAtoms]))
  have bC := Cond.laysApart hdB hdC hdnB hdnC (by rw [hnB, Y.causeName]; decide)
  have bS := Cond.laysApart hdB hdS hdnB hdnS (by rw [hnB, Y.stackName]; decide)
  have bP := Cond.laysApart hdB hdP hdnB hdnP (by rw [hnB, Y.suppName]; decide)
  have bX := Cond.laysApart hdB hdX hdnB hdnX (by rw [hnB, hnX]; decide)
  have hbk : ((npeCell N.toNpeT (preparedCellV T.toThrowableT (freshCell P1.m.cls N.kN) W.heap.size u0 sen) W.cur).withEntry W.cur).slots[fB.slot]? = some .null := by
    have := fresh_default (c := P1.m.cls) tyB
    rw [htB] at this
    simpa [npeCell, preparedCellV, Cell.setSlot, Cell.withEntry, Array.getElem?_setIfInBounds, bC, bS, bP, bX, bC.symm, bS.symm, bP.symm, bX.symm, defaultValue] using this
  have tkC := Takes.of_laid (v := .ref W.heap.size) hk hordN tyC (by rw [Y.causeType]; rfl)
  have tkS := Takes.of_laid (v := u0.v) hk hordN tyS (by rw [Y.stackType]; exact fits_refV_array _ u0)
  have tkP := Takes.of_laid (v := sen.v) hk hordN tyP (by rw [Y.suppType]; exact fits_refV_object _ sen)
  have tkX := Takes.of_laid (v := .int 1) hk hordN tyX (by rw [htX]; rfl)
  have hskip : SkipFacts T e.platform s (fun u => u) u0 ((npeCell N.toNpeT (preparedCellV T.toThrowableT (freshCell P1.m.cls N.kN) W.heap.size u0 sen) W.cur).withEntry W.cur) := ⟨{ ci198 := ci198, i198 := i198, fBack := fB }, ⟨hk198, hg198, ha198, hsB⟩, hbk, fun _ _ => rfl⟩
  obtain ⟨vm', X3, st, -⟩ := X.throwsNpeColdBareVAt hexec hg hsize T L Z LZ N LN P1 L1 [PR, PE] hLs hlink1 ⟨hlinkR, hlinkE, trivial⟩ hfound hk hinit hordN hctor hsel0 hselF hcellS hknownS hvU hvSen
    hv0 xC xS xP tkC tkS tkP tkX Y.objLocals hskip (fun _ _ hA hW _ hroom _ hrest => L.nativeOff p htr hA hW hroom hrest) (by simpa using hRframes) hRlocals (by simp) hRcells (by rw [hn]; exact hRslots)
  have hlt : W.heap.size < ((W.pushCell (freshCell P1.m.cls N.kN)).setVm vm').heap.size := by
    show W.heap.size < (W.pushCell (freshCell P1.m.cls N.kN)).heap.size
    rw [State.heap_size_pushCell]; omega
  rw [hfsz] at X3
  obtain ⟨g₁, hfrM⟩ := X3.frames_eq
  have hU : ((((W.pushCell (freshCell P1.m.cls N.kN)).setVm vm').setCell W.heap.size (npeBareV T.toThrowableT N.toNpeT (freshCell P1.m.cls N.kN) W.heap.size u0 sen)).setTop g).pushFrame (.throwing W.heap.size) = (((W.pushCell (freshCell P1.m.cls N.kN)).setVm vm').setCell W.heap.size (npeBareV T.toThrowableT N.toNpeT (freshCell P1.m.cls N.kN) W.heap.size u0 sen)).setFrames (.throwing W.heap.size :: .java g :: below) := by
    rw [State.pushFrame, State.frames_setTop _ hfrM, State.setTop_of_frames _ hfrM, State.setFrames_setFrames]
  refine ⟨_, W.heap.size, _, fun target ht => st.trans (by rw [← hU]; exact ht), X3.forget (fun y hy => ?_), heapAt_setCell_self _ hlt, hfound, rfl⟩
  simp only [List.mem_cons, List.not_mem_nil, or_false] at hy
  have hge : s.heap.size ≤ W.heap.size := X.same.2.1
  rcases hy with rfl | rfl | rfl | rfl | rfl <;> exact hge
/-- the words of a machine's NullPointerException, but the four that speak of the heap -/
def vx_atN (n : Nat) : List Cond := (Bundle.npeArmAtoms n).filter vx_no
/-- the words of a machine's throw with a message, but the four that speak of the heap -/
def vx_atM (X : String) (names : List String) : List Cond := (Bundle.messageArmAtoms X names).filter vx_no
section
variable {p : Program} {l : Launch} {e : Env} {R : Room} {s : State} {m : MethodId} {args : Array Value} {below : List Frame} {meth : Method} {c : Code} {H : Heap} {locs : List Loc} {cells slots : Nat}
/-- a frame seen from a rebased start, seen from the first start again -/
theorem vx_back9 {T S : State} {R' : Room} {k n : Nat} (X : Stand p l e R s m args below meth c T locs cells slots) (Y : Stand p l e R' ((T.setVm s.vm).setFrames (.invoking m args :: below)) m args below meth c T [] 0 0) (Z : Stand p l e R' ((T.setVm s.vm).setFrames (.invoking m args :: below)) m args below meth c S [] k n) :
    Stand p l e R s m args below meth c S locs (cells + k) (slots + n) := by
  have hW0 : s.WarmedH ((T.setVm s.vm).setFrames (.invoking m args :: below)).vm := State.WarmedH.refl s
  refine { admits := X.admits, cas := X.cas, clock := X.clock, frames := X.frames, room := X.room, hears := X.hears, method := X.method, code := X.code, here := Z.here, tail := Z.tail, warmed := State.WarmedH.trans hW0 Z.warmed, limits := Z.limits.trans (Y.limits.symm.trans X.limits), bytes := Z.bytes.trans (Y.bytes.symm.trans X.bytes), same := ?_ }
  obtain ⟨e1, e2⟩ := Z.same
  rw [State.setFrames_setFrames] at e1
  have h2 : (T.setVm s.vm).sameButNew (S.setVm s.vm) [] k n := ⟨e1, e2⟩
  have h3 := X.same.trans h2
  rw [List.append_nil] at h3
  exact h3
/-- from the machine's note that E is thrown here with this text -/
def vx_Note (p : Program) (l : Launch) (e : Env) (R : Room) (s : State) (m : MethodId) (args : Array Value) (below : List Frame) (meth : Method) (c : Code) (H : Heap) (locs : List Loc) (cells slots : Nat) (Q : State → Prop) (g : JFrame) (E text : String) : Prop :=
  ∀ T : State, T.heap = H → Stand p l e R s m args below meth c T locs cells slots → ∃ t, Steps p.tables e below ((T.setTop g).pushFrame (.throwNew E (some text) none)) t ∧ Q t
theorem vx_vm {pc : Nat} {ls : Array Slot} {rest : List Value} {Q : State → Prop} (hexec : p.tables.exec = Jvm.exec) (hl : l.stackTraces = false) {cls text : String} {names : List String} {nb : Nat} {A : Nat → Prop}
    (hcls : Bundle.fit cls = true) (hnames : ∀ n ∈ names, Bundle.fit n = true) (hsoe : (cls == "java/lang/StackOverflowError") = false) (hoom : (cls == "java/lang/OutOfMemoryError") = false)
    (hat : ∀ w ∈ vx_atM cls names, w.before args s = true) (hgood : ∀ w ∈ vx_atM cls names, vx_ot w = true)
    (hU : vx_Zq Bundle.tN "UNASSIGNED_STACK" Bundle.steD A s s.heap) (hN : vx_Zq Bundle.tN "SUPPRESSED_SENTINEL" Bundle.listD A s s.heap) (hS : va_S A s.heap H locs) (hsize : ls.size = c.maxLocals)
    (htext : (text == notModelled) = false) (hnb : (stringBytes (stringToUtf16 text)).size ≤ nb) (hnb1 : nb ≤ 1000)
    (hRframes : names.length + 4 < R.frames) (hRlocals : (rest.map fun v => v.category).sum + 10240 ≤ R.locals) (hshort : 13 * names.length + 55 ≤ 10240) (hRcells : cells + 3 ≤ R.cells) (hRslots : slots + (nb + 10) ≤ R.slots) (hlocks : meth.locks = false)
    (k : ∀ (H1 : Heap) (q9 : Addr) (ce : Cell), H.size ≤ H1.size → (∀ q : Nat, q < H.size → H1[q]? = H[q]?) → va_S A s.heap H1 locs → H1[q9]? = some ce → ce.vm = .none → s.vm.findClass cls = some ce.cls → vx_W p l e R s m args below meth c H1 locs (cells + 3) (slots + (nb + 10)) Q (F0 m pc ls rest) q9) :
    vx_Note p l e R s m args below meth c H locs cells slots Q (F0 m pc ls rest) cls text := by
  intro T hT X
  have htr : e.platform.stackTraces = false := (show e.platform.stackTraces = l.stackTraces by rw [X.admits.platform]).trans hl
  have Y := vx_rebase X (R' := { frames := R.frames, locals := R.locals, cells := 3, slots := nb + 10 }) (Nat.le_refl _) (Nat.le_refl _) hRcells hRslots
  have hhp : ((T.setVm s.vm).setFrames (.invoking m args :: below)).heap = H := hT
  have hW0 : s.WarmedH ((T.setVm s.vm).setFrames (.invoking m args :: below)).vm := State.WarmedH.refl s
  have hat' : ∀ w ∈ vx_atM cls names, w.before args ((T.setVm s.vm).setFrames (.invoking m args :: below)) = true := fun w hw => vx_ot_at hW0 rfl (hgood w hw) (hat w hw)
  have hU' : vx_Zq Bundle.tN "UNASSIGNED_STACK" Bundle.steD A ((T.setVm s.vm).setFrames (.invoking m args :: below)) ((T.setVm s.vm).setFrames (.invoking m args :: below)).heap := by rw [hhp]; exact vx_Zq.moved hW0.alike (hU.kept hS.2.1)
  have hN' : vx_Zq Bundle.tN "SUPPRESSED_SENTINEL" Bundle.listD A ((T.setVm s.vm).setFrames (.invoking m args :: below)) ((T.setVm s.vm).setFrames (.invoking m args :: below)).heap := by rw [hhp]; exact vx_Zq.moved hW0.alike (hN.kept hS.2.1)
  obtain ⟨S, q, ce, st, Z, hce, hcl', hv⟩ := vx_vmAt Y hexec htr (cls := cls) (names := names) (text := text) hcls hnames hsoe hoom (vx_own hat' (vx_isRefq hU'.1) (vx_isRefq hN'.1) hU'.2.word hN'.2.word) (fun x hx => nomatch hx) htext
    (by rw [Launch.admits_arrayLengthLimit X.admits]; omega) (by rw [Launch.admits_maxHeapBytes X.admits]; simp only [componentBytes]; omega)
    (g := F0 m pc ls rest) rfl hsize hRframes (by show 2 * 0 + (rest.map fun v => v.category).sum + 10240 ≤ R.locals; omega) hshort (by show 0 + 3 ≤ 3; omega) (by show 0 + (_ + 4 + 6) ≤ nb + 10; omega) hlocks
  obtain ⟨f1, f2⟩ := vx_frame Z.same
  have f1' : H.size ≤ S.heap.size := by rw [← hT]; exact f1
  have f2' : ∀ q : Nat, q < H.size → S.heap[q]? = H[q]? := fun q hq => by
    rw [← hT]
    exact f2 q (by rw [← hT] at hq; exact hq) (fun z hz => nomatch hz)
  have X5 := vx_back9 X Y Z
  have X6 : Stand p l e R s m args below meth c S locs (cells + 3) (slots + (nb + 10)) := { X5 with same := X5.same.mono (by omega) (by omega) }
  obtain ⟨t, a1, b1⟩ := k S.heap q ce f1' f2' ⟨Nat.le_trans hS.1 f1', fun q h1 h2 => (f2' q (Nat.lt_of_lt_of_le h1 hS.1)).trans (hS.2.1 q h1 h2), hS.2.2⟩ hce hv hcl' S rfl X6
  exact ⟨t, st t a1, b1⟩
/-- from the machine's note that NullPointerException is thrown here -/
def vx_NoteN (p : Program) (l : Launch) (e : Env) (R : Room) (s : State) (m : MethodId) (args : Array Value) (below : List Frame) (meth : Method) (c : Code) (H : Heap) (locs : List Loc) (cells slots : Nat) (Q : State → Prop) (g : JFrame) : Prop :=
  ∀ T : State, T.heap = H → Stand p l e R s m args below meth c T locs cells slots → ∃ t, Steps p.tables e below ((T.setTop g).pushFrame (.throwNew "java/lang/NullPointerException" none none)) t ∧ Q t
theorem vx_npe {pc : Nat} {ls : Array Slot} {rest : List Value} {Q : State → Prop} (hexec : p.tables.exec = Jvm.exec) (hl : l.stackTraces = false) {nb : Nat} {A : Nat → Prop}
    (hat : ∀ w ∈ vx_atN nb, w.before args s = true) (hgood : ∀ w ∈ vx_atN nb, vx_ot w = true)
    (hU : vx_Zq Bundle.tN "UNASSIGNED_STACK" Bundle.steD A s s.heap) (hN : vx_Zq Bundle.tN "SUPPRESSED_SENTINEL" Bundle.listD A s s.heap) (hS : va_S A s.heap H locs) (hsize : ls.size = c.maxLocals)
    (hRframes : 7 < R.frames) (hRlocals : (rest.map fun v => v.category).sum + 10240 ≤ R.locals) (hRcells : cells + 1 ≤ R.cells) (hRslots : slots + nb ≤ R.slots) (hlocks : meth.locks = false)
    (k : ∀ (H1 : Heap) (q9 : Addr) (ce : Cell), H.size ≤ H1.size → (∀ q : Nat, q < H.size → H1[q]? = H[q]?) → va_S A s.heap H1 locs → H1[q9]? = some ce → ce.vm = .none → s.vm.findClass "java/lang/NullPointerException" = some ce.cls → vx_W p l e R s m args below meth c H1 locs (cells + 1) (slots + nb) Q (F0 m pc ls rest) q9) :
    vx_NoteN p l e R s m args below meth c H locs cells slots Q (F0 m pc ls rest) := by
  intro T hT X
  have htr : e.platform.stackTraces = false := (show e.platform.stackTraces = l.stackTraces by rw [X.admits.platform]).trans hl
  have Y := vx_rebase X (R' := { frames := R.frames, locals := R.locals, cells := 1, slots := nb }) (Nat.le_refl _) (Nat.le_refl _) hRcells hRslots
  have hhp : ((T.setVm s.vm).setFrames (.invoking m args :: below)).heap = H := hT
  have hW0 : s.WarmedH ((T.setVm s.vm).setFrames (.invoking m args :: below)).vm := State.WarmedH.refl s
  have hat' : ∀ w ∈ vx_atN nb, w.before args ((T.setVm s.vm).setFrames (.invoking m args :: below)) = true := fun w hw => vx_ot_at hW0 rfl (hgood w hw) (hat w hw)
  have hU' : vx_Zq Bundle.tN "UNASSIGNED_STACK" Bundle.steD A ((T.setVm s.vm).setFrames (.invoking m args :: below)) ((T.setVm s.vm).setFrames (.invoking m args :: below)).heap := by rw [hhp]; exact vx_Zq.moved hW0.alike (hU.kept hS.2.1)
  have hN' : vx_Zq Bundle.tN "SUPPRESSED_SENTINEL" Bundle.listD A ((T.setVm s.vm).setFrames (.invoking m args :: below)) ((T.setVm s.vm).setFrames (.invoking m args :: below)).heap := by rw [hhp]; exact vx_Zq.moved hW0.alike (hN.kept hS.2.1)
  obtain ⟨S, q, ce, st, Z, hce, hcl', hv⟩ := vx_npeAt Y hexec htr (n := nb) (vx_own hat' (vx_isRefq hU'.1) (vx_isRefq hN'.1) hU'.2.word hN'.2.word) (fun x hx => nomatch hx)
    (g := F0 m pc ls rest) rfl hsize hRframes (by show 2 * 0 + (rest.map fun v => v.category).sum + 10240 ≤ R.locals; omega) (by show 0 + 1 ≤ 1; omega) (by show 0 + nb ≤ nb; omega) hlocks
  obtain ⟨f1, f2⟩ := vx_frame Z.same
  have f1' : H.size ≤ S.heap.size := by rw [← hT]; exact f1
  have f2' : ∀ q : Nat, q < H.size → S.heap[q]? = H[q]? := fun q hq => by
    rw [← hT]
    exact f2 q (by rw [← hT] at hq; exact hq) (fun z hz => nomatch hz)
  have X5 := vx_back9 X Y Z
  have X6 : Stand p l e R s m args below meth c S locs (cells + 1) (slots + nb) := { X5 with same := X5.same.mono (by omega) (by omega) }
  obtain ⟨t, a1, b1⟩ := k S.heap q ce f1' f2' ⟨Nat.le_trans hS.1 f1', fun q h1 h2 => (f2' q (Nat.lt_of_lt_of_le h1 hS.1)).trans (hS.2.1 q h1 h2), hS.2.2⟩ hce hv hcl' S rfl X6
  exact ⟨t, st t a1, b1⟩
variable {Q : State → Prop} {cc : ByteArray} {pc : Nat} {ls : Array Slot} {rest : List Value}
theorem vx_idivZ (hexec : p.tables.exec = Jvm.exec) (hb : c.code = cc) {a b : Int32} (h0 : b = 0) (d : decode cc pc = .ok (.idiv, 1)) (k : vx_Note p l e R s m args below meth c H locs cells slots Q (F0 m pc ls rest) "java/lang/ArithmeticException" "/ by zero") :
    W p l e R s m args below meth c H locs cells slots Q (F0 m pc ls (.int b :: .int a :: rest)) := by
  intro T hT X
  obtain ⟨t, st, q⟩ := k T hT X
  exact ⟨t, X.idivZero hexec (g := F0 m pc ls (.int b :: .int a :: rest)) rfl (a := a) (rest := rest) (by rw [h0]) (by rw [hb]; exact d) t st, q⟩
theorem vx_iremZ (hexec : p.tables.exec = Jvm.exec) (hb : c.code = cc) {a b : Int32} (h0 : b = 0) (d : decode cc pc = .ok (.irem, 1)) (k : vx_Note p l e R s m args below meth c H locs cells slots Q (F0 m pc ls rest) "java/lang/ArithmeticException" "/ by zero") :
    W p l e R s m args below meth c H locs cells slots Q (F0 m pc ls (.int b :: .int a :: rest)) := by
  intro T hT X
  obtain ⟨t, st, q⟩ := k T hT X
  exact ⟨t, X.iremZero hexec (g := F0 m pc ls (.int b :: .int a :: rest)) rfl (a := a) (rest := rest) (by rw [h0]) (by rw [hb]; exact d) t st, q⟩
theorem vx_ldivZ (hexec : p.tables.exec = Jvm.exec) (hb : c.code = cc) {a b : Int64} (h0 : b = 0) (d : decode cc pc = .ok (.ldiv, 1)) (k : vx_Note p l e R s m args below meth c H locs cells slots Q (F0 m pc ls rest) "java/lang/ArithmeticException" "/ by zero") :
    W p l e R s m args below meth c H locs cells slots Q (F0 m pc ls (.long b :: .long a :: rest)) := by
  intro T hT X
  obtain ⟨t, st, q⟩ := k T hT X
  exact ⟨t, X.ldivZero hexec (g := F0 m pc ls (.long b :: .long a :: rest)) rfl (a := a) (rest := rest) (by rw [h0]) (by rw [hb]; exact d) t st, q⟩
theorem vx_lremZ (hexec : p.tables.exec = Jvm.exec) (hb : c.code = cc) {a b : Int64} (h0 : b = 0) (d : decode cc pc = .ok (.lrem, 1)) (k : vx_Note p l e R s m args below meth c H locs cells slots Q (F0 m pc ls rest) "java/lang/ArithmeticException" "/ by zero") :
    W p l e R s m args below meth c H locs cells slots Q (F0 m pc ls (.long b :: .long a :: rest)) := by
  intro T hT X
  obtain ⟨t, st, q⟩ := k T hT X
  exact ⟨t, X.lremZero hexec (g := F0 m pc ls (.long b :: .long a :: rest)) rfl (a := a) (rest := rest) (by rw [h0]) (by rw [hb]; exact d) t st, q⟩
theorem vx_ialdZ {D : va_G} {cl : List vw_C} {ws : va_W} {tys : List (ClassId × FieldType)} {a : Nat} (hexec : p.tables.exec = Jvm.exec) (hb : c.code = cc) (hK : va_K D cl tys s) (hP : va_P D cl ws H) (q0 t0 : Nat) {cA : ClassId} {n : Nat} {f : Nat → Int32} (ha : ws[q0]? = some (a, .inl (cA, n, .inl f))) (ht : tys[t0]? = some (cA, .int)) {i : Int32} (hout : ¬ vp_in i n) (hdg : decode cc pc = .ok (.iaload, 1))
    (k : ∀ tx : String, tx = (toString "Index " ++ toString i ++ toString " out of bounds for length " ++ toString n : String) → vx_Note p l e R s m args below meth c H locs cells slots Q (F0 m pc ls rest) "java/lang/ArrayIndexOutOfBoundsException" tx) : W p l e R s m args below meth c H locs cells slots Q (F0 m pc ls (.int i :: .ref a :: rest)) := by
  intro T hT X
  obtain ⟨t, st, q⟩ := k _ rfl T hT X
  refine ⟨t, ?_, q⟩
  have h1 := X.ialoadOut hexec (by rw [hT]; exact hP q0 _ ha) ((hK.2 t0 _ ht).1 n (fun j => .int (f j))) (j := i) (by show (i < 0 ∨ (arrV _ _ _).slots.size ≤ _); rw [arrV_size]; exact Classical.byContradiction hout) (g := F0 m pc ls (.int i :: .ref a :: rest)) rfl (rest := rest) rfl (by rw [hb]; exact hdg) t
  simp only [arrV_size] at h1
  exact h1 st
theorem vx_iastZ {D : va_G} {cl : List vw_C} {ws : va_W} {tys : List (ClassId × FieldType)} {a : Nat} (hexec : p.tables.exec = Jvm.exec) (hb : c.code = cc) (hK : va_K D cl tys s) (hP : va_P D cl ws H) (q0 t0 : Nat) {cA : ClassId} {n : Nat} {f : Nat → Int32} (ha : ws[q0]? = some (a, .inl (cA, n, .inl f))) (ht : tys[t0]? = some (cA, .int)) {i : Int32} {x : Int32} (hout : ¬ vp_in i n) (hdg : decode cc pc = .ok (.iastore, 1))
    (k : ∀ tx : String, tx = (toString "Index " ++ toString i ++ toString " out of bounds for length " ++ toString n : String) → vx_Note p l e R s m args below meth c H locs cells slots Q (F0 m pc ls rest) "java/lang/ArrayIndexOutOfBoundsException" tx) : W p l e R s m args below meth c H locs cells slots Q (F0 m pc ls (.int x :: .int i :: .ref a :: rest)) := by
  intro T hT X
  obtain ⟨t, st, q⟩ := k _ rfl T hT X
  refine ⟨t, ?_, q⟩
  have h1 := X.iastoreOut hexec (by rw [hT]; exact hP q0 _ ha) ((hK.2 t0 _ ht).1 n (fun j => .int (f j))) (j := i) (by show (i < 0 ∨ (arrV _ _ _).slots.size ≤ _); rw [arrV_size]; exact Classical.byContradiction hout) (g := F0 m pc ls (.int x :: .int i :: .ref a :: rest)) rfl (rest := rest) rfl (by rw [hb]; exact hdg) t
  simp only [arrV_size] at h1
  exact h1 st
theorem vx_baldZ {D : va_G} {cl : List vw_C} {ws : va_W} {tys : List (ClassId × FieldType)} {a : Nat} (hexec : p.tables.exec = Jvm.exec) (hb : c.code = cc) (hK : va_K D cl tys s) (hP : va_P D cl ws H) (q0 t0 : Nat) {cA : ClassId} {n : Nat} {f : Nat → Int32} (ha : ws[q0]? = some (a, .inl (cA, n, .inl f))) (ht : tys[t0]? = some (cA, .byte)) {i : Int32} (hout : ¬ vp_in i n) (hdg : decode cc pc = .ok (.baload, 1))
    (k : ∀ tx : String, tx = (toString "Index " ++ toString i ++ toString " out of bounds for length " ++ toString n : String) → vx_Note p l e R s m args below meth c H locs cells slots Q (F0 m pc ls rest) "java/lang/ArrayIndexOutOfBoundsException" tx) : W p l e R s m args below meth c H locs cells slots Q (F0 m pc ls (.int i :: .ref a :: rest)) := by
  intro T hT X
  obtain ⟨t, st, q⟩ := k _ rfl T hT X
  refine ⟨t, ?_, q⟩
  have h1 := X.baloadOut hexec (by rw [hT]; exact hP q0 _ ha) ((hK.2 t0 _ ht).1 n (fun j => .int (f j))) (j := i) (by show (i < 0 ∨ (arrV _ _ _).slots.size ≤ _); rw [arrV_size]; exact Classical.byContradiction hout) (g := F0 m pc ls (.int i :: .ref a :: rest)) rfl (rest := rest) rfl (by rw [hb]; exact hdg) t
  simp only [arrV_size] at h1
  exact h1 st
theorem vx_bastZ {D : va_G} {cl : List vw_C} {ws : va_W} {tys : List (ClassId × FieldType)} {a : Nat} (hexec : p.tables.exec = Jvm.exec) (hb : c.code = cc) (hK : va_K D cl tys s) (hP : va_P D cl ws H) (q0 t0 : Nat) {cA : ClassId} {n : Nat} {f : Nat → Int32} (ha : ws[q0]? = some (a, .inl (cA, n, .inl f))) (ht : tys[t0]? = some (cA, .byte)) {i : Int32} {x : Int32} (hout : ¬ vp_in i n) (hdg : decode cc pc = .ok (.bastore, 1))
    (k : ∀ tx : String, tx = (toString "Index " ++ toString i ++ toString " out of bounds for length " ++ toString n : String) → vx_Note p l e R s m args below meth c H locs cells slots Q (F0 m pc ls rest) "java/lang/ArrayIndexOutOfBoundsException" tx) : W p l e R s m args below meth c H locs cells slots Q (F0 m pc ls (.int x :: .int i :: .ref a :: rest)) := by
  intro T hT X
  obtain ⟨t, st, q⟩ := k _ rfl T hT X
  refine ⟨t, ?_, q⟩
  have h1 := X.bastoreOut hexec (by rw [hT]; exact hP q0 _ ha) ((hK.2 t0 _ ht).1 n (fun j => .int (f j))) (j := i) (by show (i < 0 ∨ (arrV _ _ _).slots.size ≤ _); rw [arrV_size]; exact Classical.byContradiction hout) (g := F0 m pc ls (.int x :: .int i :: .ref a :: rest)) rfl (rest := rest) rfl (by rw [hb]; exact hdg) t
  simp only [arrV_size] at h1
  exact h1 st
theorem vx_zaldZ {D : va_G} {cl : List vw_C} {ws : va_W} {tys : List (ClassId × FieldType)} {a : Nat} (hexec : p.tables.exec = Jvm.exec) (hb : c.code = cc) (hK : va_K D cl tys s) (hP : va_P D cl ws H) (q0 t0 : Nat) {cA : ClassId} {n : Nat} {f : Nat → Int32} (ha : ws[q0]? = some (a, .inl (cA, n, .inl f))) (ht : tys[t0]? = some (cA, .boolean)) {i : Int32} (hout : ¬ vp_in i n) (hdg : decode cc pc = .ok (.baload, 1))
    (k : ∀ tx : String, tx = (toString "Index " ++ toString i ++ toString " out of bounds for length " ++ toString n : String) → vx_Note p l e R s m args below meth c H locs cells slots Q (F0 m pc ls rest) "java/lang/ArrayIndexOutOfBoundsException" tx) : W p l e R s m args below meth c H locs cells slots Q (F0 m pc ls (.int i :: .ref a :: rest)) := by
  intro T hT X
  obtain ⟨t, st, q⟩ := k _ rfl T hT X
  refine ⟨t, ?_, q⟩
  have h1 := X.baloadOut hexec (by rw [hT]; exact hP q0 _ ha) ((hK.2 t0 _ ht).1 n (fun j => .int (f j))) (j := i) (by show (i < 0 ∨ (arrV _ _ _).slots.size ≤ _); rw [arrV_size]; exact Classical.byContradiction hout) (g := F0 m pc ls (.int i :: .ref a :: rest)) rfl (rest := rest) rfl (by rw [hb]; exact hdg) t
  simp only [arrV_size] at h1
  exact h1 st
theorem vx_zastZ {D : va_G} {cl : List vw_C} {ws : va_W} {tys : List (ClassId × FieldType)} {a : Nat} (hexec : p.tables.exec = Jvm.exec) (hb : c.code = cc) (hK : va_K D cl tys s) (hP : va_P D cl ws H) (q0 t0 : Nat) {cA : ClassId} {n : Nat} {f : Nat → Int32} (ha : ws[q0]? = some (a, .inl (cA, n, .inl f))) (ht : tys[t0]? = some (cA, .boolean)) {i : Int32} {x : Int32} (hout : ¬ vp_in i n) (hdg : decode cc pc = .ok (.bastore, 1))
    (k : ∀ tx : String, tx = (toString "Index " ++ toString i ++ toString " out of bounds for length " ++ toString n : String) → vx_Note p l e R s m args below meth c H locs cells slots Q (F0 m pc ls rest) "java/lang/ArrayIndexOutOfBoundsException" tx) : W p l e R s m args below meth c H locs cells slots Q (F0 m pc ls (.int x :: .int i :: .ref a :: rest)) := by
  intro T hT X
  obtain ⟨t, st, q⟩ := k _ rfl T hT X
  refine ⟨t, ?_, q⟩
  have h1 := X.bastoreOut hexec (by rw [hT]; exact hP q0 _ ha) ((hK.2 t0 _ ht).1 n (fun j => .int (f j))) (j := i) (by show (i < 0 ∨ (arrV _ _ _).slots.size ≤ _); rw [arrV_size]; exact Classical.byContradiction hout) (g := F0 m pc ls (.int x :: .int i :: .ref a :: rest)) rfl (rest := rest) rfl (by rw [hb]; exact hdg) t
  simp only [arrV_size] at h1
  exact h1 st
theorem vx_caldZ {D : va_G} {cl : List vw_C} {ws : va_W} {tys : List (ClassId × FieldType)} {a : Nat} (hexec : p.tables.exec = Jvm.exec) (hb : c.code = cc) (hK : va_K D cl tys s) (hP : va_P D cl ws H) (q0 t0 : Nat) {cA : ClassId} {n : Nat} {f : Nat → Int32} (ha : ws[q0]? = some (a, .inl (cA, n, .inl f))) (ht : tys[t0]? = some (cA, .char)) {i : Int32} (hout : ¬ vp_in i n) (hdg : decode cc pc = .ok (.caload, 1))
    (k : ∀ tx : String, tx = (toString "Index " ++ toString i ++ toString " out of bounds for length " ++ toString n : String) → vx_Note p l e R s m args below meth c H locs cells slots Q (F0 m pc ls rest) "java/lang/ArrayIndexOutOfBoundsException" tx) : W p l e R s m args below meth c H locs cells slots Q (F0 m pc ls (.int i :: .ref a :: rest)) := by
  intro T hT X
  obtain ⟨t, st, q⟩ := k _ rfl T hT X
  refine ⟨t, ?_, q⟩
  have h1 := X.caloadOut hexec (by rw [hT]; exact hP q0 _ ha) ((hK.2 t0 _ ht).1 n (fun j => .int (f j))) (j := i) (by show (i < 0 ∨ (arrV _ _ _).slots.size ≤ _); rw [arrV_size]; exact Classical.byContradiction hout) (g := F0 m pc ls (.int i :: .ref a :: rest)) rfl (rest := rest) rfl (by rw [hb]; exact hdg) t
  simp only [arrV_size] at h1
  exact h1 st
theorem vx_castZ {D : va_G} {cl : List vw_C} {ws : va_W} {tys : List (ClassId × FieldType)} {a : Nat} (hexec : p.tables.exec = Jvm.exec) (hb : c.code = cc) (hK : va_K D cl tys s) (hP : va_P D cl ws H) (q0 t0 : Nat) {cA : ClassId} {n : Nat} {f : Nat → Int32} (ha : ws[q0]? = some (a, .inl (cA, n, .inl f))) (ht : tys[t0]? = some (cA, .char)) {i : Int32} {x : Int32} (hout : ¬ vp_in i n) (hdg : decode cc pc = .ok (.castore, 1))
    (k : ∀ tx : String, tx = (toString "Index " ++ toString i ++ toString " out of bounds for length " ++ toString n : String) → vx_Note p l e R s m args below meth c H locs cells slots Q (F0 m pc ls rest) "java/lang/ArrayIndexOutOfBoundsException" tx) : W p l e R s m args below meth c H locs cells slots Q (F0 m pc ls (.int x :: .int i :: .ref a :: rest)) := by
  intro T hT X
  obtain ⟨t, st, q⟩ := k _ rfl T hT X
  refine ⟨t, ?_, q⟩
  have h1 := X.castoreOut hexec (by rw [hT]; exact hP q0 _ ha) ((hK.2 t0 _ ht).1 n (fun j => .int (f j))) (j := i) (by show (i < 0 ∨ (arrV _ _ _).slots.size ≤ _); rw [arrV_size]; exact Classical.byContradiction hout) (g := F0 m pc ls (.int x :: .int i :: .ref a :: rest)) rfl (rest := rest) rfl (by rw [hb]; exact hdg) t
  simp only [arrV_size] at h1
  exact h1 st
theorem vx_saldZ {D : va_G} {cl : List vw_C} {ws : va_W} {tys : List (ClassId × FieldType)} {a : Nat} (hexec : p.tables.exec = Jvm.exec) (hb : c.code = cc) (hK : va_K D cl tys s) (hP : va_P D cl ws H) (q0 t0 : Nat) {cA : ClassId} {n : Nat} {f : Nat → Int32} (ha : ws[q0]? = some (a, .inl (cA, n, .inl f))) (ht : tys[t0]? = some (cA, .short)) {i : Int32} (hout : ¬ vp_in i n) (hdg : decode cc pc = .ok (.saload, 1))
    (k : ∀ tx : String, tx = (toString "Index " ++ toString i ++ toString " out of bounds for length " ++ toString n : String) → vx_Note p l e R s m args below meth c H locs cells slots Q (F0 m pc ls rest) "java/lang/ArrayIndexOutOfBoundsException" tx) : W p l e R s m args below meth c H locs cells slots Q (F0 m pc ls (.int i :: .ref a :: rest)) := by
  intro T hT X
  obtain ⟨t, st, q⟩ := k _ rfl T hT X
  refine ⟨t, ?_, q⟩
  have h1 := X.saloadOut hexec (by rw [hT]; exact hP q0 _ ha) ((hK.2 t0 _ ht).1 n (fun j => .int (f j))) (j := i) (by show (i < 0 ∨ (arrV _ _ _).slots.size ≤ _); rw [arrV_size]; exact Classical.byContradiction hout) (g := F0 m pc ls (.int i :: .ref a :: rest)) rfl (rest := rest) rfl (by rw [hb]; exact hdg) t
  simp only [arrV_size] at h1
  exact h1 st
theorem vx_sastZ {D : va_G} {cl : List vw_C} {ws : va_W} {tys : List (ClassId × FieldType)} {a : Nat} (hexec : p.tables.exec = Jvm.exec) (hb : c.code = cc) (hK : va_K D cl tys s) (hP : va_P D cl ws H) (q0 t0 : Nat) {cA : ClassId} {n : Nat} {f : Nat → Int32} (ha : ws[q0]? = some (a, .inl (cA, n, .inl f))) (ht : tys[t0]? = some (cA, .short)) {i : Int32} {x : Int32} (hout : ¬ vp_in i n) (hdg : decode cc pc = .ok (.sastore, 1))
    (k : ∀ tx : String, tx = (toString "Index " ++ toString i ++ toString " out of bounds for length " ++ toString n : String) → vx_Note p l e R s m args below meth c H locs cells slots Q (F0 m pc ls rest) "java/lang/ArrayIndexOutOfBoundsException" tx) : W p l e R s m args below meth c H locs cells slots Q (F0 m pc ls (.int x :: .int i :: .ref a :: rest)) := by
  intro T hT X
  obtain ⟨t, st, q⟩ := k _ rfl T hT X
  refine ⟨t, ?_, q⟩
  have h1 := X.sastoreOut hexec (by rw [hT]; exact hP q0 _ ha) ((hK.2 t0 _ ht).1 n (fun j => .int (f j))) (j := i) (by show (i < 0 ∨ (arrV _ _ _).slots.size ≤ _); rw [arrV_size]; exact Classical.byContradiction hout) (g := F0 m pc ls (.int x :: .int i :: .ref a :: rest)) rfl (rest := rest) rfl (by rw [hb]; exact hdg) t
  simp only [arrV_size] at h1
  exact h1 st
theorem vx_laldZ {D : va_G} {cl : List vw_C} {ws : va_W} {tys : List (ClassId × FieldType)} {a : Nat} (hexec : p.tables.exec = Jvm.exec) (hb : c.code = cc) (hK : va_K D cl tys s) (hP : va_P D cl ws H) (q0 t0 : Nat) {cA : ClassId} {n : Nat} {f : Nat → Int64} (ha : ws[q0]? = some (a, .inl (cA, n, .inr (.inl f)))) (ht : tys[t0]? = some (cA, .long)) {i : Int32} (hout : ¬ vp_in i n) (hdg : decode cc pc = .ok (.laload, 1))
    (k : ∀ tx : String, tx = (toString "Index " ++ toString i ++ toString " out of bounds for length " ++ toString n : String) → vx_Note p l e R s m args below meth c H locs cells slots Q (F0 m pc ls rest) "java/lang/ArrayIndexOutOfBoundsException" tx) : W p l e R s m args below meth c H locs cells slots Q (F0 m pc ls (.int i :: .ref a :: rest)) := by
  intro T hT X
  obtain ⟨t, st, q⟩ := k _ rfl T hT X
  refine ⟨t, ?_, q⟩
  have h1 := X.laloadOut hexec (by rw [hT]; exact hP q0 _ ha) ((hK.2 t0 _ ht).1 n (fun j => .long (f j))) (j := i) (by show (i < 0 ∨ (arrV _ _ _).slots.size ≤ _); rw [arrV_size]; exact Classical.byContradiction hout) (g := F0 m pc ls (.int i :: .ref a :: rest)) rfl (rest := rest) rfl (by rw [hb]; exact hdg) t
  simp only [arrV_size] at h1
  exact h1 st
theorem vx_lastZ {D : va_G} {cl : List vw_C} {ws : va_W} {tys : List (ClassId × FieldType)} {a : Nat} (hexec : p.tables.exec = Jvm.exec) (hb : c.code = cc) (hK : va_K D cl tys s) (hP : va_P D cl ws H) (q0 t0 : Nat) {cA : ClassId} {n : Nat} {f : Nat → Int64} (ha : ws[q0]? = some (a, .inl (cA, n, .inr (.inl f)))) (ht : tys[t0]? = some (cA, .long)) {i : Int32} {x : Int64} (hout : ¬ vp_in i n) (hdg : decode cc pc = .ok (.lastore, 1))
    (k : ∀ tx : String, tx = (toString "Index " ++ toString i ++ toString " out of bounds for length " ++ toString n : String) → vx_Note p l e R s m args below meth c H locs cells slots Q (F0 m pc ls rest) "java/lang/ArrayIndexOutOfBoundsException" tx) : W p l e R s m args below meth c H locs cells slots Q (F0 m pc ls (.long x :: .int i :: .ref a :: rest)) := by
  intro T hT X
  obtain ⟨t, st, q⟩ := k _ rfl T hT X
  refine ⟨t, ?_, q⟩
  have h1 := X.lastoreOut hexec (by rw [hT]; exact hP q0 _ ha) ((hK.2 t0 _ ht).1 n (fun j => .long (f j))) (j := i) (by show (i < 0 ∨ (arrV _ _ _).slots.size ≤ _); rw [arrV_size]; exact Classical.byContradiction hout) (g := F0 m pc ls (.long x :: .int i :: .ref a :: rest)) rfl (rest := rest) rfl (by rw [hb]; exact hdg) t
  simp only [arrV_size] at h1
  exact h1 st
theorem vx_faldZ {D : va_G} {cl : List vw_C} {ws : va_W} {tys : List (ClassId × FieldType)} {a : Nat} (hexec : p.tables.exec = Jvm.exec) (hb : c.code = cc) (hK : va_K D cl tys s) (hP : va_P D cl ws H) (q0 t0 : Nat) {cA : ClassId} {n : Nat} {f : Nat → UInt32} (ha : ws[q0]? = some (a, .inl (cA, n, .inr (.inr (.inl f))))) (ht : tys[t0]? = some (cA, .float)) {i : Int32} (hout : ¬ vp_in i n) (hdg : decode cc pc = .ok (.faload, 1))
    (k : ∀ tx : String, tx = (toString "Index " ++ toString i ++ toString " out of bounds for length " ++ toString n : String) → vx_Note p l e R s m args below meth c H locs cells slots Q (F0 m pc ls rest) "java/lang/ArrayIndexOutOfBoundsException" tx) : W p l e R s m args below meth c H locs cells slots Q (F0 m pc ls (.int i :: .ref a :: rest)) := by
  intro T hT X
  obtain ⟨t, st, q⟩ := k _ rfl T hT X
  refine ⟨t, ?_, q⟩
  have h1 := X.faloadOut hexec (by rw [hT]; exact hP q0 _ ha) ((hK.2 t0 _ ht).1 n (fun j => .float (f j))) (j := i) (by show (i < 0 ∨ (arrV _ _ _).slots.size ≤ _); rw [arrV_size]; exact Classical.byContradiction hout) (g := F0 m pc ls (.int i :: .ref a :: rest)) rfl (rest := rest) rfl (by rw [hb]; exact hdg) t
  simp only [arrV_size] at h1
  exact h1 st
theorem vx_fastZ {D : va_G} {cl : List vw_C} {ws : va_W} {tys : List (ClassId × FieldType)} {a : Nat} (hexec : p.tables.exec = Jvm.exec) (hb : c.code = cc) (hK : va_K D cl tys s) (hP : va_P D cl ws H) (q0 t0 : Nat) {cA : ClassId} {n : Nat} {f : Nat → UInt32} (ha : ws[q0]? = some (a, .inl (cA, n, .inr (.inr (.inl f))))) (ht : tys[t0]? = some (cA, .float)) {i : Int32} {x : UInt32} (hout : ¬ vp_in i n) (hdg : decode cc pc = .ok (.fastore, 1))
    (k : ∀ tx : String, tx = (toString "Index " ++ toString i ++ toString " out of bounds for length " ++ toString n : String) → vx_Note p l e R s m args below meth c H locs cells slots Q (F0 m pc ls rest) "java/lang/ArrayIndexOutOfBoundsException" tx) : W p l e R s m args below meth c H locs cells slots Q (F0 m pc ls (.float x :: .int i :: .ref a :: rest)) := by
  intro T hT X
  obtain ⟨t, st, q⟩ := k _ rfl T hT X
  refine ⟨t, ?_, q⟩
  have h1 := X.fastoreOut hexec (by rw [hT]; exact hP q0 _ ha) ((hK.2 t0 _ ht).1 n (fun j => .float (f j))) (j := i) (by show (i < 0 ∨ (arrV _ _ _).slots.size ≤ _); rw [arrV_size]; exact Classical.byContradiction hout) (g := F0 m pc ls (.float x :: .int i :: .ref a :: rest)) rfl (rest := rest) rfl (by rw [hb]; exact hdg) t
  simp only [arrV_size] at h1
  exact h1 st
theorem vx_daldZ {D : va_G} {cl : List vw_C} {ws : va_W} {tys : List (ClassId × FieldType)} {a : Nat} (hexec : p.tables.exec = Jvm.exec) (hb : c.code = cc) (hK : va_K D cl tys s) (hP : va_P D cl ws H) (q0 t0 : Nat) {cA : ClassId} {n : Nat} {f : Nat → UInt64} (ha : ws[q0]? = some (a, .inl (cA, n, .inr (.inr (.inr (.inl f)))))) (ht : tys[t0]? = some (cA, .double)) {i : Int32} (hout : ¬ vp_in i n) (hdg : decode cc pc = .ok (.daload, 1))
    (k : ∀ tx : String, tx = (toString "Index " ++ toString i ++ toString " out of bounds for length " ++ toString n : String) → vx_Note p l e R s m args below meth c H locs cells slots Q (F0 m pc ls rest) "java/lang/ArrayIndexOutOfBoundsException" tx) : W p l e R s m args below meth c H locs cells slots Q (F0 m pc ls (.int i :: .ref a :: rest)) := by
  intro T hT X
  obtain ⟨t, st, q⟩ := k _ rfl T hT X
  refine ⟨t, ?_, q⟩
  have h1 := X.daloadOut hexec (by rw [hT]; exact hP q0 _ ha) ((hK.2 t0 _ ht).1 n (fun j => .double (f j))) (j := i) (by show (i < 0 ∨ (arrV _ _ _).slots.size ≤ _); rw [arrV_size]; exact Classical.byContradiction hout) (g := F0 m pc ls (.int i :: .ref a :: rest)) rfl (rest := rest) rfl (by rw [hb]; exact hdg) t
  simp only [arrV_size] at h1
  exact h1 st
theorem vx_dastZ {D : va_G} {cl : List vw_C} {ws : va_W} {tys : List (ClassId × FieldType)} {a : Nat} (hexec : p.tables.exec = Jvm.exec) (hb : c.code = cc) (hK : va_K D cl tys s) (hP : va_P D cl ws H) (q0 t0 : Nat) {cA : ClassId} {n : Nat} {f : Nat → UInt64} (ha : ws[q0]? = some (a, .inl (cA, n, .inr (.inr (.inr (.inl f)))))) (ht : tys[t0]? = some (cA, .double)) {i : Int32} {x : UInt64} (hout : ¬ vp_in i n) (hdg : decode cc pc = .ok (.dastore, 1))
    (k : ∀ tx : String, tx = (toString "Index " ++ toString i ++ toString " out of bounds for length " ++ toString n : String) → vx_Note p l e R s m args below meth c H locs cells slots Q (F0 m pc ls rest) "java/lang/ArrayIndexOutOfBoundsException" tx) : W p l e R s m args below meth c H locs cells slots Q (F0 m pc ls (.double x :: .int i :: .ref a :: rest)) := by
  intro T hT X
  obtain ⟨t, st, q⟩ := k _ rfl T hT X
  refine ⟨t, ?_, q⟩
  have h1 := X.dastoreOut hexec (by rw [hT]; exact hP q0 _ ha) ((hK.2 t0 _ ht).1 n (fun j => .double (f j))) (j := i) (by show (i < 0 ∨ (arrV _ _ _).slots.size ≤ _); rw [arrV_size]; exact Classical.byContradiction hout) (g := F0 m pc ls (.double x :: .int i :: .ref a :: rest)) rfl (rest := rest) rfl (by rw [hb]; exact hdg) t
  simp only [arrV_size] at h1
  exact h1 st
theorem vx_arraylengthN (hexec : p.tables.exec = Jvm.exec) (hb : c.code = cc) (hdg : decode cc pc = .ok (.arraylength, 1)) (k : vx_NoteN p l e R s m args below meth c H locs cells slots Q (F0 m pc ls rest)) : W p l e R s m args below meth c H locs cells slots Q (F0 m pc ls (.null :: rest)) := by
  intro T hT X
  obtain ⟨t, st, q⟩ := k T hT X
  exact ⟨t, X.arraylengthNull hexec (g := F0 m pc ls (.null :: rest)) rfl (rest := rest) rfl (by rw [hb]; exact hdg) t st, q⟩
theorem vx_ialoadN (hexec : p.tables.exec = Jvm.exec) (hb : c.code = cc) {i : Int32} (hdg : decode cc pc = .ok (.iaload, 1)) (k : vx_NoteN p l e R s m args below meth c H locs cells slots Q (F0 m pc ls rest)) : W p l e R s m args below meth c H locs cells slots Q (F0 m pc ls (.int i :: .null :: rest)) := by
  intro T hT X
  obtain ⟨t, st, q⟩ := k T hT X
  exact ⟨t, X.ialoadNull hexec (g := F0 m pc ls (.int i :: .null :: rest)) rfl (rest := rest) rfl (by rw [hb]; exact hdg) t st, q⟩
theorem vx_laloadN (hexec : p.tables.exec = Jvm.exec) (hb : c.code = cc) {i : Int32} (hdg : decode cc pc = .ok (.laload, 1)) (k : vx_NoteN p l e R s m args below meth c H locs cells slots Q (F0 m pc ls rest)) : W p l e R s m args below meth c H locs cells slots Q (F0 m pc ls (.int i :: .null :: rest)) := by
  intro T hT X
  obtain ⟨t, st, q⟩ := k T hT X
  exact ⟨t, X.laloadNull hexec (g := F0 m pc ls (.int i :: .null :: rest)) rfl (rest := rest) rfl (by rw [hb]; exact hdg) t st, q⟩
theorem vx_faloadN (hexec : p.tables.exec = Jvm.exec) (hb : c.code = cc) {i : Int32} (hdg : decode cc pc = .ok (.faload, 1)) (k : vx_NoteN p l e R s m args below meth c H locs cells slots Q (F0 m pc ls rest)) : W p l e R s m args below meth c H locs cells slots Q (F0 m pc ls (.int i :: .null :: rest)) := by
  intro T hT X
  obtain ⟨t, st, q⟩ := k T hT X
  exact ⟨t, X.faloadNull hexec (g := F0 m pc ls (.int i :: .null :: rest)) rfl (rest := rest) rfl (by rw [hb]; exact hdg) t st, q⟩
theorem vx_daloadN (hexec : p.tables.exec = Jvm.exec) (hb : c.code = cc) {i : Int32} (hdg : decode cc pc = .ok (.daload, 1)) (k : vx_NoteN p l e R s m args below meth c H locs cells slots Q (F0 m pc ls rest)) : W p l e R s m args below meth c H locs cells slots Q (F0 m pc ls (.int i :: .null :: rest)) := by
  intro T hT X
  obtain ⟨t, st, q⟩ := k T hT X
  exact ⟨t, X.daloadNull hexec (g := F0 m pc ls (.int i :: .null :: rest)) rfl (rest := rest) rfl (by rw [hb]; exact hdg) t st, q⟩
theorem vx_aaloadN (hexec : p.tables.exec = Jvm.exec) (hb : c.code = cc) {i : Int32} (hdg : decode cc pc = .ok (.aaload, 1)) (k : vx_NoteN p l e R s m args below meth c H locs cells slots Q (F0 m pc ls rest)) : W p l e R s m args below meth c H locs cells slots Q (F0 m pc ls (.int i :: .null :: rest)) := by
  intro T hT X
  obtain ⟨t, st, q⟩ := k T hT X
  exact ⟨t, X.aaloadNull hexec (g := F0 m pc ls (.int i :: .null :: rest)) rfl (rest := rest) rfl (by rw [hb]; exact hdg) t st, q⟩
theorem vx_baloadN (hexec : p.tables.exec = Jvm.exec) (hb : c.code = cc) {i : Int32} (hdg : decode cc pc = .ok (.baload, 1)) (k : vx_NoteN p l e R s m args below meth c H locs cells slots Q (F0 m pc ls rest)) : W p l e R s m args below meth c H locs cells slots Q (F0 m pc ls (.int i :: .null :: rest)) := by
  intro T hT X
  obtain ⟨t, st, q⟩ := k T hT X
  exact ⟨t, X.baloadNull hexec (g := F0 m pc ls (.int i :: .null :: rest)) rfl (rest := rest) rfl (by rw [hb]; exact hdg) t st, q⟩
theorem vx_caloadN (hexec : p.tables.exec = Jvm.exec) (hb : c.code = cc) {i : Int32} (hdg : decode cc pc = .ok (.caload, 1)) (k : vx_NoteN p l e R s m args below meth c H locs cells slots Q (F0 m pc ls rest)) : W p l e R s m args below meth c H locs cells slots Q (F0 m pc ls (.int i :: .null :: rest)) := by
  intro T hT X
  obtain ⟨t, st, q⟩ := k T hT X
  exact ⟨t, X.caloadNull hexec (g := F0 m pc ls (.int i :: .null :: rest)) rfl (rest := rest) rfl (by rw [hb]; exact hdg) t st, q⟩
theorem vx_saloadN (hexec : p.tables.exec = Jvm.exec) (hb : c.code = cc) {i : Int32} (hdg : decode cc pc = .ok (.saload, 1)) (k : vx_NoteN p l e R s m args below meth c H locs cells slots Q (F0 m pc ls rest)) : W p l e R s m args below meth c H locs cells slots Q (F0 m pc ls (.int i :: .null :: rest)) := by
  intro T hT X
  obtain ⟨t, st, q⟩ := k T hT X
  exact ⟨t, X.saloadNull hexec (g := F0 m pc ls (.int i :: .null :: rest)) rfl (rest := rest) rfl (by rw [hb]; exact hdg) t st, q⟩
theorem vx_iastoreN (hexec : p.tables.exec = Jvm.exec) (hb : c.code = cc) {x : Int32} {i : Int32} (hdg : decode cc pc = .ok (.iastore, 1)) (k : vx_NoteN p l e R s m args below meth c H locs cells slots Q (F0 m pc ls rest)) : W p l e R s m args below meth c H locs cells slots Q (F0 m pc ls (.int x :: .int i :: .null :: rest)) := by
  intro T hT X
  obtain ⟨t, st, q⟩ := k T hT X
  exact ⟨t, X.iastoreNull hexec (g := F0 m pc ls (.int x :: .int i :: .null :: rest)) rfl (rest := rest) rfl (by rw [hb]; exact hdg) t st, q⟩
theorem vx_lastoreN (hexec : p.tables.exec = Jvm.exec) (hb : c.code = cc) {x : Int64} {i : Int32} (hdg : decode cc pc = .ok (.lastore, 1)) (k : vx_NoteN p l e R s m args below meth c H locs cells slots Q (F0 m pc ls rest)) : W p l e R s m args below meth c H locs cells slots Q (F0 m pc ls (.long x :: .int i :: .null :: rest)) := by
  intro T hT X
  obtain ⟨t, st, q⟩ := k T hT X
  exact ⟨t, X.lastoreNull hexec (g := F0 m pc ls (.long x :: .int i :: .null :: rest)) rfl (rest := rest) rfl (by rw [hb]; exact hdg) t st, q⟩
theorem vx_fastoreN (hexec : p.tables.exec = Jvm.exec) (hb : c.code = cc) {x : UInt32} {i : Int32} (hdg : decode cc pc = .ok (.fastore, 1)) (k : vx_NoteN p l e R s m args below meth c H locs cells slots Q (F0 m pc ls rest)) : W p l e R s m args below meth c H locs cells slots Q (F0 m pc ls (.float x :: .int i :: .null :: rest)) := by
  intro T hT X
  obtain ⟨t, st, q⟩ := k T hT X
  exact ⟨t, X.fastoreNull hexec (g := F0 m pc ls (.float x :: .int i :: .null :: rest)) rfl (rest := rest) rfl (by rw [hb]; exact hdg) t st, q⟩
theorem vx_dastoreN (hexec : p.tables.exec = Jvm.exec) (hb : c.code = cc) {x : UInt64} {i : Int32} (hdg : decode cc pc = .ok (.dastore, 1)) (k : vx_NoteN p l e R s m args below meth c H locs cells slots Q (F0 m pc ls rest)) : W p l e R s m args below meth c H locs cells slots Q (F0 m pc ls (.double x :: .int i :: .null :: rest)) := by
  intro T hT X
  obtain ⟨t, st, q⟩ := k T hT X
  exact ⟨t, X.dastoreNull hexec (g := F0 m pc ls (.double x :: .int i :: .null :: rest)) rfl (rest := rest) rfl (by rw [hb]; exact hdg) t st, q⟩
theorem vx_bastoreN (hexec : p.tables.exec = Jvm.exec) (hb : c.code = cc) {x : Int32} {i : Int32} (hdg : decode cc pc = .ok (.bastore, 1)) (k : vx_NoteN p l e R s m args below meth c H locs cells slots Q (F0 m pc ls rest)) : W p l e R s m args below meth c H locs cells slots Q (F0 m pc ls (.int x :: .int i :: .null :: rest)) := by
  intro T hT X
  obtain ⟨t, st, q⟩ := k T hT X
  exact ⟨t, X.bastoreNull hexec (g := F0 m pc ls (.int x :: .int i :: .null :: rest)) rfl (rest := rest) rfl (by rw [hb]; exact hdg) t st, q⟩
theorem vx_castoreN (hexec : p.tables.exec = Jvm.exec) (hb : c.code = cc) {x : Int32} {i : Int32} (hdg : decode cc pc = .ok (.castore, 1)) (k : vx_NoteN p l e R s m args below meth c H locs cells slots Q (F0 m pc ls rest)) : W p l e R s m args below meth c H locs cells slots Q (F0 m pc ls (.int x :: .int i :: .null :: rest)) := by
  intro T hT X
  obtain ⟨t, st, q⟩ := k T hT X
  exact ⟨t, X.castoreNull hexec (g := F0 m pc ls (.int x :: .int i :: .null :: rest)) rfl (rest := rest) rfl (by rw [hb]; exact hdg) t st, q⟩
theorem vx_sastoreN (hexec : p.tables.exec = Jvm.exec) (hb : c.code = cc) {x : Int32} {i : Int32} (hdg : decode cc pc = .ok (.sastore, 1)) (k : vx_NoteN p l e R s m args below meth c H locs cells slots Q (F0 m pc ls rest)) : W p l e R s m args below meth c H locs cells slots Q (F0 m pc ls (.int x :: .int i :: .null :: rest)) := by
  intro T hT X
  obtain ⟨t, st, q⟩ := k T hT X
  exact ⟨t, X.sastoreNull hexec (g := F0 m pc ls (.int x :: .int i :: .null :: rest)) rfl (rest := rest) rfl (by rw [hb]; exact hdg) t st, q⟩
theorem vx_invokeN {own C : String} {index maxL : Nat} {y : MethodName} {bytes : ByteArray} {ret : Option FieldType} (hexec : p.tables.exec = Jvm.exec) (hb : c.code = cc) (hown : s.vm.findClass own = some m.cls) (hlink : (Cond.methodLink own index y).before args s = true) (hinst : (Cond.instanceMethod y).before args s = true) (hcode : (Cond.code y bytes maxL ret).before args s = true) (hsel : (Cond.selects C y y).before args s = true)
    (hx : y.cls ≠ "java/lang/invoke/MethodHandle" ∧ y.cls ≠ "java/lang/invoke/VarHandle") {As : List Value} (hlen : (parseMethodDescriptor y.desc).map (fun d => d.parameters.length) = some As.length) (hdg : decode cc pc = .ok (.invokevirtual index, 3))
    (k : vx_NoteN p l e R s m args below meth c H locs cells slots Q (F0 m pc ls rest)) {st0 : List Value} (hst : st0 = As.reverse ++ .null :: rest) : W p l e R s m args below meth c H locs cells slots Q (F0 m pc ls st0) := by
  intro T hT X
  obtain ⟨r0, r, hn, hrm, hstR, hsigR⟩ := va_Decl.of hinst hcode
  obtain ⟨c2, r2, m2, q1, q2, q3, q4, kP, hkP, hkPi⟩ := Cond.selects_spec hsel
  cases hn.symm.trans q3
  have hl9 : As.length = r.sig.parameters.length := by
    rw [hsigR] at hlen
    exact (Option.some.inj hlen).symm
  obtain ⟨vm', X1, st1⟩ := X.invokevirtualNull hexec hown hlink hn hrm hstR hkP hkPi hx (g := F0 m pc ls st0) rfl (argsL := As) (rest := rest) hl9 hst (by rw [hb]; exact hdg)
  obtain ⟨t, st, q⟩ := k (T.setVm vm') hT X1
  exact ⟨t, st1 t st, q⟩
theorem vx_newarrayZ {atype : ArrayType} (hexec : p.tables.exec = Jvm.exec) (hb : c.code = cc) {n : Int32} (h0 : n < 0) (hdg : decode cc pc = .ok (.newarray atype, 2)) (k : ∀ tx : String, tx = toString n → vx_Note p l e R s m args below meth c H locs cells slots Q (F0 m pc ls rest) "java/lang/NegativeArraySizeException" tx) : W p l e R s m args below meth c H locs cells slots Q (F0 m pc ls (.int n :: rest)) := by
  intro T hT X
  obtain ⟨t, st, q⟩ := k _ rfl T hT X
  exact ⟨t, X.newarrayNegative hexec (g := F0 m pc ls (.int n :: rest)) rfl h0 (rest := rest) rfl (by rw [hb]; exact hdg) t st, q⟩
end
end VXM
/-! ===== END ===== -/
end
section
/-! ===== BEGIN a constructor that throws (launches without stack traces) ===== -/
section VXIA
variable {p : Program} {l : Launch} {e : Env} {R : Room} {s : State} {m : MethodId} {args : Array Value} {below : List Frame} {meth : Method} {c : Code} {T : State} {locs : List Loc} {cells slots : Nat}
theorem vx_callI (X : Stand p l e R s m args below meth c T locs cells slots) (hexec : p.tables.exec = Jvm.exec) {own : String} {index : Nat} {y : MethodName} {bytes : ByteArray} {maxL : Nat}
    (hown : s.vm.findClass own = some m.cls) (hy1 : y.name = "<init>") (hlink : (Cond.methodLink own index y).before args s = true) (hinst : (Cond.instanceMethod y).before args s = true)
    (hcode : (Cond.code y bytes maxL none).before args s = true) (hy : y.cls ≠ "java/lang/invoke/MethodHandle" ∧ y.cls ≠ "java/lang/invoke/VarHandle")
    {W9 : Nat} {Pre : Pt → Array Value → Prop} {Post : Pt → Array Value → Option Value → Pt → Prop} {PostX : Pt → Array Value → Addr → Pt → Prop} (hK : vx_Back l R p e below s args y 3 W9 Pre Post PostX)
    {g : JFrame} (hg : g.method = m) (hsize : g.locals.size = c.maxLocals) {a : Addr} {argsL rest : List Value} (hlen : ∀ sig, parseMethodDescriptor y.desc = some sig → argsL.length = sig.parameters.length)
    (hstack : g.stack = argsL.reverse ++ .ref a :: rest) (hW : 2 * g.monitorRoom + (rest.map fun v => v.category).sum ≤ W9) (hdg : decode c.code g.pc = .ok (.invokespecial index, 3))
    (hpre : ∀ vm₁, s.WarmedH vm₁ → Pre ⟨T.setVm vm₁, locs, cells, slots⟩ (Value.ref a :: argsL).toArray) :
    (∃ (v : Option Value) (vm₁ : Vm) (B : Pt), s.WarmedH vm₁ ∧ Stand p l e R s m args below meth c B.U B.locs B.cells B.slots ∧ Post ⟨T.setVm vm₁, locs, cells, slots⟩ (Value.ref a :: argsL).toArray v B ∧
      ∀ target, Steps p.tables e below (B.U.setTop { g with pc := g.pc + 3, stack := v.toList ++ rest }) target → Steps p.tables e below (T.setTop g) target) ∨
    (∃ (q : Addr) (vm₁ : Vm) (B : Pt), s.WarmedH vm₁ ∧ Stand p l e R s m args below meth c B.U B.locs B.cells B.slots ∧ PostX ⟨T.setVm vm₁, locs, cells, slots⟩ (Value.ref a :: argsL).toArray q B ∧
      Steps p.tables e below (T.setTop g) ((B.U.setTop { g with stack := rest }).pushFrame (.throwing q))) := by
  subst hg
  have hpl : e.platform.magicAccessors = ({} : Platform).magicAccessors := by rw [X.admits.platform]
  obtain ⟨mk, methM, cM, kP, vm₁, hnamed, hmethM, hcodeM, -, hlocalsM, -, hkP, -, hW₁, hstep₁⟩ := Steps.initColdArgs (e := e) X.here hexec X.warmed hpl hown hy1 hy hlink hinst hcode (f := g) rfl hlen hstack hdg
  have X₁ := X.noted hW₁
  rcases hK g.method meth c ⟨T.setVm vm₁, locs, cells, slots⟩ { g with stack := rest } (.invokespecial index) mk (Value.ref a :: argsL).toArray X₁ rfl hsize hdg hW (X₁.named hnamed) (hpre vm₁ X₁.warmed) with ⟨v, B, X', hpost, hsteps⟩ | ⟨q, B, X', hpost, hsteps⟩
  · exact Or.inl ⟨v, vm₁, B, X₁.warmed, X', hpost, fun target h => hstep₁ _ fun acts => by rw [doInvoke_state]; exact hsteps.trans h⟩
  · exact Or.inr ⟨q, vm₁, B, X₁.warmed, X', hpost, hstep₁ _ fun acts => by rw [doInvoke_state]; exact hsteps⟩
end VXIA
section VXIB
variable {p : Program} {l : Launch} {e : Env} {R : Room} {s : State} {m : MethodId} {args : Array Value} {below : List Frame} {meth : Method} {c : Code} {H : Heap} {locs : List Loc} {cells slots : Nat}
variable {y : MethodName} {bytes cc : ByteArray} {maxL nL mc ms n index : Nat} {ret : Option FieldType} {ws : List Cond} {rm : Room} {Pc : Array Value → State → Prop} {Qc : Array Value → State → Outcome → State → Prop} {XC : String → State → State → Prop} {free : Addr → Prop} {Ts : List Cond} {own C : String} {b : Addr} {As rest : List Value} {g : JFrame}
theorem vx_runI (S : CallFix p m c cc nL s args Ts own) (hM : vx_Met l y ws rm Pc Qc XC mc ms free) (cw : CallB R s args own index y bytes maxL none ws rm mc ms n ∧ y.name = "<init>" ∧ (Cond.instanceMethod y).before args s = true) (hp : PreS s H Pc (.ref b :: As))
    (hg : g.method = m) (hn : As.length = n) (hsize : g.locals.size = nL) (hstack : g.stack = As.reverse ++ .ref b :: rest) (hW : 2 * g.monitorRoom + (rest.map fun v => v.category).sum ≤ 8) (hdg : decode cc g.pc = .ok (.invokespecial index, 3)) (hf : cells + mc ≤ R.cells ∧ slots + ms ≤ R.slots) :
    vx_Run p l e R s m args below meth c H locs cells slots mc ms g rest (Qc (Value.ref b :: As).toArray) XC free := by
  have hK : vx_Back l R p e below s args y 3 8 (PreOf R mc ms Pc) (PostOf Qc mc ms free) (vx_Post XC mc ms free) := vx_callBack cw.1 hM hp.1
  obtain ⟨⟨-, -, -, -, -, -, hcode, -, hy, hlen, hl⟩, hy1, hin⟩ := cw
  obtain ⟨hx, hb, hml, ho, -⟩ := S
  have hPc := hp.2
  intro T hT X
  rcases vx_callI X hx (bytes := bytes) (maxL := maxL) ho hy1 hl hin hcode hy hK hg (hsize.trans hml.symm) (a := b) (argsL := As) (rest := rest) (fun sig h => hn.trans (hlen sig h)) hstack hW (by rw [hb]; exact hdg)
    (fun vm₁ hW₁ => ⟨hf.1, hf.2, hPc (T.setVm vm₁) hT hW₁⟩) with ⟨v, vm₁, ⟨U', l2, c2, s2⟩, hW₁, X', ⟨g', mk, t, L, e1, e2, hq, h1, hL, h2, h3⟩, st⟩ | ⟨q, vm₁, ⟨U', l2, c2, s2⟩, hW₁, X', ⟨g', mk, t, L, E, ce, e1, e2, hq, hce, hcv, hcl, h1, hL, h2, h3⟩, st⟩
  · dsimp only [Pt.U, Pt.locs, Pt.cells, Pt.slots] at X' e1 e2 h1 h2 h3 st
    subst h1; subst h2; subst h3
    exact Or.inl ⟨v, (T.setVm vm₁).calling g' mk (Value.ref b :: As).toArray, t, U', L, hT, X', hL, e1, e2, hq, st⟩
  · dsimp only [Pt.U, Pt.locs, Pt.cells, Pt.slots] at X' e1 e2 h1 h2 h3 st hcl
    subst h1; subst h2; subst h3
    exact Or.inr ⟨q, (T.setVm vm₁).calling g' mk (Value.ref b :: As).toArray, t, U', L, E, ce, hT, X', hL, e1, e2, hq, hce, hcv, vx_cls hW₁ hcl, st⟩
end VXIB
/-! ===== END ===== -/
/-! ===== BEGIN a private constructor of a nest mate that throws ===== -/
section VXIC
variable {p : Program} {l : Launch} {e : Env} {R : Room} {s : State} {m : MethodId} {args : Array Value} {below : List Frame} {meth : Method} {c : Code} {T : State} {locs : List Loc} {cells slots : Nat}
theorem vx_callIN (X : Stand p l e R s m args below meth c T locs cells slots) (hexec : p.tables.exec = Jvm.exec) {own : String} {index : Nat} {host : String} {y : MethodName} {bytes : ByteArray} {maxL : Nat}
    (hown : s.vm.findClass own = some m.cls) (hy1 : y.name = "<init>") (hlink : (Cond.methodLinkNest own index y host).before args s = true) (hinst : (Cond.instanceMethod y).before args s = true)
    (hcode : (Cond.code y bytes maxL none).before args s = true) (hy : y.cls ≠ "java/lang/invoke/MethodHandle" ∧ y.cls ≠ "java/lang/invoke/VarHandle")
    {W9 : Nat} {Pre : Pt → Array Value → Prop} {Post : Pt → Array Value → Option Value → Pt → Prop} {PostX : Pt → Array Value → Addr → Pt → Prop} (hK : vx_Back l R p e below s args y 3 W9 Pre Post PostX)
    {g : JFrame} (hg : g.method = m) (hsize : g.locals.size = c.maxLocals) {a : Addr} {argsL rest : List Value} (hlen : ∀ sig, parseMethodDescriptor y.desc = some sig → argsL.length = sig.parameters.length)
    (hstack : g.stack = argsL.reverse ++ .ref a :: rest) (hW : 2 * g.monitorRoom + (rest.map fun v => v.category).sum ≤ W9) (hdg : decode c.code g.pc = .ok (.invokespecial index, 3))
    (hpre : ∀ vm₁, s.WarmedH vm₁ → Pre ⟨T.setVm vm₁, locs, cells, slots⟩ (Value.ref a :: argsL).toArray) :
    (∃ (v : Option Value) (vm₁ : Vm) (B : Pt), s.WarmedH vm₁ ∧ Stand p l e R s m args below meth c B.U B.locs B.cells B.slots ∧ Post ⟨T.setVm vm₁, locs, cells, slots⟩ (Value.ref a :: argsL).toArray v B ∧
      ∀ target, Steps p.tables e below (B.U.setTop { g with pc := g.pc + 3, stack := v.toList ++ rest }) target → Steps p.tables e below (T.setTop g) target) ∨
    (∃ (q : Addr) (vm₁ : Vm) (B : Pt), s.WarmedH vm₁ ∧ Stand p l e R s m args below meth c B.U B.locs B.cells B.slots ∧ PostX ⟨T.setVm vm₁, locs, cells, slots⟩ (Value.ref a :: argsL).toArray q B ∧
      Steps p.tables e below (T.setTop g) ((B.U.setTop { g with stack := rest }).pushFrame (.throwing q))) := by
  subst hg
  have hpl : e.platform.magicAccessors = ({} : Platform).magicAccessors := by rw [X.admits.platform]
  obtain ⟨mk, methM, cM, kP, vm₁, hnamed, hmethM, hcodeM, -, hlocalsM, -, hkP, -, hW₁, hstep₁⟩ := Steps.initColdArgsNest (e := e) X.here hexec X.warmed hpl hown hy1 hy hlink hinst hcode (f := g) rfl hlen hstack hdg
  have X₁ := X.noted hW₁
  rcases hK g.method meth c ⟨T.setVm vm₁, locs, cells, slots⟩ { g with stack := rest } (.invokespecial index) mk (Value.ref a :: argsL).toArray X₁ rfl hsize hdg hW (X₁.named hnamed) (hpre vm₁ X₁.warmed) with ⟨v, B, X', hpost, hsteps⟩ | ⟨q, B, X', hpost, hsteps⟩
  · exact Or.inl ⟨v, vm₁, B, X₁.warmed, X', hpost, fun target h => hstep₁ _ fun acts => by rw [doInvoke_state]; exact hsteps.trans h⟩
  · exact Or.inr ⟨q, vm₁, B, X₁.warmed, X', hpost, hstep₁ _ fun acts => by rw [doInvoke_state]; exact hsteps⟩
end VXIC
section VXID
variable {p : Program} {l : Launch} {e : Env} {R : Room} {s : State} {m : MethodId} {args : Array Value} {below : List Frame} {meth : Method} {c : Code} {H : Heap} {locs : List Loc} {cells slots : Nat}
theorem vx_runIN {y : MethodName} {bytes cc : ByteArray} {maxL nL mc ms n index : Nat} {ws : List Cond} {rm : Room} {Pc : Array Value → State → Prop} {Qc : Array Value → State → Outcome → State → Prop} {XC : String → State → State → Prop} {free : Addr → Prop} {Ts : List Cond} {own host : String} {b : Addr} {As rest : List Value} {g : JFrame}
    (S : CallFix p m c cc nL s args Ts own) (hM : vx_Met l y ws rm Pc Qc XC mc ms free) (cw : va_CN R s args own index y host bytes maxL none ws rm mc ms n ∧ y.name = "<init>" ∧ (Cond.instanceMethod y).before args s = true) (hp : PreS s H Pc (.ref b :: As))
    (hg : g.method = m) (hn : As.length = n) (hsize : g.locals.size = nL) (hstack : g.stack = As.reverse ++ .ref b :: rest) (hW : 2 * g.monitorRoom + (rest.map fun v => v.category).sum ≤ 8) (hdg : decode cc g.pc = .ok (.invokespecial index, 3)) (hf : cells + mc ≤ R.cells ∧ slots + ms ≤ R.slots) :
    vx_Run p l e R s m args below meth c H locs cells slots mc ms g rest (Qc (Value.ref b :: As).toArray) XC free := by
  obtain ⟨⟨⟨hrc, hrs, hfr, hlo, hws, hcw⟩, hcode, hini, hy, hlen, hl⟩, hx1, hx2⟩ := cw
  have hK : vx_Back l R p e below s args y 3 8 (PreOf R mc ms Pc) (PostOf Qc mc ms free) (vx_Post XC mc ms free) := vx_back (bytes := bytes) (maxL := maxL) (ret := none) hM hp.1 hrc hrs hfr hlo hws hcw (fun a' U hW => word_at hW (Or.inl (by first | rfl | simp [Cond.onTables, Cond.keeps, Cond.steady])) hini)
  obtain ⟨hx, hb, hml, ho, -⟩ := S
  have hPc := hp.2
  intro T hT X
  rcases vx_callIN X hx (bytes := bytes) (maxL := maxL) ho hx1 hl hx2 hcode hy hK hg (hsize.trans hml.symm) (a := b) (argsL := As) (rest := rest) (fun sig h => hn.trans (hlen sig h)) hstack hW (by rw [hb]; exact hdg)
    (fun vm₁ hW₁ => ⟨hf.1, hf.2, hPc (T.setVm vm₁) hT hW₁⟩) with ⟨v, vm₁, ⟨U', l2, c2, s2⟩, hW₁, X', ⟨g', mk, t, L, e1, e2, hq, h1, hL, h2, h3⟩, st⟩ | ⟨q, vm₁, ⟨U', l2, c2, s2⟩, hW₁, X', ⟨g', mk, t, L, E, ce, e1, e2, hq, hce, hcv, hcl, h1, hL, h2, h3⟩, st⟩
  · dsimp only [Pt.U, Pt.locs, Pt.cells, Pt.slots] at X' e1 e2 h1 h2 h3 st
    subst h1; subst h2; subst h3
    exact Or.inl ⟨v, (T.setVm vm₁).calling g' mk (Value.ref b :: As).toArray, t, U', L, hT, X', hL, e1, e2, hq, st⟩
  · dsimp only [Pt.U, Pt.locs, Pt.cells, Pt.slots] at X' e1 e2 h1 h2 h3 st hcl
    subst h1; subst h2; subst h3
    exact Or.inr ⟨q, (T.setVm vm₁).calling g' mk (Value.ref b :: As).toArray, t, U', L, E, ce, hT, X', hL, e1, e2, hq, hce, hcv, vx_cls hW₁ hcl, st⟩
end VXID
/-! ===== END ===== -/
/-! ===== BEGIN a method of a class above, found by the receiver, that may throw (follows va_callVU, va_runU of this kit) ===== -/
section
variable {p : Program} {l : Launch} {e : Env} {R : Room} {s : State} {m : MethodId} {args : Array Value} {below : List Frame} {meth : Method} {c : Code} {H : Heap} {locs : List Loc} {cells slots : Nat}
theorem vx_callVU {T : State} {locs : List Loc} {cells slots : Nat} (X : Stand p l e R s m args below meth c T locs cells slots) (hexec : p.tables.exec = Jvm.exec) {own C owner : String} {index : Nat} {x y : MethodName} {bytes : ByteArray} {maxL : Nat} {ret : Option FieldType}
    (hown : s.vm.findClass own = some m.cls) (hlink : (Cond.methodLink own index x).before args s = true) (hsame : (Cond.sameMethod x.cls owner x.name x.desc).before args s = true)
    (hd0 : va_Decl s ⟨owner, x.name, x.desc⟩) (howner : owner ≠ "java/lang/invoke/MethodHandle" ∧ owner ≠ "java/lang/invoke/VarHandle")
    (hsel : (Cond.selects C x y).before args s = true) (hinst : (Cond.instanceMethod y).before args s = true) (hcode : (Cond.code y bytes maxL ret).before args s = true)
    {W : Nat} {Pre : Pt → Array Value → Prop} {Post : Pt → Array Value → Option Value → Pt → Prop} {PostX : Pt → Array Value → Addr → Pt → Prop} (hK : vx_Back l R p e below s args y 3 W Pre Post PostX)
    {b : Addr} {cellB : Cell} (hcell : T.heap[b]? = some cellB) (hobj : cellB.vm.isStatics = false) (hcls : s.vm.findClass C = some cellB.cls)
    {g : JFrame} (hg : g.method = m) (hsize : g.locals.size = c.maxLocals) {argsL rest : List Value} (hlen : ∀ sig, parseMethodDescriptor x.desc = some sig → argsL.length = sig.parameters.length)
    (hstack : g.stack = argsL.reverse ++ .ref b :: rest) (hW : 2 * g.monitorRoom + (rest.map fun v => v.category).sum ≤ W) (hdg : decode c.code g.pc = .ok (.invokevirtual index, 3))
    (hpre : ∀ vm₁, s.WarmedH vm₁ → Pre ⟨T.setVm vm₁, locs, cells, slots⟩ (Value.ref b :: argsL).toArray) :
    (∃ (v : Option Value) (vm₁ : Vm) (B : Pt), s.WarmedH vm₁ ∧ Stand p l e R s m args below meth c B.U B.locs B.cells B.slots ∧ Post ⟨T.setVm vm₁, locs, cells, slots⟩ (Value.ref b :: argsL).toArray v B ∧
      ∀ target, Steps p.tables e below (B.U.setTop { g with pc := g.pc + 3, stack := v.toList ++ rest }) target → Steps p.tables e below (T.setTop g) target) ∨
    (∃ (q : Addr) (vm₁ : Vm) (B : Pt), s.WarmedH vm₁ ∧ Stand p l e R s m args below meth c B.U B.locs B.cells B.slots ∧ PostX ⟨T.setVm vm₁, locs, cells, slots⟩ (Value.ref b :: argsL).toArray q B ∧
      Steps p.tables e below (T.setTop g) ((B.U.setTop { g with stack := rest }).pushFrame (.throwing q))) := by
  obtain ⟨r0, r, hn, hrm, hstR, hsigR⟩ := hd0
  obtain ⟨cn, ck, r1, hcn, hck, hni, hf, hn1⟩ := Cond.sameMethod_found hsame
  cases hn.symm.trans hn1
  obtain ⟨mk, methM, hnamed, hmethM, -, habM⟩ := Cond.instanceMethod_spec hinst
  obtain ⟨c2, r2, m2, q1, q2, q3, q4, kP, hkP, hkPi⟩ := Cond.selects_spec hsel
  cases hcls.symm.trans q1
  cases hf.symm.trans q2
  cases hnamed.symm.trans q3
  have hselP : selectMethod e.platform s.vm cellB.cls r0 = .method mk := by rw [Launch.admits_selectMethod X.admits]; exact q4
  obtain ⟨vm₁, X₁, hstep₁⟩ := X.invokevirtualUp hexec hown hlink hsame howner hn hrm hstR (a := b) (cell := cellB) hcell
    (fun z h => by rw [h] at hobj; cases hobj) hselP hmethM habM hkP hkPi (g := g) hg (argsL := argsL) (rest := rest) (hlen _ hsigR) hstack hdg
  rcases hK m meth c ⟨T.setVm vm₁, locs, cells, slots⟩ { g with stack := rest } (.invokevirtual index) mk (Value.ref b :: argsL).toArray X₁ hg hsize hdg hW (X₁.named hnamed) (hpre vm₁ X₁.warmed) with ⟨v, B, X', hpost, hsteps⟩ | ⟨q, B, X', hpost, hsteps⟩
  · exact Or.inl ⟨v, vm₁, B, X₁.warmed, X', hpost, fun target h => hstep₁ _ fun acts => by rw [doInvoke_state]; exact hsteps.trans h⟩
  · exact Or.inr ⟨q, vm₁, B, X₁.warmed, X', hpost, hstep₁ _ fun acts => by rw [doInvoke_state]; exact hsteps⟩
theorem vx_runU {x y : MethodName} {bytes cc : ByteArray} {maxL nL mc ms n index : Nat} {ret : Option FieldType} {ws : List Cond} {rm : Room} {Pc : Array Value → State → Prop} {Qc : Array Value → State → Outcome → State → Prop} {XC : String → State → State → Prop} {free : Addr → Prop} {Ts : List Cond} {own C owner : String} {b : Addr} {As rest : List Value} {g : JFrame}
    (S : CallFix p m c cc nL s args Ts own) (hM : vx_Met l y ws rm Pc Qc XC mc ms free) (cw : va_CU R s args own C owner index x y bytes maxL ret ws rm mc ms n) (hp : PreV s H C b Pc As)
    (hg : g.method = m) (hn : As.length = n) (hsize : g.locals.size = nL) (hstack : g.stack = As.reverse ++ .ref b :: rest) (hW : 2 * g.monitorRoom + (rest.map fun v => v.category).sum ≤ 8) (hdg : decode cc g.pc = .ok (.invokevirtual index, 3)) (hf : cells + mc ≤ R.cells ∧ slots + ms ≤ R.slots) :
    vx_Run p l e R s m args below meth c H locs cells slots mc ms g rest (Qc (Value.ref b :: As).toArray) XC free := by
  obtain ⟨hrc, hrs, hfr, hlo, hws, hcw⟩ := cw.back
  have hini := cw.init
  have hK : vx_Back l R p e below s args y 3 8 (PreOf R mc ms Pc) (PostOf Qc mc ms free) (vx_Post XC mc ms free) := vx_back (bytes := bytes) (maxL := maxL) (ret := ret) hM hp.1 hrc hrs hfr hlo hws hcw (fun a' U hW => word_at hW (Or.inl (by first | rfl | simp [Cond.onTables, Cond.keeps, Cond.steady])) hini)
  obtain ⟨hx, hb, hml, ho, -⟩ := S
  obtain ⟨-, ⟨cellB, hcB, hoB, hclB⟩, hPc⟩ := hp
  intro T hT X
  rcases vx_callVU X hx (C := C) (owner := owner) (bytes := bytes) (maxL := maxL) (ret := ret) ho cw.link cw.same cw.decl cw.notMH cw.sel cw.inst cw.code hK (by rw [hT]; exact hcB) hoB hclB hg (hsize.trans hml.symm) (argsL := As) (rest := rest) (fun sig h => hn.trans (cw.len sig h)) hstack hW (by rw [hb]; exact hdg)
    (fun vm₁ hW₁ => ⟨hf.1, hf.2, hPc (T.setVm vm₁) hT hW₁⟩) with ⟨v, vm₁, ⟨U', l2, c2, s2⟩, hW₁, X', ⟨g', mk, t, L, e1, e2, hq, h1, hL, h2, h3⟩, st⟩ | ⟨q, vm₁, ⟨U', l2, c2, s2⟩, hW₁, X', ⟨g', mk, t, L, E, ce, e1, e2, hq, hce, hcv, hcl, h1, hL, h2, h3⟩, st⟩
  · dsimp only [Pt.U, Pt.locs, Pt.cells, Pt.slots] at X' e1 e2 h1 h2 h3 st
    subst h1; subst h2; subst h3
    exact Or.inl ⟨v, (T.setVm vm₁).calling g' mk (Value.ref b :: As).toArray, t, U', L, hT, X', hL, e1, e2, hq, st⟩
  · dsimp only [Pt.U, Pt.locs, Pt.cells, Pt.slots] at X' e1 e2 h1 h2 h3 st hcl
    subst h1; subst h2; subst h3
    exact Or.inr ⟨q, (T.setVm vm₁).calling g' mk (Value.ref b :: As).toArray, t, U', L, E, ce, hT, X', hL, e1, e2, hq, hce, hcv, vx_cls hW₁ hcl, st⟩
end
/-! ===== END ===== -/
/-! ===== BEGIN super.m(..) that may throw (follows va_callSU, va_runSU) ===== -/
section
variable {p : Program} {l : Launch} {e : Env} {R : Room} {s : State} {m : MethodId} {args : Array Value} {below : List Frame} {meth : Method} {c : Code} {H : Heap} {locs : List Loc} {cells slots : Nat}
theorem vx_callSU {T : State} {locs : List Loc} {cells slots : Nat} (X : Stand p l e R s m args below meth c T locs cells slots) (hexec : p.tables.exec = Jvm.exec) {own : String} {index : Nat} {y : MethodName} {bytes : ByteArray} {maxL : Nat} {ret : Option FieldType}
    (hown : s.vm.findClass own = some m.cls) (hlink : (Cond.methodLink own index y).before args s = true) (hsame : (Cond.sameMethod y.cls y.cls y.name y.desc).before args s = true) (hsup : (Cond.superclass own y.cls).before args s = true)
    (hinst : (Cond.instanceMethod y).before args s = true) (hcode : (Cond.code y bytes maxL ret).before args s = true) (hno : y.name ≠ "<init>")
    {W : Nat} {Pre : Pt → Array Value → Prop} {Post : Pt → Array Value → Option Value → Pt → Prop} {PostX : Pt → Array Value → Addr → Pt → Prop} (hK : vx_Back l R p e below s args y 3 W Pre Post PostX)
    {b : Addr} {cellB : Cell} {kB : Class} (hcell : T.heap[b]? = some cellB) (hobj : cellB.vm.isStatics = false) (hkB : s.vm.classes[cellB.cls]? = some kB)
    {g : JFrame} (hg : g.method = m) (hsize : g.locals.size = c.maxLocals) {argsL rest : List Value} (hlen : ∀ sig, parseMethodDescriptor y.desc = some sig → argsL.length = sig.parameters.length)
    (hstack : g.stack = argsL.reverse ++ .ref b :: rest) (hW : 2 * g.monitorRoom + (rest.map fun v => v.category).sum ≤ W) (hdg : decode c.code g.pc = .ok (.invokespecial index, 3))
    (hpre : ∀ vm₁, s.WarmedH vm₁ → Pre ⟨T.setVm vm₁, locs, cells, slots⟩ (Value.ref b :: argsL).toArray) :
    (∃ (v : Option Value) (vm₁ : Vm) (B : Pt), s.WarmedH vm₁ ∧ Stand p l e R s m args below meth c B.U B.locs B.cells B.slots ∧ Post ⟨T.setVm vm₁, locs, cells, slots⟩ (Value.ref b :: argsL).toArray v B ∧
      ∀ target, Steps p.tables e below (B.U.setTop { g with pc := g.pc + 3, stack := v.toList ++ rest }) target → Steps p.tables e below (T.setTop g) target) ∨
    (∃ (q : Addr) (vm₁ : Vm) (B : Pt), s.WarmedH vm₁ ∧ Stand p l e R s m args below meth c B.U B.locs B.cells B.slots ∧ PostX ⟨T.setVm vm₁, locs, cells, slots⟩ (Value.ref b :: argsL).toArray q B ∧
      Steps p.tables e below (T.setTop g) ((B.U.setTop { g with stack := rest }).pushFrame (.throwing q))) := by
  obtain ⟨mk, methM, hnamed, hmethM, hstM, habM⟩ := Cond.instanceMethod_spec hinst
  obtain ⟨methM', cM, hmethM', -, -, -, -, -, -, hsigM⟩ := Cond.code_spec hnamed hcode
  cases hmethM.symm.trans hmethM'
  obtain ⟨ps, dk, kp, hps, hdk, hkp, hsuper, -, -, hnid⟩ := Cond.superclass_spec hown hsup
  have hn : s.methodNamed? ⟨y.cls, y.name, y.desc⟩ = some mk := hnamed
  have hpm : ps = mk.cls := Option.some.inj (hps.symm.trans (findClass_of_methodNamed hnamed))
  have hsub : s.vm.isSubclass ps mk.cls = true := by rw [hpm]; simp [Vm.isSubclass, Vm.isSubclassAux]
  obtain ⟨vm₁, X₁, hstep₁⟩ := X.invokespecialUp hexec hown hlink hsame hn hmethM hstM habM hno hdk hnid hps hsuper hsub (a := b) (cell := cellB) hcell
    (fun z h => by rw [h] at hobj; cases hobj) hkB (g := g) hg (argsL := argsL) (rest := rest) (hlen _ hsigM) hstack hdg
  rcases hK m meth c ⟨T.setVm vm₁, locs, cells, slots⟩ { g with stack := rest } (.invokespecial index) mk (Value.ref b :: argsL).toArray X₁ hg hsize hdg hW (X₁.named hnamed) (hpre vm₁ X₁.warmed) with ⟨v, B, X', hpost, hsteps⟩ | ⟨q, B, X', hpost, hsteps⟩
  · exact Or.inl ⟨v, vm₁, B, X₁.warmed, X', hpost, fun target h => hstep₁ _ (by rw [doInvoke_state]; exact hsteps.trans h)⟩
  · exact Or.inr ⟨q, vm₁, B, X₁.warmed, X', hpost, hstep₁ _ (by rw [doInvoke_state]; exact hsteps)⟩
theorem vx_runSU {y : MethodName} {bytes cc : ByteArray} {maxL nL mc ms n index : Nat} {ret : Option FieldType} {ws : List Cond} {rm : Room} {Pc : Array Value → State → Prop} {Qc : Array Value → State → Outcome → State → Prop} {XC : String → State → State → Prop} {free : Addr → Prop} {Ts : List Cond} {own C : String} {cC : ClassId} {b : Addr} {As rest : List Value} {g : JFrame}
    (hat : ClassAt s C cC) (S : CallFix p m c cc nL s args Ts own) (hM : vx_Met l y ws rm Pc Qc XC mc ms free) (cw : va_CS R s args own index y bytes maxL ret ws rm mc ms n) (hp : PreV s H C b Pc As)
    (hg : g.method = m) (hn : As.length = n) (hsize : g.locals.size = nL) (hstack : g.stack = As.reverse ++ .ref b :: rest) (hW : 2 * g.monitorRoom + (rest.map fun v => v.category).sum ≤ 8) (hdg : decode cc g.pc = .ok (.invokespecial index, 3)) (hf : cells + mc ≤ R.cells ∧ slots + ms ≤ R.slots) :
    vx_Run p l e R s m args below meth c H locs cells slots mc ms g rest (Qc (Value.ref b :: As).toArray) XC free := by
  obtain ⟨⟨hrc, hrs, hfr, hlo, hws, hcw⟩, hl1, hl2, hl3, hl4, hini, hcode, hno, hlen⟩ := cw
  have hK : vx_Back l R p e below s args y 3 8 (PreOf R mc ms Pc) (PostOf Qc mc ms free) (vx_Post XC mc ms free) := vx_back (bytes := bytes) (maxL := maxL) (ret := ret) hM hp.1 hrc hrs hfr hlo hws hcw (fun a' U hW => word_at hW (Or.inl (by first | rfl | simp [Cond.onTables, Cond.keeps, Cond.steady])) hini)
  obtain ⟨hx, hb, hml, ho, -⟩ := S
  obtain ⟨-, ⟨cellB, hcB, hoB, hclB⟩, hPc⟩ := hp
  obtain ⟨hfc, kB, hkB, -⟩ := hat
  cases hfc.symm.trans hclB
  intro T hT X
  rcases vx_callSU X hx (bytes := bytes) (maxL := maxL) (ret := ret) ho hl1 hl2 hl3 hl4 hcode hno hK (by rw [hT]; exact hcB) hoB hkB hg (hsize.trans hml.symm) (argsL := As) (rest := rest) (fun sig h => hn.trans (hlen sig h)) hstack hW (by rw [hb]; exact hdg)
    (fun vm₁ hW₁ => ⟨hf.1, hf.2, hPc (T.setVm vm₁) hT hW₁⟩) with ⟨v, vm₁, ⟨U', l2, c2, s2⟩, hW₁, X', ⟨g', mk, t, L, e1, e2, hq, h1, hL, h2, h3⟩, st⟩ | ⟨q, vm₁, ⟨U', l2, c2, s2⟩, hW₁, X', ⟨g', mk, t, L, E, ce, e1, e2, hq, hce, hcv, hcl, h1, hL, h2, h3⟩, st⟩
  · dsimp only [Pt.U, Pt.locs, Pt.cells, Pt.slots] at X' e1 e2 h1 h2 h3 st
    subst h1; subst h2; subst h3
    exact Or.inl ⟨v, (T.setVm vm₁).calling g' mk (Value.ref b :: As).toArray, t, U', L, hT, X', hL, e1, e2, hq, st⟩
  · dsimp only [Pt.U, Pt.locs, Pt.cells, Pt.slots] at X' e1 e2 h1 h2 h3 st hcl
    subst h1; subst h2; subst h3
    exact Or.inr ⟨q, (T.setVm vm₁).calling g' mk (Value.ref b :: As).toArray, t, U', L, E, ce, hT, X', hL, e1, e2, hq, hce, hcv, vx_cls hW₁ hcl, st⟩
end
/-! ===== END ===== -/
/-! ===== BEGIN a private method of a nest mate that may throw (follows va_callVN, va_callSN, va_runVN, va_runSN) ===== -/
section
variable {p : Program} {l : Launch} {e : Env} {R : Room} {s : State} {m : MethodId} {args : Array Value} {below : List Frame} {meth : Method} {c : Code} {H : Heap} {locs : List Loc} {cells slots : Nat}
variable {T : State}
theorem vx_callVN (X : Stand p l e R s m args below meth c T locs cells slots) (hexec : p.tables.exec = Jvm.exec) {own C : String} {index : Nat} {host : String} {y : MethodName} {bytes : ByteArray} {maxL : Nat} {ret : Option FieldType}
    (hown : s.vm.findClass own = some m.cls) (hlink : (Cond.methodLinkNest own index y host).before args s = true) (hinst : (Cond.instanceMethod y).before args s = true) (hsel : (Cond.selects C y y).before args s = true)
    (hcode : (Cond.code y bytes maxL ret).before args s = true) (hy : y.cls ≠ "java/lang/invoke/MethodHandle" ∧ y.cls ≠ "java/lang/invoke/VarHandle")
    {W : Nat} {Pre : Pt → Array Value → Prop} {Post : Pt → Array Value → Option Value → Pt → Prop} {PostX : Pt → Array Value → Addr → Pt → Prop} (hK : vx_Back l R p e below s args y 3 W Pre Post PostX)
    {b : Addr} {cellB : Cell} (hcell : T.heap[b]? = some cellB) (hobj : cellB.vm.isStatics = false) (hcls : s.vm.findClass C = some cellB.cls)
    {g : JFrame} (hg : g.method = m) (hsize : g.locals.size = c.maxLocals) {argsL rest : List Value} (hlen : ∀ sig, parseMethodDescriptor y.desc = some sig → argsL.length = sig.parameters.length)
    (hstack : g.stack = argsL.reverse ++ .ref b :: rest) (hW : 2 * g.monitorRoom + (rest.map fun v => v.category).sum ≤ W) (hdg : decode c.code g.pc = .ok (.invokevirtual index, 3))
    (hpre : ∀ vm₁, s.WarmedH vm₁ → Pre ⟨T.setVm vm₁, locs, cells, slots⟩ (Value.ref b :: argsL).toArray) :
    (∃ (v : Option Value) (vm₁ : Vm) (B : Pt), s.WarmedH vm₁ ∧ Stand p l e R s m args below meth c B.U B.locs B.cells B.slots ∧ Post ⟨T.setVm vm₁, locs, cells, slots⟩ (Value.ref b :: argsL).toArray v B ∧
      ∀ target, Steps p.tables e below (B.U.setTop { g with pc := g.pc + 3, stack := v.toList ++ rest }) target → Steps p.tables e below (T.setTop g) target) ∨
    (∃ (q : Addr) (vm₁ : Vm) (B : Pt), s.WarmedH vm₁ ∧ Stand p l e R s m args below meth c B.U B.locs B.cells B.slots ∧ PostX ⟨T.setVm vm₁, locs, cells, slots⟩ (Value.ref b :: argsL).toArray q B ∧
      Steps p.tables e below (T.setTop g) ((B.U.setTop { g with stack := rest }).pushFrame (.throwing q))) := by
  obtain ⟨mk, methM, hnamed, hmethM, hstM, habM⟩ := Cond.instanceMethod_spec hinst
  obtain ⟨methM', cM, hmethM', -, -, -, -, -, -, hsigM⟩ := Cond.code_spec hnamed hcode
  cases hmethM.symm.trans hmethM'
  obtain ⟨c2, r2, m2, q1, q2, q3, q4, kP, hkP, hkPi⟩ := Cond.selects_spec hsel
  cases hcls.symm.trans q1
  cases (State.methodFound?_of_named hnamed hy).symm.trans q2
  cases hnamed.symm.trans q3
  have hselP : selectMethod e.platform s.vm cellB.cls mk = .method mk := by rw [Launch.admits_selectMethod X.admits]; exact q4
  obtain ⟨vm₁, X₁, hstep₁⟩ := X.invokevirtualNest hexec hown hlink hnamed hmethM hstM hkP hkPi hy (a := b) (cell := cellB) hcell
    (fun z h => by rw [h] at hobj; cases hobj) hselP hmethM habM hkP hkPi (g := g) hg (argsL := argsL) (rest := rest) (hlen _ hsigM) hstack hdg
  rcases hK m meth c ⟨T.setVm vm₁, locs, cells, slots⟩ { g with stack := rest } (.invokevirtual index) mk (Value.ref b :: argsL).toArray X₁ hg hsize hdg hW (X₁.named hnamed) (hpre vm₁ X₁.warmed) with ⟨v, B, X', hpost, hsteps⟩ | ⟨q, B, X', hpost, hsteps⟩
  · exact Or.inl ⟨v, vm₁, B, X₁.warmed, X', hpost, fun target h => hstep₁ _ fun acts => by rw [doInvoke_state]; exact hsteps.trans h⟩
  · exact Or.inr ⟨q, vm₁, B, X₁.warmed, X', hpost, hstep₁ _ fun acts => by rw [doInvoke_state]; exact hsteps⟩
theorem vx_callSN (X : Stand p l e R s m args below meth c T locs cells slots) (hexec : p.tables.exec = Jvm.exec) {own : String} {index : Nat} {host : String} {y : MethodName} {bytes : ByteArray} {maxL : Nat} {ret : Option FieldType}
    (hown : s.vm.findClass own = some m.cls) (hlink : (Cond.methodLinkNest own index y host).before args s = true) (hstat : (Cond.static y).before args s = true) (hinit : (Cond.initialized y.cls).before args s = true)
    (hcode : (Cond.code y bytes maxL ret).before args s = true) (hy : y.cls ≠ "java/lang/invoke/MethodHandle" ∧ y.cls ≠ "java/lang/invoke/VarHandle")
    {W : Nat} {Pre : Pt → Array Value → Prop} {Post : Pt → Array Value → Option Value → Pt → Prop} {PostX : Pt → Array Value → Addr → Pt → Prop} (hK : vx_Back l R p e below s args y 3 W Pre Post PostX)
    {g : JFrame} (hg : g.method = m) (hsize : g.locals.size = c.maxLocals) {argsL rest : List Value} (hlen : ∀ sig, parseMethodDescriptor y.desc = some sig → argsL.length = sig.parameters.length)
    (hstack : g.stack = argsL.reverse ++ rest) (hW : 2 * g.monitorRoom + (rest.map fun v => v.category).sum ≤ W) (hdg : decode c.code g.pc = .ok (.invokestatic index, 3))
    (hpre : ∀ vm₁, s.WarmedH vm₁ → Pre ⟨T.setVm vm₁, locs, cells, slots⟩ argsL.toArray) :
    (∃ (v : Option Value) (vm₁ : Vm) (B : Pt), s.WarmedH vm₁ ∧ Stand p l e R s m args below meth c B.U B.locs B.cells B.slots ∧ Post ⟨T.setVm vm₁, locs, cells, slots⟩ argsL.toArray v B ∧
      ∀ target, Steps p.tables e below (B.U.setTop { g with pc := g.pc + 3, stack := v.toList ++ rest }) target → Steps p.tables e below (T.setTop g) target) ∨
    (∃ (q : Addr) (vm₁ : Vm) (B : Pt), s.WarmedH vm₁ ∧ Stand p l e R s m args below meth c B.U B.locs B.cells B.slots ∧ PostX ⟨T.setVm vm₁, locs, cells, slots⟩ argsL.toArray q B ∧
      Steps p.tables e below (T.setTop g) ((B.U.setTop { g with stack := rest }).pushFrame (.throwing q))) := by
  obtain ⟨mk, hnamed⟩ := Cond.code_named hcode
  obtain ⟨methM, cM, hmethM, -, -, -, -, -, -, hsigM⟩ := Cond.code_spec hnamed hcode
  have hstatic : methM.isStatic = true := Cond.static_spec hnamed hmethM hstat
  obtain ⟨kP, hkP, -⟩ := className_of_methodNamed hnamed
  have hinitP : kP.init = .initialized := Cond.initialized_spec (findClass_of_methodNamed hnamed) hkP hinit
  obtain ⟨vm₁, X₁, hstep₁⟩ := X.invokestaticNest hexec hown hlink hnamed hmethM hstatic hkP hinitP hy (g := g) hg (argsL := argsL) (rest := rest) (hlen _ hsigM) hstack hdg
  rcases hK m meth c ⟨T.setVm vm₁, locs, cells, slots⟩ { g with stack := rest } (.invokestatic index) mk argsL.toArray X₁ hg hsize hdg hW (X₁.named hnamed) (hpre vm₁ X₁.warmed) with ⟨v, B, X', hpost, hsteps⟩ | ⟨q, B, X', hpost, hsteps⟩
  · exact Or.inl ⟨v, vm₁, B, X₁.warmed, X', hpost, fun target h => hstep₁ _ fun acts => by rw [doInvoke_state]; exact hsteps.trans h⟩
  · exact Or.inr ⟨q, vm₁, B, X₁.warmed, X', hpost, hstep₁ _ fun acts => by rw [doInvoke_state]; exact hsteps⟩
theorem vx_runVN {y : MethodName} {bytes cc : ByteArray} {maxL nL mc ms n index : Nat} {ret : Option FieldType} {ws : List Cond} {rm : Room} {Pc : Array Value → State → Prop} {Qc : Array Value → State → Outcome → State → Prop} {XC : String → State → State → Prop} {free : Addr → Prop} {Ts : List Cond} {own C host : String} {b : Addr} {As rest : List Value} {g : JFrame}
    (S : CallFix p m c cc nL s args Ts own) (hM : vx_Met l y ws rm Pc Qc XC mc ms free) (cw : va_CN R s args own index y host bytes maxL ret ws rm mc ms n ∧ (Cond.instanceMethod y).before args s = true ∧ (Cond.selects C y y).before args s = true) (hp : PreV s H C b Pc As)
    (hg : g.method = m) (hn : As.length = n) (hsize : g.locals.size = nL) (hstack : g.stack = As.reverse ++ .ref b :: rest) (hW : 2 * g.monitorRoom + (rest.map fun v => v.category).sum ≤ 8) (hdg : decode cc g.pc = .ok (.invokevirtual index, 3)) (hf : cells + mc ≤ R.cells ∧ slots + ms ≤ R.slots) :
    vx_Run p l e R s m args below meth c H locs cells slots mc ms g rest (Qc (Value.ref b :: As).toArray) XC free := by
  obtain ⟨⟨⟨hrc, hrs, hfr, hlo, hws, hcw⟩, hcode, hini, hy, hlen, hl⟩, hx1, hx2⟩ := cw
  have hK : vx_Back l R p e below s args y 3 8 (PreOf R mc ms Pc) (PostOf Qc mc ms free) (vx_Post XC mc ms free) := vx_back (bytes := bytes) (maxL := maxL) (ret := ret) hM hp.1 hrc hrs hfr hlo hws hcw (fun a' U hW => word_at hW (Or.inl (by first | rfl | simp [Cond.onTables, Cond.keeps, Cond.steady])) hini)
  obtain ⟨hx, hb, hml, ho, -⟩ := S
  obtain ⟨-, ⟨cellB, hcB, hoB, hclB⟩, hPc⟩ := hp
  intro T hT X
  rcases vx_callVN X hx (C := C) (bytes := bytes) (maxL := maxL) (ret := ret) ho hl hx1 hx2 hcode hy hK (by rw [hT]; exact hcB) hoB hclB hg (hsize.trans hml.symm) (argsL := As) (rest := rest) (fun sig h => hn.trans (hlen sig h)) hstack hW (by rw [hb]; exact hdg)
    (fun vm₁ hW₁ => ⟨hf.1, hf.2, hPc (T.setVm vm₁) hT hW₁⟩) with ⟨v, vm₁, ⟨U', l2, c2, s2⟩, hW₁, X', ⟨g', mk, t, L, e1, e2, hq, h1, hL, h2, h3⟩, st⟩ | ⟨q, vm₁, ⟨U', l2, c2, s2⟩, hW₁, X', ⟨g', mk, t, L, E, ce, e1, e2, hq, hce, hcv, hcl, h1, hL, h2, h3⟩, st⟩
  · dsimp only [Pt.U, Pt.locs, Pt.cells, Pt.slots] at X' e1 e2 h1 h2 h3 st
    subst h1; subst h2; subst h3
    exact Or.inl ⟨v, (T.setVm vm₁).calling g' mk (Value.ref b :: As).toArray, t, U', L, hT, X', hL, e1, e2, hq, st⟩
  · dsimp only [Pt.U, Pt.locs, Pt.cells, Pt.slots] at X' e1 e2 h1 h2 h3 st hcl
    subst h1; subst h2; subst h3
    exact Or.inr ⟨q, (T.setVm vm₁).calling g' mk (Value.ref b :: As).toArray, t, U', L, E, ce, hT, X', hL, e1, e2, hq, hce, hcv, vx_cls hW₁ hcl, st⟩
theorem vx_runSN {y : MethodName} {bytes cc : ByteArray} {maxL nL mc ms n index : Nat} {ret : Option FieldType} {ws : List Cond} {rm : Room} {Pc : Array Value → State → Prop} {Qc : Array Value → State → Outcome → State → Prop} {XC : String → State → State → Prop} {free : Addr → Prop} {Ts : List Cond} {own host : String} {As rest : List Value} {g : JFrame}
    (S : CallFix p m c cc nL s args Ts own) (hM : vx_Met l y ws rm Pc Qc XC mc ms free) (cw : va_CN R s args own index y host bytes maxL ret ws rm mc ms n ∧ (Cond.static y).before args s = true ∧ True) (hp : PreS s H Pc As)
    (hg : g.method = m) (hn : As.length = n) (hsize : g.locals.size = nL) (hstack : g.stack = As.reverse ++ rest) (hW : 2 * g.monitorRoom + (rest.map fun v => v.category).sum ≤ 8) (hdg : decode cc g.pc = .ok (.invokestatic index, 3)) (hf : cells + mc ≤ R.cells ∧ slots + ms ≤ R.slots) :
    vx_Run p l e R s m args below meth c H locs cells slots mc ms g rest (Qc As.toArray) XC free := by
  obtain ⟨⟨⟨hrc, hrs, hfr, hlo, hws, hcw⟩, hcode, hini, hy, hlen, hl⟩, hx1, hx2⟩ := cw
  have hK : vx_Back l R p e below s args y 3 8 (PreOf R mc ms Pc) (PostOf Qc mc ms free) (vx_Post XC mc ms free) := vx_back (bytes := bytes) (maxL := maxL) (ret := ret) hM hp.1 hrc hrs hfr hlo hws hcw (fun a' U hW => word_at hW (Or.inl (by first | rfl | simp [Cond.onTables, Cond.keeps, Cond.steady])) hini)
  obtain ⟨hx, hb, hml, ho, -⟩ := S
  have hPc := hp.2
  intro T hT X
  rcases vx_callSN X hx (bytes := bytes) (maxL := maxL) (ret := ret) ho hl hx1 hini hcode hy hK hg (hsize.trans hml.symm) (argsL := As) (rest := rest) (fun sig h => hn.trans (hlen sig h)) hstack hW (by rw [hb]; exact hdg)
    (fun vm₁ hW₁ => ⟨hf.1, hf.2, hPc (T.setVm vm₁) hT hW₁⟩) with ⟨v, vm₁, ⟨U', l2, c2, s2⟩, hW₁, X', ⟨g', mk, t, L, e1, e2, hq, h1, hL, h2, h3⟩, st⟩ | ⟨q, vm₁, ⟨U', l2, c2, s2⟩, hW₁, X', ⟨g', mk, t, L, E, ce, e1, e2, hq, hce, hcv, hcl, h1, hL, h2, h3⟩, st⟩
  · dsimp only [Pt.U, Pt.locs, Pt.cells, Pt.slots] at X' e1 e2 h1 h2 h3 st
    subst h1; subst h2; subst h3
    exact Or.inl ⟨v, (T.setVm vm₁).calling g' mk As.toArray, t, U', L, hT, X', hL, e1, e2, hq, st⟩
  · dsimp only [Pt.U, Pt.locs, Pt.cells, Pt.slots] at X' e1 e2 h1 h2 h3 st hcl
    subst h1; subst h2; subst h3
    exact Or.inr ⟨q, (T.setVm vm₁).calling g' mk As.toArray, t, U', L, E, ce, hT, X', hL, e1, e2, hq, hce, hcv, vx_cls hW₁ hcl, st⟩
end
/-! ===== END ===== -/
/-! ===== BEGIN calls by an interface of methods that may throw (vx_callIF, vx_runF follow va_callIF, va_runF of this kit) ===== -/
section
variable {p : Program} {l : Launch} {e : Env} {R : Room} {s : State} {m : MethodId} {args : Array Value} {below : List Frame} {meth : Method} {c : Code} {H : Heap} {locs : List Loc} {cells slots : Nat} {Q : State → Prop}
variable {mc ms : Nat} {free : Addr → Prop} {A0 A1 : Nat → Prop} {H0 : Heap} {a : Array Value} {pc : Nat} {ls : Array Slot} {st0 rest : List Value}
def vx_Run5 (p : Program) (l : Launch) (e : Env) (R : Room) (s : State) (m : MethodId) (args : Array Value) (below : List Frame) (meth : Method) (c : Code) (H : Heap) (locs : List Loc) (cells slots mc ms : Nat) (g : JFrame) (rest : List Value) (Qa : State → Outcome → State → Prop) (XC : String → State → State → Prop) (free : Addr → Prop) : Prop :=
  ∀ T : State, T.heap = H → Stand p l e R s m args below meth c T locs cells slots →
    (∃ (v : Option Value) (st₀ t T' : State) (L : List Loc), st₀.heap = H ∧ Stand p l e R s m args below meth c T' (locs ++ L) (cells + mc) (slots + ms) ∧ (∀ q ∈ L, free q.base) ∧ T'.heap = t.heap ∧ T'.vm = t.vm ∧ Qa st₀ (.returned v) t ∧
      Goes p e below T g T' { g with pc := g.pc + 5, stack := v.toList ++ rest }) ∨
    (∃ (q : Addr) (st₀ t T' : State) (L : List Loc) (E : String) (ce : Cell), st₀.heap = H ∧ Stand p l e R s m args below meth c T' (locs ++ L) (cells + mc) (slots + ms) ∧ (∀ z ∈ L, free z.base) ∧ T'.heap = t.heap ∧ T'.vm = t.vm ∧ XC E st₀ t ∧ t.heap[q]? = some ce ∧ ce.vm = .none ∧ s.vm.findClass E = some ce.cls ∧
      Steps p.tables e below (T.setTop g) ((T'.setTop { g with stack := rest }).pushFrame (.throwing q)))
theorem vx_callIF {T : State} (X : Stand p l e R s m args below meth c T locs cells slots) (hexec : p.tables.exec = Jvm.exec) {own C : String} {index count : Nat} {x y : MethodName} {bytes : ByteArray} {maxL : Nat} {ret : Option FieldType}
    (hown : s.vm.findClass own = some m.cls) (hlink : (Cond.methodLink own index x).before args s = true) (hdecl : (Cond.declares x).before args s = true) (hface : (Cond.interfaceMethod x.cls x.cls x.name x.desc).before args s = true)
    (hsel : (Cond.selects C x y).before args s = true) (hinst : (Cond.instanceMethod y).before args s = true) (hpub : (Cond.publicMethod y).before args s = true) (hunh : (Cond.unhidden C x.name x.desc).before args s = true)
    (hcast : (Cond.castable C x.cls).before args s = true) (hcode : (Cond.code y bytes maxL ret).before args s = true) (hx : x.cls ≠ "java/lang/invoke/MethodHandle" ∧ x.cls ≠ "java/lang/invoke/VarHandle")
    {W9 : Nat} {Pre : Pt → Array Value → Prop} {Post : Pt → Array Value → Option Value → Pt → Prop} {PostX : Pt → Array Value → Addr → Pt → Prop} (hK : vx_Back l R p e below s args y 5 W9 Pre Post PostX)
    {b : Addr} {cellB : Cell} {kB : Class} (hcell : T.heap[b]? = some cellB) (hobj : cellB.vm.isStatics = false) (hcls : s.vm.findClass C = some cellB.cls) (hkB : s.vm.classes[cellB.cls]? = some kB)
    {g : JFrame} (hg : g.method = m) (hsize : g.locals.size = c.maxLocals) {argsL rest : List Value} (hlen : ∀ sig, parseMethodDescriptor x.desc = some sig → argsL.length = sig.parameters.length)
    (hstack : g.stack = argsL.reverse ++ .ref b :: rest) (hW : 2 * g.monitorRoom + (rest.map fun v => v.category).sum ≤ W9) (hdg : decode c.code g.pc = .ok (.invokeinterface index count, 5))
    (hpre : ∀ vm₁, s.WarmedH vm₁ → Pre ⟨T.setVm vm₁, locs, cells, slots⟩ (Value.ref b :: argsL).toArray) :
    (∃ (v : Option Value) (vm₁ : Vm) (B : Pt), s.WarmedH vm₁ ∧ Stand p l e R s m args below meth c B.U B.locs B.cells B.slots ∧ Post ⟨T.setVm vm₁, locs, cells, slots⟩ (Value.ref b :: argsL).toArray v B ∧
      ∀ target, Steps p.tables e below (B.U.setTop { g with pc := g.pc + 5, stack := v.toList ++ rest }) target → Steps p.tables e below (T.setTop g) target) ∨
    (∃ (q : Addr) (vm₁ : Vm) (B : Pt), s.WarmedH vm₁ ∧ Stand p l e R s m args below meth c B.U B.locs B.cells B.slots ∧ PostX ⟨T.setVm vm₁, locs, cells, slots⟩ (Value.ref b :: argsL).toArray q B ∧
      Steps p.tables e below (T.setTop g) ((B.U.setTop { g with stack := rest }).pushFrame (.throwing q))) := by
  obtain ⟨r0, r, hn, hrm, hstR, hsigR⟩ := Cond.declares_spec hdecl
  obtain ⟨cL, kL, r1, hcL, hkL, hiL, hfoundL, hn1⟩ := Cond.interfaceMethod_spec hface
  cases hn.symm.trans hn1
  have hr0cls : r0.cls = cL := Option.some.inj ((findClass_of_methodNamed hn).symm.trans hcL)
  obtain ⟨hnameR, hdescR⟩ := name_of_methodNamed hn hrm
  obtain ⟨mk, methM, hnamed, hmethM, -, habM⟩ := Cond.instanceMethod_spec hinst
  obtain ⟨c2, r2, m2, q1, q2, q3, q4, -⟩ := Cond.selects_spec hsel
  cases hcls.symm.trans q1
  cases hfoundL.symm.trans q2
  cases hnamed.symm.trans q3
  have hselP : selectMethod e.platform s.vm cellB.cls r0 = .method mk := by rw [Launch.admits_selectMethod X.admits]; exact q4
  have hpubM : hasFlag methM.accessFlags Acc.public_ = true := Cond.publicMethod_spec hnamed hmethM hpub
  have hway : ((cellB.cls :: s.vm.superclasses cellB.cls).any fun k => (declaredIn s.vm r.name r.desc k).any fun (_, z) => z.isPrivate || z.isStatic) = false := by
    rw [hnameR, hdescR]; exact Cond.unhidden_spec hcls hunh
  obtain ⟨c3, t3, w1, w2, w3⟩ := Cond.castable_spec hcast
  cases hcls.symm.trans w1
  cases hcL.symm.trans w2
  obtain ⟨vm₁, X₁, hstep₁⟩ := X.invokeinterface hexec hown hlink hn hrm hstR (by rw [hr0cls]; exact hkL) hiL hx (a := b) (cell := cellB) (kcell := kB) hcell
    (fun z h => by rw [h] at hobj; cases hobj) hkB (by rw [hr0cls]; exact w3) hselP hmethM hway hpubM habM (g := g) hg (argsL := argsL) (rest := rest) (hlen _ hsigR) hstack hdg
  rcases hK m meth c ⟨T.setVm vm₁, locs, cells, slots⟩ { g with stack := rest } (.invokeinterface index count) mk (Value.ref b :: argsL).toArray X₁ hg hsize hdg hW (X₁.named hnamed) (hpre vm₁ X₁.warmed) with ⟨v, B, X', hpost, hsteps⟩ | ⟨q, B, X', hpost, hsteps⟩
  · exact Or.inl ⟨v, vm₁, B, X₁.warmed, X', hpost, fun target h => hstep₁ _ fun acts => by rw [doInvoke_state]; exact hsteps.trans h⟩
  · exact Or.inr ⟨q, vm₁, B, X₁.warmed, X', hpost, hstep₁ _ fun acts => by rw [doInvoke_state]; exact hsteps⟩
theorem vx_runF {x y : MethodName} {bytes cc : ByteArray} {maxL nL mc ms n index count : Nat} {ret : Option FieldType} {ws : List Cond} {rm : Room} {Pc : Array Value → State → Prop} {Qc : Array Value → State → Outcome → State → Prop} {XC : String → State → State → Prop} {free : Addr → Prop} {Ts : List Cond} {own C : String} {cC : ClassId} {b : Addr} {As rest : List Value} {g : JFrame}
    (hat : ClassAt s C cC) (S : CallFix p m c cc nL s args Ts own) (hM : vx_Met l y ws rm Pc Qc XC mc ms free) (cw : va_CI R s args own C index x y bytes maxL ret ws rm mc ms n) (hp : PreV s H C b Pc As)
    (hg : g.method = m) (hn : As.length = n) (hsize : g.locals.size = nL) (hstack : g.stack = As.reverse ++ .ref b :: rest) (hW : 2 * g.monitorRoom + (rest.map fun v => v.category).sum ≤ 8) (hdg : decode cc g.pc = .ok (.invokeinterface index count, 5)) (hf : cells + mc ≤ R.cells ∧ slots + ms ≤ R.slots) :
    vx_Run5 p l e R s m args below meth c H locs cells slots mc ms g rest (Qc (Value.ref b :: As).toArray) XC free := by
  obtain ⟨hrc, hrs, hfr, hlo, hws, hcw⟩ := cw.back
  have hini := cw.init
  have hK : vx_Back l R p e below s args y 5 8 (PreOf R mc ms Pc) (PostOf Qc mc ms free) (vx_Post XC mc ms free) := vx_back (bytes := bytes) (maxL := maxL) (ret := ret) hM hp.1 hrc hrs hfr hlo hws hcw (fun a' U hW => word_at hW (Or.inl (by first | rfl | simp [Cond.onTables, Cond.keeps, Cond.steady])) hini)
  obtain ⟨hx, hb, hml, ho, -⟩ := S
  obtain ⟨-, ⟨cellB, hcB, hoB, hclB⟩, hPc⟩ := hp
  obtain ⟨hfc, kB, hkB, -⟩ := hat
  cases hfc.symm.trans hclB
  intro T hT X
  rcases vx_callIF X hx (C := C) (bytes := bytes) (maxL := maxL) (ret := ret) ho cw.link cw.decl cw.face cw.sel cw.inst cw.pub cw.unh cw.cast cw.code cw.notMH hK (by rw [hT]; exact hcB) hoB hclB hkB hg (hsize.trans hml.symm) (argsL := As) (rest := rest) (fun sig h => hn.trans (cw.len sig h)) hstack hW (by rw [hb]; exact hdg)
    (fun vm₁ hW₁ => ⟨hf.1, hf.2, hPc (T.setVm vm₁) hT hW₁⟩) with ⟨v, vm₁, ⟨U', l2, c2, s2⟩, hW₁, X', ⟨g', mk, t, L, e1, e2, hq, h1, hL, h2, h3⟩, st⟩ | ⟨q, vm₁, ⟨U', l2, c2, s2⟩, hW₁, X', ⟨g', mk, t, L, E, ce, e1, e2, hq, hce, hcv, hcl, h1, hL, h2, h3⟩, st⟩
  · dsimp only [Pt.U, Pt.locs, Pt.cells, Pt.slots] at X' e1 e2 h1 h2 h3 st
    subst h1; subst h2; subst h3
    exact Or.inl ⟨v, (T.setVm vm₁).calling g' mk (Value.ref b :: As).toArray, t, U', L, hT, X', hL, e1, e2, hq, st⟩
  · dsimp only [Pt.U, Pt.locs, Pt.cells, Pt.slots] at X' e1 e2 h1 h2 h3 st hcl
    subst h1; subst h2; subst h3
    exact Or.inr ⟨q, (T.setVm vm₁).calling g' mk (Value.ref b :: As).toArray, t, U', L, E, ce, hT, X', hL, e1, e2, hq, hce, hcv, vx_cls hW₁ hcl, st⟩
theorem vx_callFv {S SX : Type} {post : S → Prop} {px : SX → Prop} {B : S → State → Prop} {BX : String → SX → State → Prop} {AX : Nat → Prop} (hr : vx_Run5 p l e R s m args below meth c H locs cells slots mc ms (F0 m pc ls st0) rest (va_Qv post B A1 a) (vx_X px BX AX) free) (hS : va_S A0 H0 H locs) (hA : ∀ q, q < H.size → A1 q → A0 q) (hf : ∀ q, free q → A0 q) (hAX : ∀ q, q < H.size → AX q → A0 q)
    (kx : ∀ (E : String) (ce : Cell) (q9 : Addr) (u : SX) (t : State) (H1 : Heap) (locs1 : List Loc), t.heap = H1 → s.vm.Alike t.vm → px u → BX E u t → H.size ≤ H1.size → (∀ q : Nat, q < H.size → ¬ AX q → H1[q]? = H[q]?) → va_S A0 H0 H1 locs1 → H1[q9]? = some ce → ce.vm = .none → s.vm.findClass E = some ce.cls → vx_W p l e R s m args below meth c H1 locs1 (cells + mc) (slots + ms) Q (F0 m pc ls rest) q9)
    (kk : ∀ (u : S) (t : State) (H1 : Heap) (locs1 : List Loc), t.heap = H1 → s.vm.Alike t.vm → post u → B u t → H.size ≤ H1.size → (∀ q : Nat, q < H.size → ¬ A1 q → H1[q]? = H[q]?) → va_S A0 H0 H1 locs1 → W p l e R s m args below meth c H1 locs1 (cells + mc) (slots + ms) Q (F0 m (pc + 5) ls (rest))) : W p l e R s m args below meth c H locs cells slots Q (F0 m pc ls st0) := by
  intro T hT X
  rcases hr T hT X with ⟨v, st₀, t, T', L, h0, X', hL, e1, e2, ⟨⟨u, hv, hp, hb⟩, hF⟩, st⟩ | ⟨q, st₀, t, T', L, E, ce, h0, X', hL, e1, e2, ⟨u, hp, hb, hF⟩, hce, hcv, hcl, st⟩
  · cases hv
    obtain ⟨k1, k2, k3⟩ := vx_keep h0 e1 hS hA hf hL hF
    obtain ⟨t2, a1, b1⟩ := kk u t T'.heap (locs ++ L) e1.symm (by rw [← e2]; exact X'.warmed.alike) hp hb k1 k2 k3 T' rfl X'
    exact ⟨t2, st t2 a1, b1⟩
  · obtain ⟨k1, k2, k3⟩ := vx_keep h0 e1 hS hAX hf hL hF
    obtain ⟨t2, a1, b1⟩ := kx E ce q u t T'.heap (locs ++ L) e1.symm (by rw [← e2]; exact X'.warmed.alike) hp hb k1 k2 k3 (by rw [e1]; exact hce) hcv hcl T' rfl X'
    exact ⟨t2, st.trans a1, b1⟩
theorem vx_callFi {S SX : Type} {post : Int32 → S → Prop} {px : SX → Prop} {B : S → State → Prop} {BX : String → SX → State → Prop} {AX : Nat → Prop} (hr : vx_Run5 p l e R s m args below meth c H locs cells slots mc ms (F0 m pc ls st0) rest (va_Qi post B A1 a) (vx_X px BX AX) free) (hS : va_S A0 H0 H locs) (hA : ∀ q, q < H.size → A1 q → A0 q) (hf : ∀ q, free q → A0 q) (hAX : ∀ q, q < H.size → AX q → A0 q)
    (kx : ∀ (E : String) (ce : Cell) (q9 : Addr) (u : SX) (t : State) (H1 : Heap) (locs1 : List Loc), t.heap = H1 → s.vm.Alike t.vm → px u → BX E u t → H.size ≤ H1.size → (∀ q : Nat, q < H.size → ¬ AX q → H1[q]? = H[q]?) → va_S A0 H0 H1 locs1 → H1[q9]? = some ce → ce.vm = .none → s.vm.findClass E = some ce.cls → vx_W p l e R s m args below meth c H1 locs1 (cells + mc) (slots + ms) Q (F0 m pc ls rest) q9)
    (kk : ∀ (r : Int32) (u : S) (t : State) (H1 : Heap) (locs1 : List Loc), t.heap = H1 → s.vm.Alike t.vm → post r u → B u t → H.size ≤ H1.size → (∀ q : Nat, q < H.size → ¬ A1 q → H1[q]? = H[q]?) → va_S A0 H0 H1 locs1 → W p l e R s m args below meth c H1 locs1 (cells + mc) (slots + ms) Q (F0 m (pc + 5) ls (.int r :: rest))) : W p l e R s m args below meth c H locs cells slots Q (F0 m pc ls st0) := by
  intro T hT X
  rcases hr T hT X with ⟨v, st₀, t, T', L, h0, X', hL, e1, e2, ⟨⟨r, u, hv, hp, hb⟩, hF⟩, st⟩ | ⟨q, st₀, t, T', L, E, ce, h0, X', hL, e1, e2, ⟨u, hp, hb, hF⟩, hce, hcv, hcl, st⟩
  · cases hv
    obtain ⟨k1, k2, k3⟩ := vx_keep h0 e1 hS hA hf hL hF
    obtain ⟨t2, a1, b1⟩ := kk r u t T'.heap (locs ++ L) e1.symm (by rw [← e2]; exact X'.warmed.alike) hp hb k1 k2 k3 T' rfl X'
    exact ⟨t2, st t2 a1, b1⟩
  · obtain ⟨k1, k2, k3⟩ := vx_keep h0 e1 hS hAX hf hL hF
    obtain ⟨t2, a1, b1⟩ := kx E ce q u t T'.heap (locs ++ L) e1.symm (by rw [← e2]; exact X'.warmed.alike) hp hb k1 k2 k3 (by rw [e1]; exact hce) hcv hcl T' rfl X'
    exact ⟨t2, st.trans a1, b1⟩
theorem vx_callFl {S SX : Type} {post : Int64 → S → Prop} {px : SX → Prop} {B : S → State → Prop} {BX : String → SX → State → Prop} {AX : Nat → Prop} (hr : vx_Run5 p l e R s m args below meth c H locs cells slots mc ms (F0 m pc ls st0) rest (va_Ql post B A1 a) (vx_X px BX AX) free) (hS : va_S A0 H0 H locs) (hA : ∀ q, q < H.size → A1 q → A0 q) (hf : ∀ q, free q → A0 q) (hAX : ∀ q, q < H.size → AX q → A0 q)
    (kx : ∀ (E : String) (ce : Cell) (q9 : Addr) (u : SX) (t : State) (H1 : Heap) (locs1 : List Loc), t.heap = H1 → s.vm.Alike t.vm → px u → BX E u t → H.size ≤ H1.size → (∀ q : Nat, q < H.size → ¬ AX q → H1[q]? = H[q]?) → va_S A0 H0 H1 locs1 → H1[q9]? = some ce → ce.vm = .none → s.vm.findClass E = some ce.cls → vx_W p l e R s m args below meth c H1 locs1 (cells + mc) (slots + ms) Q (F0 m pc ls rest) q9)
    (kk : ∀ (r : Int64) (u : S) (t : State) (H1 : Heap) (locs1 : List Loc), t.heap = H1 → s.vm.Alike t.vm → post r u → B u t → H.size ≤ H1.size → (∀ q : Nat, q < H.size → ¬ A1 q → H1[q]? = H[q]?) → va_S A0 H0 H1 locs1 → W p l e R s m args below meth c H1 locs1 (cells + mc) (slots + ms) Q (F0 m (pc + 5) ls (.long r :: rest))) : W p l e R s m args below meth c H locs cells slots Q (F0 m pc ls st0) := by
  intro T hT X
  rcases hr T hT X with ⟨v, st₀, t, T', L, h0, X', hL, e1, e2, ⟨⟨r, u, hv, hp, hb⟩, hF⟩, st⟩ | ⟨q, st₀, t, T', L, E, ce, h0, X', hL, e1, e2, ⟨u, hp, hb, hF⟩, hce, hcv, hcl, st⟩
  · cases hv
    obtain ⟨k1, k2, k3⟩ := vx_keep h0 e1 hS hA hf hL hF
    obtain ⟨t2, a1, b1⟩ := kk r u t T'.heap (locs ++ L) e1.symm (by rw [← e2]; exact X'.warmed.alike) hp hb k1 k2 k3 T' rfl X'
    exact ⟨t2, st t2 a1, b1⟩
  · obtain ⟨k1, k2, k3⟩ := vx_keep h0 e1 hS hAX hf hL hF
    obtain ⟨t2, a1, b1⟩ := kx E ce q u t T'.heap (locs ++ L) e1.symm (by rw [← e2]; exact X'.warmed.alike) hp hb k1 k2 k3 (by rw [e1]; exact hce) hcv hcl T' rfl X'
    exact ⟨t2, st.trans a1, b1⟩
theorem vx_callFf {S SX : Type} {post : UInt32 → S → Prop} {px : SX → Prop} {B : S → State → Prop} {BX : String → SX → State → Prop} {AX : Nat → Prop} (hr : vx_Run5 p l e R s m args below meth c H locs cells slots mc ms (F0 m pc ls st0) rest (va_Qf post B A1 a) (vx_X px BX AX) free) (hS : va_S A0 H0 H locs) (hA : ∀ q, q < H.size → A1 q → A0 q) (hf : ∀ q, free q → A0 q) (hAX : ∀ q, q < H.size → AX q → A0 q)
    (kx : ∀ (E : String) (ce : Cell) (q9 : Addr) (u : SX) (t : State) (H1 : Heap) (locs1 : List Loc), t.heap = H1 → s.vm.Alike t.vm → px u → BX E u t → H.size ≤ H1.size → (∀ q : Nat, q < H.size → ¬ AX q → H1[q]? = H[q]?) → va_S A0 H0 H1 locs1 → H1[q9]? = some ce → ce.vm = .none → s.vm.findClass E = some ce.cls → vx_W p l e R s m args below meth c H1 locs1 (cells + mc) (slots + ms) Q (F0 m pc ls rest) q9)
    (kk : ∀ (r : UInt32) (u : S) (t : State) (H1 : Heap) (locs1 : List Loc), t.heap = H1 → s.vm.Alike t.vm → post r u → B u t → H.size ≤ H1.size → (∀ q : Nat, q < H.size → ¬ A1 q → H1[q]? = H[q]?) → va_S A0 H0 H1 locs1 → W p l e R s m args below meth c H1 locs1 (cells + mc) (slots + ms) Q (F0 m (pc + 5) ls (.float r :: rest))) : W p l e R s m args below meth c H locs cells slots Q (F0 m pc ls st0) := by
  intro T hT X
  rcases hr T hT X with ⟨v, st₀, t, T', L, h0, X', hL, e1, e2, ⟨⟨r, u, hv, hp, hb⟩, hF⟩, st⟩ | ⟨q, st₀, t, T', L, E, ce, h0, X', hL, e1, e2, ⟨u, hp, hb, hF⟩, hce, hcv, hcl, st⟩
  · cases hv
    obtain ⟨k1, k2, k3⟩ := vx_keep h0 e1 hS hA hf hL hF
    obtain ⟨t2, a1, b1⟩ := kk r u t T'.heap (locs ++ L) e1.symm (by rw [← e2]; exact X'.warmed.alike) hp hb k1 k2 k3 T' rfl X'
    exact ⟨t2, st t2 a1, b1⟩
  · obtain ⟨k1, k2, k3⟩ := vx_keep h0 e1 hS hAX hf hL hF
    obtain ⟨t2, a1, b1⟩ := kx E ce q u t T'.heap (locs ++ L) e1.symm (by rw [← e2]; exact X'.warmed.alike) hp hb k1 k2 k3 (by rw [e1]; exact hce) hcv hcl T' rfl X'
    exact ⟨t2, st.trans a1, b1⟩
theorem vx_callFd {S SX : Type} {post : UInt64 → S → Prop} {px : SX → Prop} {B : S → State → Prop} {BX : String → SX → State → Prop} {AX : Nat → Prop} (hr : vx_Run5 p l e R s m args below meth c H locs cells slots mc ms (F0 m pc ls st0) rest (va_Qd post B A1 a) (vx_X px BX AX) free) (hS : va_S A0 H0 H locs) (hA : ∀ q, q < H.size → A1 q → A0 q) (hf : ∀ q, free q → A0 q) (hAX : ∀ q, q < H.size → AX q → A0 q)
    (kx : ∀ (E : String) (ce : Cell) (q9 : Addr) (u : SX) (t : State) (H1 : Heap) (locs1 : List Loc), t.heap = H1 → s.vm.Alike t.vm → px u → BX E u t → H.size ≤ H1.size → (∀ q : Nat, q < H.size → ¬ AX q → H1[q]? = H[q]?) → va_S A0 H0 H1 locs1 → H1[q9]? = some ce → ce.vm = .none → s.vm.findClass E = some ce.cls → vx_W p l e R s m args below meth c H1 locs1 (cells + mc) (slots + ms) Q (F0 m pc ls rest) q9)
    (kk : ∀ (r : UInt64) (u : S) (t : State) (H1 : Heap) (locs1 : List Loc), t.heap = H1 → s.vm.Alike t.vm → post r u → B u t → H.size ≤ H1.size → (∀ q : Nat, q < H.size → ¬ A1 q → H1[q]? = H[q]?) → va_S A0 H0 H1 locs1 → W p l e R s m args below meth c H1 locs1 (cells + mc) (slots + ms) Q (F0 m (pc + 5) ls (.double r :: rest))) : W p l e R s m args below meth c H locs cells slots Q (F0 m pc ls st0) := by
  intro T hT X
  rcases hr T hT X with ⟨v, st₀, t, T', L, h0, X', hL, e1, e2, ⟨⟨r, u, hv, hp, hb⟩, hF⟩, st⟩ | ⟨q, st₀, t, T', L, E, ce, h0, X', hL, e1, e2, ⟨u, hp, hb, hF⟩, hce, hcv, hcl, st⟩
  · cases hv
    obtain ⟨k1, k2, k3⟩ := vx_keep h0 e1 hS hA hf hL hF
    obtain ⟨t2, a1, b1⟩ := kk r u t T'.heap (locs ++ L) e1.symm (by rw [← e2]; exact X'.warmed.alike) hp hb k1 k2 k3 T' rfl X'
    exact ⟨t2, st t2 a1, b1⟩
  · obtain ⟨k1, k2, k3⟩ := vx_keep h0 e1 hS hAX hf hL hF
    obtain ⟨t2, a1, b1⟩ := kx E ce q u t T'.heap (locs ++ L) e1.symm (by rw [← e2]; exact X'.warmed.alike) hp hb k1 k2 k3 (by rw [e1]; exact hce) hcv hcl T' rfl X'
    exact ⟨t2, st.trans a1, b1⟩
end
/-! ===== END ===== -/
end
section
/-! A RUN WITH NAMES FOR WHAT IS NOT KNOWN: a program over small data that goes through a method's rows and says 'true' only where every road ends well; what it says is proved of the machine behind. A value: (kind, constant, name); kinds 0 int, 1 long (both: the name's number plus the constant), 2 null, 3 a cell of the run's own, 4 one from before, 5 the float 0, 6 the double 0. A cell: (kind, class or type, length, contents). -/
abbrev sV : Type := Nat × Int × Nat
abbrev sE : Type := Nat × Nat × Nat × List (Nat × sV)
abbrev sI : Type := List (Int × Int)
abbrev sL : Type := List (Nat × sV)
abbrev sN : Type := Nat × Instr × Nat × List Nat
abbrev sM : Type := Nat × Nat × Nat × Nat × Nat × List (Nat × Nat × Nat × Nat)
abbrev sZ : Type := Nat × sV × List sE × sI
abbrev sP : Type := (Nat → List sN) × (Nat → sM) × (Nat → List (Nat × sV))
abbrev sF : Type := Nat → Nat → sL → List sV → List sE → sI → Nat → Nat → (sZ → Bool) → Bool
def s_pos (d : Int) : Bool := match d with
  | .ofNat (_ + 1) => true
  | _ => false
def s_ilt (a b : Int) : Bool := s_pos (b - a)
def s_ile (a b : Int) : Bool := !s_ilt b a
def s_lo (iv : sI) (x : sV) : Int := (iv.getD x.2.2 (0, 0)).1 + x.2.1
def s_hi (iv : sI) (x : sV) : Int := (iv.getD x.2.2 (0, 0)).2 + x.2.1
def s_isk (iv : sI) (x : sV) : Bool := s_ile (s_hi iv x) (s_lo iv x)
def s_not (b : Option Bool) : Option Bool := match b with
  | some true => some false
  | some false => some true
  | none => none
def s_dlt (iv : sI) (x y : sV) : Option Bool := match s_ilt (s_hi iv x) (s_lo iv y) with
  | true => some true
  | false => match s_ile (s_hi iv y) (s_lo iv x) with
    | true => some false
    | false => none
def s_deq (iv : sI) (x y : sV) : Option Bool := match s_ilt (s_hi iv x) (s_lo iv y) || s_ilt (s_hi iv y) (s_lo iv x) with
  | true => some false
  | false => match s_isk iv x && s_isk iv y with
    | true => some true
    | false => none
def s_dec (o : Jvm.ClassFile.Cond) (iv : sI) (x y : sV) : Option Bool := match o with
  | .eq => s_deq iv x y
  | .ne => s_not (s_deq iv x y)
  | .lt => s_dlt iv x y
  | .ge => s_not (s_dlt iv x y)
  | .gt => s_dlt iv y x
  | .le => s_not (s_dlt iv y x)
def s_cutl (iv : sI) (x y : sV) : Nat × Int := match s_isk iv y with
  | true => (x.2.2, s_lo iv y - x.2.1)
  | false => match s_isk iv x with
    | true => (y.2.2, s_lo iv x + 1 - y.2.1)
    | false => match s_ile (s_hi iv x - s_lo iv x) (s_hi iv y - s_lo iv y) with
      | true => (x.2.2, (iv.getD x.2.2 (0, 0)).1 + 1)
      | false => (y.2.2, (iv.getD y.2.2 (0, 0)).1 + 1)
def s_cute (iv : sI) (x y : sV) : Nat × Int := match s_isk iv y with
  | true => match s_ilt (iv.getD x.2.2 (0, 0)).1 (s_lo iv y - x.2.1) with
    | true => (x.2.2, s_lo iv y - x.2.1)
    | false => (x.2.2, s_lo iv y - x.2.1 + 1)
  | false => match s_isk iv x with
    | true => match s_ilt (iv.getD y.2.2 (0, 0)).1 (s_lo iv x - y.2.1) with
      | true => (y.2.2, s_lo iv x - y.2.1)
      | false => (y.2.2, s_lo iv x - y.2.1 + 1)
    | false => (x.2.2, (iv.getD x.2.2 (0, 0)).1 + 1)
def s_cut (o : Jvm.ClassFile.Cond) (iv : sI) (x y : sV) : Nat × Int := match o with
  | .eq => s_cute iv x y
  | .ne => s_cute iv x y
  | .lt => s_cutl iv x y
  | .ge => s_cutl iv x y
  | .gt => s_cutl iv y x
  | .le => s_cutl iv y x
def s_r32 (iv : sI) (x : sV) : Bool := s_ile (-2147483648) (s_lo iv x) && s_ile (s_hi iv x) 2147483647
def s_r64 (iv : sI) (x : sV) : Bool := s_ile (-9223372036854775808) (s_lo iv x) && s_ile (s_hi iv x) 9223372036854775807
def s_rg (a b : Int) (iv : sI) (x : sV) : Bool := s_ile a (s_lo iv x) && s_ile (s_hi iv x) b
def s_tag (t : Nat) (x : sV) : Bool := Nat.beq x.1 t
def s_find : List sN → Nat → Option sN
  | [], _ => none
  | e :: r, pc => match Nat.beq e.1 pc with
    | true => some e
    | false => s_find r pc
def s_get : sL → Nat → Option sV
  | [], _ => none
  | e :: r, i => match Nat.beq e.1 i with
    | true => some e.2
    | false => s_get r i
/-- a sum: one of the two is a number -/
def s_add (iv : sI) (x y : sV) : Option sV := match s_isk iv y with
  | true => some (x.1, x.2.1 + s_lo iv y, x.2.2)
  | false => match s_isk iv x with
    | true => some (x.1, y.2.1 + s_lo iv x, y.2.2)
    | false => none
def s_sub (iv : sI) (x y : sV) : Option sV := match s_isk iv y with
  | true => some (x.1, x.2.1 - s_lo iv y, x.2.2)
  | false => none
def s_mul (iv : sI) (x y : sV) : Option sV := match s_isk iv y && s_isk iv x with
  | true => some (x.1, s_lo iv x * s_lo iv y, 0)
  | false => none
def s_cat (x : sV) : Nat := match x.1 with
  | 1 => 2
  | 6 => 2
  | _ => 1
def s_put (l : sL) (i : Nat) (x : sV) : sL := (i, x) :: l.filter (fun q => !(q.1 == i) && !(q.1 + 1 == i && s_cat q.2 == 2))
def s_put2 (l : sL) (i : Nat) (x : sV) : sL := (i, x) :: l.filter (fun q => !(q.1 == i) && (!(q.1 == i + 1) && !(q.1 + 1 == i && s_cat q.2 == 2)))
def s_okV (b : Nat) (x : sV) : Bool := match x.1 with
  | 3 => Nat.blt x.2.2 b
  | _ => true
def s_ok (l : sL) (st : List sV) (h : List sE) : Bool := l.all (fun q => s_okV h.length q.2) && (st.all (s_okV h.length) && h.all (fun e => e.2.2.2.all (fun q => s_okV h.length q.2)))
def s_args : Nat → List sV → sL
  | _, [] => []
  | i, v :: vs => (i, v) :: s_args (i + s_cat v) vs
def s_words (st : List sV) : Nat := match st with
  | [] => 0
  | v :: r => s_cat v + s_words r
def s_hand : List (Nat × Nat × Nat × Nat) → Nat → Nat → Option Nat
  | [], _, _ => none
  | e :: r, pc, x => match Nat.ble e.1 pc && (Nat.blt pc e.2.1 && Nat.beq e.2.2.2 x) with
    | true => some e.2.2.1
    | false => s_hand r pc x
def s_spl (ih : sF) (mi pc : Nat) (l : sL) (st : List sV) (h : List sE) (iv : sI) (c n : Nat) (k : sZ → Bool) (v : Nat) (q : Int) : Bool :=
  ih mi pc l st h (iv.set v ((iv.getD v (0, 0)).1, q - 1)) c n k && ih mi pc l st h (iv.set v (q, (iv.getD v (0, 0)).2)) c n k
def s_cmp (ih : sF) (mi pc : Nat) (l : sL) (st : List sV) (h : List sE) (iv : sI) (c n : Nat) (k : sZ → Bool) (o : Jvm.ClassFile.Cond) (x y : sV) (rest : List sV) (tgt npc : Nat) : Bool :=
  match s_dec o iv x y with
  | some true => ih mi tgt l rest h iv c n k
  | some false => ih mi npc l rest h iv c n k
  | none => s_spl ih mi pc l st h iv c n k (s_cut o iv x y).1 (s_cut o iv x y).2
def s_load (ih : sF) (mi npc : Nat) (l : sL) (st : List sV) (h : List sE) (iv : sI) (c n : Nat) (k : sZ → Bool) (t : sV → Bool) (i : Nat) : Bool :=
  match s_get l i with
  | some v => t v && ih mi npc l (v :: st) h iv c n k
  | none => false
def s_isA (x : sV) : Bool := match x.1 with
  | 2 => true
  | 3 => true
  | 4 => true
  | _ => false
def s_sto (ih : sF) (P : sP) (mi npc : Nat) (l : sL) (st : List sV) (h : List sE) (iv : sI) (c n : Nat) (k : sZ → Bool) (t : sV → Bool) (i : Nat) : Bool :=
  match st with
  | v :: r => t v && (Nat.blt i (P.2.1 mi).1 && ih mi npc (s_put l i v) r h iv c n k)
  | [] => false
def s_sto2 (ih : sF) (P : sP) (mi npc : Nat) (l : sL) (st : List sV) (h : List sE) (iv : sI) (c n : Nat) (k : sZ → Bool) (t : sV → Bool) (i : Nat) : Bool :=
  match st with
  | v :: r => t v && (Nat.blt (i + 1) (P.2.1 mi).1 && ih mi npc (s_put2 l i v) r h iv c n k)
  | [] => false
def s_bin (ih : sF) (mi npc : Nat) (l : sL) (st : List sV) (h : List sE) (iv : sI) (c n : Nat) (k : sZ → Bool) (t : Nat) (f : sI → sV → sV → Option sV) : Bool :=
  match st with
  | y :: x :: r => s_tag t x && (s_tag t y && match f iv x y with
    | some z => ih mi npc l (z :: r) h iv c n k
    | none => false)
  | _ => false
/-- the field k of the object x of the class ci -/
def s_obj (h : List sE) (x : sV) (ci : Nat) : Option (List (Nat × sV)) := match x.1 with
  | 3 => match h[x.2.2]? with
    | some e => match Nat.beq e.1 0 && Nat.beq e.2.1 ci with
      | true => some e.2.2.2
      | false => none
    | none => none
  | _ => none
def s_arr (h : List sE) (x : sV) (kd : Nat) : Option sE := match x.1 with
  | 3 => match h[x.2.2]? with
    | some e => match Nat.beq e.1 kd with
      | true => some e
      | false => none
    | none => none
  | _ => none
def s_look : List (Nat × sV) → Nat → sV
  | [], _ => (0, 0, 0)
  | e :: r, j => match Nat.beq e.1 j with
    | true => e.2
    | false => s_look r j
/-- the number that x is, if it is one below b -/
def s_ix (iv : sI) (x : sV) (b : Nat) : Option Nat := match s_tag 0 x && s_isk iv x with
  | true => match s_lo iv x with
    | .ofNat i => match Nat.blt i b && Nat.blt i 1000000 with
      | true => some i
      | false => none
    | _ => none
  | false => none
def s_new (ih : sF) (P : sP) (mi npc : Nat) (l : sL) (st : List sV) (h : List sE) (iv : sI) (c n : Nat) (k : sZ → Bool) (e : sE) : Bool :=
  s_ok l st h && (e.2.2.2.all (fun q => s_okV h.length q.2) && (Nat.ble (c + 1) (P.2.1 mi).2.2.1 && (Nat.ble (n + e.2.2.1) (P.2.1 mi).2.2.2.1 && ih mi npc l ((3, 0, h.length) :: st) (h ++ [e]) iv (c + 1) (n + e.2.2.1) k)))
def s_back (ih : sF) (P : sP) (mi pc npc : Nat) (l : sL) (rest : List sV) (c n : Nat) (k : sZ → Bool) (z : sZ) : Bool := match z.1 with
  | 0 => ih mi npc l rest z.2.2.1 z.2.2.2 c n k
  | 1 => ih mi npc l (z.2.1 :: rest) z.2.2.1 z.2.2.2 c n k
  | e + 2 => match (P.2.1 mi).2.2.2.2.2 with
    | [] => k (e + 2, (2, 0, 0), z.2.2.1, z.2.2.2)
    | hh => match s_hand hh pc e with
      | some hp => Nat.blt e 6 && s_ok l [] z.2.2.1 && (Nat.ble z.2.2.1.length 1000000 && ih mi hp l [(3, 0, 1000000)] z.2.2.1 z.2.2.2 c n k)
      | none => false
/-- the receiver: none asked, a cell of the run's own, the four signs' text, or an object of a class -/
def s_rcv (h : List sE) (as : List sV) (ci : Nat) : Bool := match as.getLast? with
  | some x => match ci with
    | 0 => true
    | 1000 => s_tag 3 x
    | 1001 => s_tag 4 x && Nat.beq x.2.2 2
    | ci + 1 => match s_obj h x ci with
      | some _ => true
      | none => false
  | none => Nat.beq ci 0
/-- a call: info = callee, how many arguments (the receiver with them), the receiver's class and 1, or 0 -/
def s_call (ih : sF) (P : sP) (mi pc npc : Nat) (l : sL) (st : List sV) (h : List sE) (iv : sI) (c n : Nat) (k : sZ → Bool) (y na ci : Nat) : Bool :=
  Nat.ble na st.length && (s_ok l st h && (Nat.ble (s_words (st.drop na)) 8 && (s_rcv h (st.take na) ci && (Nat.ble (s_words (st.take na)) (P.2.1 y).1 && (Nat.ble ((P.2.1 y).2.1 + 1) (P.2.1 mi).2.1 && (Nat.ble (8 + ((P.2.1 y).1 + 11) + (P.2.1 y).2.2.2.2.1) (P.2.1 mi).2.2.2.2.1 && (Nat.ble (c + (P.2.1 y).2.2.1) (P.2.1 mi).2.2.1 && (Nat.ble (n + (P.2.1 y).2.2.2.1) (P.2.1 mi).2.2.2.1 &&
    ih y 0 (s_args 0 (st.take na).reverse) [] h iv 0 0 (s_back ih P mi pc npc l (st.drop na) (c + (P.2.1 y).2.2.1) (n + (P.2.1 y).2.2.2.1) k)))))))))
def s_lim (P : sP) (mi c n : Nat) : Bool := Nat.ble c (P.2.1 mi).2.2.1 && Nat.ble n (P.2.1 mi).2.2.2.1
def s_ret (P : sP) (mi c n : Nat) (k : sZ → Bool) (st : List sV) (h : List sE) (iv : sI) (t : sV → Bool) : Bool := match st with
  | [v] => t v && (s_lim P mi c n && k (1, v, h, iv))
  | _ => false
def s_int (info : List Nat) : Int := match info with
  | [0, v] => Int.ofNat v
  | [1, v] => Int.negSucc v
  | _ => 0
end
section
def s_go (ih : sF) (mi npc : Nat) (l : sL) (st : List sV) (h : List sE) (iv : sI) (c n : Nat) (k : sZ → Bool) (v : sV) : Bool := ih mi npc l (v :: st) h iv c n k
def s_tgt (info : List Nat) : Nat := match info with
  | t :: _ => t
  | [] => 0
def s_nth (info : List Nat) (j : Nat) : Nat := info.getD j 0
/-- the type of an array by its number, its cell's kind -/
def s_ft (t : Nat) : FieldType := match t with
  | 0 => .int
  | 1 => .char
  | 2 => .byte
  | 3 => .boolean
  | 4 => .long
  | 5 => .double
  | _ => .object "java/lang/Object"
def s_kd (t : Nat) : Nat := match t with
  | 4 => 2
  | 5 => 3
  | 6 => 4
  | _ => 1
def s_at (a : ArrayType) : Option Nat := match a with
  | .int => some 0
  | .char => some 1
  | .byte => some 2
  | .boolean => some 3
  | .long => some 4
  | .double => some 5
  | _ => none
/-- a number as char, byte: as it is where it fits -/
def s_i2c (ih : sF) (mi pc npc : Nat) (l : sL) (st : List sV) (h : List sE) (iv : sI) (c n : Nat) (k : sZ → Bool) : Bool := match st with
  | x :: r => s_tag 0 x && (match s_rg 0 65535 iv x with
    | true => ih mi npc l (x :: r) h iv c n k
    | false => match s_ile 0 x.2.1 && (s_ile x.2.1 0 && (Nat.ble 1 x.2.2 && Nat.ble x.2.2 6)) with
      | true => ih mi npc l ((0, 0, x.2.2 + 10) :: r) h iv c n k
      | false => false)
  | [] => false
def s_i2b (ih : sF) (mi pc npc : Nat) (l : sL) (st : List sV) (h : List sE) (iv : sI) (c n : Nat) (k : sZ → Bool) : Bool := match st with
  | x :: r => s_tag 0 x && (match s_rg (-128) 127 iv x with
    | true => ih mi npc l (x :: r) h iv c n k
    | false => match s_rg 128 255 iv x with
      | true => ih mi npc l ((0, x.2.1 - 256, x.2.2) :: r) h iv c n k
      | false => s_spl ih mi pc l st h iv c n k x.2.2 (128 - x.2.1))
  | [] => false
/-- x >>> y where that is 0; x >> y of numbers -/
def s_ush (ih : sF) (mi pc npc : Nat) (l : sL) (st : List sV) (h : List sE) (iv : sI) (c n : Nat) (k : sZ → Bool) : Bool := match st with
  | y :: x :: r => s_tag 0 x && (s_tag 0 y && (s_rg 8 8 iv y && (match s_rg 0 255 iv x with
    | true => ih mi npc l ((0, 0, 0) :: r) h iv c n k
    | false => match s_rg 256 65535 iv x && (Nat.beq x.2.2 13 && (s_ile 0 x.2.1 && s_ile x.2.1 0)) with
      | true => ih mi npc l ((0, 0, 33) :: r) h iv c n k
      | false => s_spl ih mi pc l st h iv c n k x.2.2 (256 - x.2.1))))
  | _ => false
def s_shr (ih : sF) (mi npc : Nat) (l : sL) (st : List sV) (h : List sE) (iv : sI) (c n : Nat) (k : sZ → Bool) : Bool := match st with
  | y :: x :: r => s_tag 0 x && (s_tag 0 y && (s_rg 0 0 iv y && ih mi npc l (x :: r) h iv c n k))
  | _ => false
def s_and (ih : sF) (mi npc : Nat) (l : sL) (st : List sV) (h : List sE) (iv : sI) (c n : Nat) (k : sZ → Bool) : Bool := match st with
  | y :: x :: r => s_tag 0 x && (s_tag 0 y && (s_rg 63 63 iv y && (Nat.beq x.2.2 1 && (s_ile 0 x.2.1 && (s_ile x.2.1 0 && ih mi npc l ((0, 0, 21) :: r) h iv c n k)))))
  | _ => false
def s_lcm (ih : sF) (P : sP) (mi pc npc : Nat) (l : sL) (st : List sV) (h : List sE) (iv : sI) (c n : Nat) (k : sZ → Bool) : Bool := match st with
  | y :: x :: r => s_tag 1 x && (s_tag 1 y && (s_r64 iv x && (s_r64 iv y && match s_find (P.1 mi) npc with
    | some e => match e.2.1 with
      | .ifCond o _ => s_cmp ih mi pc l st h iv c n k o x y r (s_tgt e.2.2.2) e.2.2.1
      | _ => false
    | none => false)))
  | _ => false
def s_icm (ih : sF) (mi pc npc : Nat) (l : sL) (st : List sV) (h : List sE) (iv : sI) (c n : Nat) (k : sZ → Bool) (o : Jvm.ClassFile.Cond) (tgt : Nat) : Bool := match st with
  | y :: x :: r => s_tag 0 x && (s_tag 0 y && (s_r32 iv x && (s_r32 iv y && s_cmp ih mi pc l st h iv c n k o x y r tgt npc)))
  | _ => false
def s_ifc (ih : sF) (mi pc npc : Nat) (l : sL) (st : List sV) (h : List sE) (iv : sI) (c n : Nat) (k : sZ → Bool) (o : Jvm.ClassFile.Cond) (tgt : Nat) : Bool := match st with
  | x :: r => s_tag 0 x && (s_r32 iv x && s_cmp ih mi pc l st h iv c n k o x (0, 0, 0) r tgt npc)
  | _ => false
/-- a switch: the number first, one by one -/
def s_tab (ih : sF) (mi pc : Nat) (l : sL) (st : List sV) (h : List sE) (iv : sI) (c n : Nat) (k : sZ → Bool) (lo : Int) (info : List Nat) : Bool := match st with
  | x :: r => s_tag 0 x && (s_r32 iv x && (match s_isk iv x with
    | true => match s_lo iv x - lo with
      | .ofNat j => match info.tail[j]? with
        | some t => ih mi t l r h iv c n k
        | none => ih mi (s_tgt info) l r h iv c n k
      | _ => ih mi (s_tgt info) l r h iv c n k
    | false => s_spl ih mi pc l st h iv c n k x.2.2 ((iv.getD x.2.2 (0, 0)).1 + 1)))
  | [] => false
def s_nul (ih : sF) (mi npc : Nat) (l : sL) (st : List sV) (h : List sE) (iv : sI) (c n : Nat) (k : sZ → Bool) (tgt : Nat) : Bool := match st with
  | x :: r => match x.1 with
    | 2 => ih mi tgt l r h iv c n k
    | 3 => ih mi npc l r h iv c n k
    | 4 => ih mi npc l r h iv c n k
    | _ => false
  | [] => false
/-- if_acmp of one thing with itself -/
def s_acn (ih : sF) (mi npc : Nat) (l : sL) (st : List sV) (h : List sE) (iv : sI) (c n : Nat) (k : sZ → Bool) : Bool := match st with
  | y :: x :: r => s_tag 4 x && (s_tag 4 y && (Nat.beq x.2.2 y.2.2 && ih mi npc l r h iv c n k))
  | _ => false
def s_gf (ih : sF) (mi npc : Nat) (l : sL) (st : List sV) (h : List sE) (iv : sI) (c n : Nat) (k : sZ → Bool) (info : List Nat) : Bool := match st with
  | x :: r => match x.1 with
    | 3 => Nat.beq (s_nth info 4) 0 && (match s_obj h x (s_nth info 0) with
      | some fs => match fs[s_nth info 1]? with
        | some v => ih mi npc l (v.2 :: r) h iv c n k
        | none => false
      | none => false)
    | 4 => Nat.beq x.2.2 2 && (match s_nth info 4 with
      | 1 => ih mi npc l ((4, 0, 3) :: r) h iv c n k
      | 2 => ih mi npc l ((0, 0, 0) :: r) h iv c n k
      | _ => false)
    | _ => false
  | [] => false
/-- what a field holds: info's 3rd number is its type: 0 int, 1 boolean, 2 char, 3 long, 4 a reference, 5 byte -/
def s_fit (iv : sI) (t : Nat) (v : sV) : Bool := match t with
  | 0 => s_tag 0 v
  | 1 => s_tag 0 v && s_rg 0 1 iv v
  | 2 => s_tag 0 v && s_rg 0 65535 iv v
  | 3 => s_tag 1 v
  | 4 => s_isA v
  | 5 => s_tag 0 v && s_rg (-128) 127 iv v
  | _ => false
def s_pf (ih : sF) (mi npc : Nat) (l : sL) (st : List sV) (h : List sE) (iv : sI) (c n : Nat) (k : sZ → Bool) (info : List Nat) : Bool := match st with
  | v :: x :: r => match s_obj h x (s_nth info 0) with
    | some fs => Nat.blt (s_nth info 1) fs.length && (s_fit iv (s_nth info 2) v && ih mi npc l r (h.set x.2.2 (0, s_nth info 0, fs.length, fs.set (s_nth info 1) (0, v))) iv c n k)
    | none => false
  | _ => false
/-- an array's length: 1 the empty row, 3 the four signs -/
def s_len (ih : sF) (mi npc : Nat) (l : sL) (st : List sV) (h : List sE) (iv : sI) (c n : Nat) (k : sZ → Bool) : Bool := match st with
  | x :: r => match x.1 with
    | 3 => match h[x.2.2]? with
      | some e => Nat.blt 0 e.1 && (Nat.blt e.2.1 7 && ih mi npc l ((0, Int.ofNat e.2.2.1, 0) :: r) h iv c n k)
      | none => false
    | 4 => match x.2.2 with
      | 0 => ih mi npc l ((0, 0, 22) :: r) h iv c n k
      | 1 => ih mi npc l ((0, 0, 0) :: r) h iv c n k
      | 3 => ih mi npc l ((0, 4, 0) :: r) h iv c n k
      | _ => false
    | _ => false
  | [] => false
def s_toN (a : Int) : Nat := match a with
  | .ofNat b => b
  | _ => 0
def s_ial (ih : sF) (mi npc : Nat) (l : sL) (st : List sV) (h : List sE) (iv : sI) (c n : Nat) (k : sZ → Bool) : Bool := match st with
  | y :: x :: r => s_tag 4 x && (Nat.beq x.2.2 0 && (match s_ix iv y (s_toN (s_lo iv (0, 0, 22))) with
    | some j => ih mi npc l ((0, 0, j + 1) :: r) h iv c n k
    | none => false))
  | _ => false
def s_fg (j : Nat) : Int := match j with
  | 0 => 102
  | 1 => 103
  | 2 => 98
  | _ => 101
def s_bal (ih : sF) (mi npc : Nat) (l : sL) (st : List sV) (h : List sE) (iv : sI) (c n : Nat) (k : sZ → Bool) : Bool := match st with
  | y :: x :: r => s_tag 4 x && (Nat.beq x.2.2 3 && (match s_ix iv y 4 with
    | some j => ih mi npc l ((0, s_fg j, 0) :: r) h iv c n k
    | none => false))
  | _ => false
def s_lal (ih : sF) (mi npc : Nat) (l : sL) (st : List sV) (h : List sE) (iv : sI) (c n : Nat) (k : sZ → Bool) : Bool := match st with
  | y :: x :: r => match s_arr h x 2 with
    | some e => match s_ix iv y e.2.2.1 with
      | some j => Nat.beq e.2.1 4 && ih mi npc l ((1, (s_look e.2.2.2 j).2) :: r) h iv c n k
      | none => false
    | none => false
  | _ => false
def s_ast (ih : sF) (mi npc : Nat) (l : sL) (st : List sV) (h : List sE) (iv : sI) (c n : Nat) (k : sZ → Bool) (kd ty ft : Nat) : Bool := match st with
  | v :: y :: x :: r => match s_arr h x kd with
    | some e => match s_ix iv y e.2.2.1 with
      | some j => Nat.beq e.2.1 ty && (s_fit iv ft v && ih mi npc l r (h.set x.2.2 (kd, ty, e.2.2.1, (j, v) :: e.2.2.2)) iv c n k)
      | none => false
    | none => false
  | _ => false
/-- an object into a row of objects -/
def s_aas (ih : sF) (mi npc : Nat) (l : sL) (st : List sV) (h : List sE) (iv : sI) (c n : Nat) (k : sZ → Bool) : Bool := match st with
  | v :: y :: x :: r => match s_arr h x 4 with
    | some e => match s_ix iv y e.2.2.1 with
      | some j => s_tag 3 v && (match h[v.2.2]? with
        | some w => Nat.beq w.1 0 && (Nat.beq e.2.1 6 && ih mi npc l r (h.set x.2.2 (4, 6, e.2.2.1, (j, v) :: e.2.2.2)) iv c n k)
        | none => false)
      | none => false
    | none => false
  | _ => false
def s_nar (ih : sF) (P : sP) (mi npc : Nat) (l : sL) (st : List sV) (h : List sE) (iv : sI) (c n : Nat) (k : sZ → Bool) (t : Nat) : Bool := match st with
  | x :: r => match s_ix iv x 100000 with
    | some j => s_new ih P mi npc l r h iv c n k (s_kd t, t, j, [])
    | none => false
  | [] => false
def s_thr (P : sP) (mi : Nat) (st : List sV) (h : List sE) (iv : sI) (c n : Nat) (k : sZ → Bool) (x : Nat) : Bool :=
  Nat.ble 6 (P.2.1 mi).2.1 && (Nat.ble (s_words st + 81) (P.2.1 mi).2.2.2.2.1 && (Nat.ble (c + 1) (P.2.1 mi).2.2.1 && (Nat.ble (n + 6) (P.2.1 mi).2.2.2.1 && k (x + 2, (2, 0, 0), h, iv))))
def s_ini (ih : sF) (P : sP) (mi npc : Nat) (l : sL) (st : List sV) (h : List sE) (iv : sI) (c n : Nat) (k : sZ → Bool) : Bool := match st with
  | x :: r => s_tag 3 x && (Nat.ble 1 (P.2.1 mi).2.1 && (Nat.ble (s_words r + 12) (P.2.1 mi).2.2.2.2.1 && ih mi npc l r h iv c n k))
  | [] => false
def s_ins (P : sP) (ih : sF) (mi pc : Nat) (l : sL) (st : List sV) (h : List sE) (iv : sI) (c n : Nat) (k : sZ → Bool) (ins : Instr) (npc : Nat) (info : List Nat) : Bool := match ins with
  | .iconst v => ih mi npc l ((0, v, 0) :: st) h iv c n k
  | .bipush v => ih mi npc l ((0, v, 0) :: st) h iv c n k
  | .sipush v => ih mi npc l ((0, v, 0) :: st) h iv c n k
  | .lconst v => ih mi npc l ((1, Int.ofNat v.val, 0) :: st) h iv c n k
  | .fconst _ => ih mi npc l ((5, 0, 0) :: st) h iv c n k
  | .dconst _ => ih mi npc l ((6, 0, 0) :: st) h iv c n k
  | .aconst_null => ih mi npc l ((2, 0, 0) :: st) h iv c n k
  | .ldc_w _ => match info with
    | 2 :: _ => ih mi npc l ((4, 0, 2) :: st) h iv c n k
    | _ => ih mi npc l ((0, s_int (info.take 2), 0) :: st) h iv c n k
  | .ldc _ => ih mi npc l ((0, s_int (info.take 2), 0) :: st) h iv c n k
  | .ldc2_w _ => ih mi npc l ((1, s_int (info.take 2), 0) :: st) h iv c n k
  | .iload i => s_load ih mi npc l st h iv c n k (s_tag 0) i
  | .iload_n i => s_load ih mi npc l st h iv c n k (s_tag 0) i.val
  | .lload i => s_load ih mi npc l st h iv c n k (s_tag 1) i
  | .lload_n i => s_load ih mi npc l st h iv c n k (s_tag 1) i.val
  | .aload i => s_load ih mi npc l st h iv c n k s_isA i
  | .aload_n i => s_load ih mi npc l st h iv c n k s_isA i.val
  | .istore i => s_sto ih P mi npc l st h iv c n k (s_tag 0) i
  | .istore_n i => s_sto ih P mi npc l st h iv c n k (s_tag 0) i.val
  | .astore i => s_sto ih P mi npc l st h iv c n k s_isA i
  | .astore_n i => s_sto ih P mi npc l st h iv c n k s_isA i.val
  | .fstore i => s_sto ih P mi npc l st h iv c n k (s_tag 5) i
  | .lstore i => s_sto2 ih P mi npc l st h iv c n k (s_tag 1) i
  | .lstore_n i => s_sto2 ih P mi npc l st h iv c n k (s_tag 1) i.val
  | .dstore i => s_sto2 ih P mi npc l st h iv c n k (s_tag 6) i
  | .iinc i d => match s_get l i with
    | some v => s_tag 0 v && (Nat.blt i (P.2.1 mi).1 && ih mi npc (s_put l i (0, v.2.1 + d, v.2.2)) st h iv c n k)
    | none => false
  | .dup => match st with
    | x :: r => Nat.beq (s_cat x) 1 && ih mi npc l (x :: x :: r) h iv c n k
    | [] => false
  | .pop => match st with
    | x :: r => Nat.beq (s_cat x) 1 && ih mi npc l r h iv c n k
    | [] => false
  | .dup_x1 => match st with
    | x :: y :: r => Nat.beq (s_cat x) 1 && (Nat.beq (s_cat y) 1 && ih mi npc l (x :: y :: x :: r) h iv c n k)
    | _ => false
  | .iadd => s_bin ih mi npc l st h iv c n k 0 s_add
  | .isub => s_bin ih mi npc l st h iv c n k 0 s_sub
  | .ladd => s_bin ih mi npc l st h iv c n k 1 s_add
  | .lmul => s_bin ih mi npc l st h iv c n k 1 s_mul
  | .i2l => match st with
    | x :: r => s_tag 0 x && (s_r32 iv x && ih mi npc l ((1, x.2) :: r) h iv c n k)
    | [] => false
  | .l2i => match st with
    | x :: r => s_tag 1 x && (s_r32 iv x && ih mi npc l ((0, x.2) :: r) h iv c n k)
    | [] => false
  | .i2c => s_i2c ih mi pc npc l st h iv c n k
  | .i2b => s_i2b ih mi pc npc l st h iv c n k
  | .iushr => s_ush ih mi pc npc l st h iv c n k
  | .ishr => s_shr ih mi npc l st h iv c n k
  | .iand => s_and ih mi npc l st h iv c n k
  | .lcmp => s_lcm ih P mi pc npc l st h iv c n k
  | .ifCond o _ => s_ifc ih mi pc npc l st h iv c n k o (s_tgt info)
  | .if_icmp o _ => s_icm ih mi pc npc l st h iv c n k o (s_tgt info)
  | .goto _ => ih mi (s_tgt info) l st h iv c n k
  | .tableswitch _ lo _ _ => s_tab ih mi pc l st h iv c n k lo info
  | .ifnull _ => s_nul ih mi npc l st h iv c n k (s_tgt info)
  | .ifnonnull _ => match st with
    | x :: r => match x.1 with
      | 2 => ih mi npc l r h iv c n k
      | 3 => ih mi (s_tgt info) l r h iv c n k
      | 4 => ih mi (s_tgt info) l r h iv c n k
      | _ => false
    | [] => false
  | .if_acmp .ne _ => s_acn ih mi npc l st h iv c n k
  | .if_acmp .eq _ => s_acn ih mi (s_tgt info) l st h iv c n k
  | .getfield _ => s_gf ih mi npc l st h iv c n k info
  | .putfield _ => s_pf ih mi npc l st h iv c n k info
  | .getstatic _ => match s_nth info 0 with
    | 1 => ih mi npc l ((4, 0, 1) :: st) h iv c n k
    | 2 => ih mi npc l ((0, 1, 0) :: st) h iv c n k
    | _ => false
  | .arraylength => s_len ih mi npc l st h iv c n k
  | .iaload => s_ial ih mi npc l st h iv c n k
  | .baload => s_bal ih mi npc l st h iv c n k
  | .laload => s_lal ih mi npc l st h iv c n k
  | .lastore => s_ast ih mi npc l st h iv c n k 2 4 3
  | .castore => s_ast ih mi npc l st h iv c n k 1 1 2
  | .bastore => s_ast ih mi npc l st h iv c n k 1 2 5
  | .aastore => s_aas ih mi npc l st h iv c n k
  | .newarray a => match s_at a with
    | some t => s_nar ih P mi npc l st h iv c n k t
    | none => false
  | .anewarray _ => s_nar ih P mi npc l st h iv c n k 6
  | .new _ => match s_nth info 0 with
    | 0 => s_new ih P mi npc l st h iv c n k (0, s_nth info 1, (P.2.2 (s_nth info 1)).length, P.2.2 (s_nth info 1))
    | _ => s_thr P mi st h iv c n k (s_nth info 1)
  | .invokespecial _ => match s_nth info 0 with
    | 0 => s_ini ih P mi npc l st h iv c n k
    | _ => s_call ih P mi pc npc l st h iv c n k (s_nth info 1) (s_nth info 2) (s_nth info 3)
  | .invokestatic _ => s_call ih P mi pc npc l st h iv c n k (s_nth info 1) (s_nth info 2) (s_nth info 3)
  | .invokevirtual _ => s_call ih P mi pc npc l st h iv c n k (s_nth info 1) (s_nth info 2) (s_nth info 3)
  | .invokeinterface _ _ => s_call ih P mi pc npc l st h iv c n k (s_nth info 1) (s_nth info 2) (s_nth info 3)
  | .ireturn => match s_nth info 0 with
    | 0 => s_ret P mi c n k st h iv (s_tag 0)
    | 1 => s_ret P mi c n k st h iv (s_fit iv 1)
    | 2 => s_ret P mi c n k st h iv (s_fit iv 2)
    | 5 => s_ret P mi c n k st h iv (s_fit iv 5)
    | _ => false
  | .lreturn => s_ret P mi c n k st h iv (s_tag 1)
  | .freturn => s_ret P mi c n k st h iv (s_tag 5)
  | .dreturn => s_ret P mi c n k st h iv (s_tag 6)
  | .areturn => s_ret P mi c n k st h iv s_isA
  | .return_ => match st with
    | [] => s_lim P mi c n && k (0, (2, 0, 0), h, iv)
    | _ => false
  | _ => false
def s_step (P : sP) (ih : sF) : sF := fun mi pc l st h iv c n k => match s_find (P.1 mi) pc with
  | some e => s_ins P ih mi pc l st h iv c n k e.2.1 e.2.2.1 e.2.2.2
  | none => false
noncomputable def s_chk (P : sP) (fuel : Nat) : sF := Nat.rec (motive := fun _ => sF) (fun _ _ _ _ _ _ _ _ _ => false) (fun _ ih => s_step P ih) fuel
theorem s_chk_s (P : sP) (d : Nat) : s_chk P (d + 1) = s_step P (s_chk P d) := rfl
end
section
/-! ===== BEGIN printed: names, fields, word lists, decode rows ===== -/
def RX0 : String := "Taperhall$Athlete"
def TX0 : u_T := fun k => match k with
  | 0 => ("Taperhall$Athlete", "number", "I", true)
  | 1 => ("Taperhall$Athlete", "squad", "I", true)
  | 2 => ("Taperhall$Athlete", "priority", "I", true)
  | 3 => ("Taperhall$Athlete", "body", "LTaperhall$Body;", true)
  | 4 => ("Taperhall$Athlete", "diary", "LTaperhall$Diary;", true)
  | 5 => ("Taperhall$Athlete", "log", "LTaperhall$Log;", true)
  | 6 => ("Taperhall$Athlete", "fits", "LTaperhall$Fits;", true)
  | 7 => ("Taperhall$Athlete", "ceiling", "I", false)
  | 8 => ("Taperhall$Athlete", "raced", "Z", false)
  | 9 => ("Taperhall$Athlete", "qualified", "Z", false)
  | _ => ("Taperhall$Athlete", "best", "I", false)
def tyX0 : Nat → FieldType := fun k => match k with
  | 0 => .int
  | 1 => .int
  | 2 => .int
  | 3 => .object "Taperhall$Body"
  | 4 => .object "Taperhall$Diary"
  | 5 => .object "Taperhall$Log"
  | 6 => .object "Taperhall$Fits"
  | 7 => .int
  | 8 => .boolean
  | 9 => .boolean
  | _ => .int
abbrev wsX00 : List Cond := u_ws RX0 TX0 11
theorem nmX0 : ∀ a, a < 11 → ∀ b, b < 11 → a ≠ b → (TX0 a).2.1 ≠ (TX0 b).2.1 := by decide +kernel
theorem tyX0_ok : ∀ k, k < 11 → parseFieldDescriptor (TX0 k).2.2.1 = some (tyX0 k) := by decide +kernel
abbrev cX0_init : ByteArray := prog_2_method_1_code
def yX0_init : MethodName := ⟨RX0, "<init>", "(IIILTaperhall$Body;)V"⟩
abbrev cX0_keepResult : ByteArray := prog_2_method_2_code
def yX0_keepResult : MethodName := ⟨RX0, "keepResult", "(IZ)V"⟩
def RX1 : String := "Taperhall$Body"
def TX1 : u_T := fun k => match k with
  | 0 => ("Taperhall$Body", "base", "I", true)
  | 1 => ("Taperhall$Body", "trace", "LTaperhall$Trace;", true)
  | 2 => ("Taperhall$Body", "tolerance", "I", false)
  | 3 => ("Taperhall$Body", "damage", "I", false)
  | 4 => ("Taperhall$Body", "step", "I", false)
  | 5 => ("Taperhall$Body", "illFrom", "I", false)
  | 6 => ("Taperhall$Body", "illUntil", "I", false)
  | 7 => ("Taperhall$Body", "backDay", "I", false)
  | 8 => ("Taperhall$Body", "backLoad", "I", false)
  | 9 => ("Taperhall$Body", "campLast", "I", false)
  | _ => ("Taperhall$Body", "campDays", "I", false)
def tyX1 : Nat → FieldType := fun k => match k with
  | 0 => .int
  | 1 => .object "Taperhall$Trace"
  | 2 => .int
  | 3 => .int
  | 4 => .int
  | 5 => .int
  | 6 => .int
  | 7 => .int
  | 8 => .int
  | 9 => .int
  | _ => .int
abbrev wsX10 : List Cond := u_ws RX1 TX1 11
theorem nmX1 : ∀ a, a < 11 → ∀ b, b < 11 → a ≠ b → (TX1 a).2.1 ≠ (TX1 b).2.1 := by decide +kernel
theorem tyX1_ok : ∀ k, k < 11 → parseFieldDescriptor (TX1 k).2.2.1 = some (tyX1 k) := by decide +kernel
abbrev cX1_init : ByteArray := prog_3_method_1_code
def yX1_init : MethodName := ⟨RX1, "<init>", "(III)V"⟩
abbrev cX1_live : ByteArray := prog_3_method_2_code
def yX1_live : MethodName := ⟨RX1, "live", "(I)Z"⟩
abbrev cX1_isIllOn : ByteArray := prog_3_method_3_code
def yX1_isIllOn : MethodName := ⟨RX1, "isIllOn", "(I)Z"⟩
abbrev cX1_illDaysFrom : ByteArray := prog_3_method_4_code
def yX1_illDaysFrom : MethodName := ⟨RX1, "illDaysFrom", "(I)I"⟩
abbrev cX1_sicken : ByteArray := prog_3_method_5_code
def yX1_sicken : MethodName := ⟨RX1, "sicken", "(II)V"⟩
abbrev cX1_isFitOn : ByteArray := prog_3_method_6_code
def yX1_isFitOn : MethodName := ⟨RX1, "isFitOn", "(I)Z"⟩
abbrev cX1_isBackOn : ByteArray := prog_3_method_7_code
def yX1_isBackOn : MethodName := ⟨RX1, "isBackOn", "(I)Z"⟩
abbrev cX1_canTrainOn : ByteArray := prog_3_method_8_code
def yX1_canTrainOn : MethodName := ⟨RX1, "canTrainOn", "(I)Z"⟩
abbrev cX1_tryStep : ByteArray := prog_3_method_9_code
def yX1_tryStep : MethodName := ⟨RX1, "tryStep", "(II)I"⟩
abbrev cX1_goToCamp : ByteArray := prog_3_method_10_code
def yX1_goToCamp : MethodName := ⟨RX1, "goToCamp", "(II)I"⟩
abbrev cX1_campGivesOn : ByteArray := prog_3_method_11_code
def yX1_campGivesOn : MethodName := ⟨RX1, "campGivesOn", "(I)I"⟩
abbrev cX1_readyOn : ByteArray := prog_3_method_12_code
def yX1_readyOn : MethodName := ⟨RX1, "readyOn", "(I)I"⟩
def RX2 : String := "Taperhall$Book"
def TX2 : u_T := fun k => match k with
  | _ => ("Taperhall$Book", "sessions", "Ljava/util/ArrayList;", true)
def tyX2 : Nat → FieldType := fun k => match k with
  | _ => .object "java/util/ArrayList"
abbrev wsX20 : List Cond := u_ws RX2 TX2 1
theorem nmX2 : ∀ a, a < 1 → ∀ b, b < 1 → a ≠ b → (TX2 a).2.1 ≠ (TX2 b).2.1 := by decide +kernel
theorem tyX2_ok : ∀ k, k < 1 → parseFieldDescriptor (TX2 k).2.2.1 = some (tyX2 k) := by decide +kernel
abbrev cX2_init : ByteArray := prog_4_method_1_code
def yX2_init : MethodName := ⟨RX2, "<init>", "()V"⟩
abbrev cX2_size : ByteArray := prog_4_method_2_code
def yX2_size : MethodName := ⟨RX2, "size", "()I"⟩
abbrev cX2_open : ByteArray := prog_4_method_3_code
def yX2_open : MethodName := ⟨RX2, "open", "()C"⟩
abbrev cX2_find : ByteArray := prog_4_method_4_code
def yX2_find : MethodName := ⟨RX2, "find", "(C)LTaperhall$Session;"⟩
abbrev cX2_sumIn : ByteArray := prog_4_method_5_code
def yX2_sumIn : MethodName := ⟨RX2, "sumIn", "(C)J"⟩
abbrev cX2_feltOf : ByteArray := prog_4_method_6_code
def yX2_feltOf : MethodName := ⟨RX2, "feltOf", "(C)I"⟩
abbrev cX2_isHard : ByteArray := prog_4_method_7_code
def yX2_isHard : MethodName := ⟨RX2, "isHard", "(C)Z"⟩
def RX3 : String := "Taperhall$Diary"
def TX3 : u_T := fun k => match k with
  | 0 => ("Taperhall$Diary", "letters", "[C", true)
  | 1 => ("Taperhall$Diary", "feltInAll", "[I", true)
  | _ => ("Taperhall$Diary", "feltOfSession", "[I", true)
def tyX3 : Nat → FieldType := fun k => match k with
  | 0 => .array .char
  | 1 => .array .int
  | _ => .array .int
abbrev wsX30 : List Cond := u_ws RX3 TX3 3
theorem nmX3 : ∀ a, a < 3 → ∀ b, b < 3 → a ≠ b → (TX3 a).2.1 ≠ (TX3 b).2.1 := by decide +kernel
theorem tyX3_ok : ∀ k, k < 3 → parseFieldDescriptor (TX3 k).2.2.1 = some (tyX3 k) := by decide +kernel
abbrev cX3_init : ByteArray := prog_5_method_1_code
def yX3_init : MethodName := ⟨RX3, "<init>", "()V"⟩
abbrev cX3_letterOn : ByteArray := prog_5_method_2_code
def yX3_letterOn : MethodName := ⟨RX3, "letterOn", "(I)C"⟩
abbrev cX3_feltOn : ByteArray := prog_5_method_3_code
def yX3_feltOn : MethodName := ⟨RX3, "feltOn", "(I)I"⟩
abbrev cX3_write : ByteArray := prog_5_method_4_code
def yX3_write : MethodName := ⟨RX3, "write", "(III)V"⟩
abbrev cX3_clearDay : ByteArray := prog_5_method_5_code
def yX3_clearDay : MethodName := ⟨RX3, "clearDay", "(I)V"⟩
abbrev cX3_copyInto : ByteArray := prog_5_method_6_code
def yX3_copyInto : MethodName := ⟨RX3, "copyInto", "([C)V"⟩
abbrev cX3_copyFrom : ByteArray := prog_5_method_7_code
def yX3_copyFrom : MethodName := ⟨RX3, "copyFrom", "([C)V"⟩
abbrev cX3_shiftInto : ByteArray := prog_5_method_8_code
def yX3_shiftInto : MethodName := ⟨RX3, "shiftInto", "([CII)V"⟩
abbrev cX3_countFrom : ByteArray := prog_5_method_9_code
def yX3_countFrom : MethodName := ⟨RX3, "countFrom", "(I)I"⟩
abbrev cX3_holdsFrom : ByteArray := prog_5_method_10_code
def yX3_holdsFrom : MethodName := ⟨RX3, "holdsFrom", "(IC)Z"⟩
abbrev cX3_sumFelt : ByteArray := prog_5_method_11_code
def yX3_sumFelt : MethodName := ⟨RX3, "sumFelt", "(I)J"⟩
abbrev cX3_busiestWeek : ByteArray := prog_5_method_12_code
def yX3_busiestWeek : MethodName := ⟨RX3, "busiestWeek", "([CLTaperhall$Book;I)I"⟩
abbrev cX3_loadOn : ByteArray := prog_5_method_13_code
def yX3_loadOn : MethodName := ⟨RX3, "loadOn", "([CILTaperhall$Book;I)I"⟩
def RX4 : String := "Taperhall$Fits"
def TX4 : u_T := fun k => match k with
  | 0 => ("Taperhall$Fits", "days", "[I", true)
  | 1 => ("Taperhall$Fits", "told", "[I", true)
  | 2 => ("Taperhall$Fits", "left", "[I", true)
  | 3 => ("Taperhall$Fits", "bases", "[J", true)
  | 4 => ("Taperhall$Fits", "faults", "[J", true)
  | 5 => ("Taperhall$Fits", "thought", "LTaperhall$Trace;", true)
  | 6 => ("Taperhall$Fits", "tests", "I", false)
  | 7 => ("Taperhall$Fits", "best", "I", false)
  | _ => ("Taperhall$Fits", "fresh", "Z", false)
def tyX4 : Nat → FieldType := fun k => match k with
  | 0 => .array .int
  | 1 => .array .int
  | 2 => .array .int
  | 3 => .array .long
  | 4 => .array .long
  | 5 => .object "Taperhall$Trace"
  | 6 => .int
  | 7 => .int
  | _ => .boolean
abbrev wsX40 : List Cond := u_ws RX4 TX4 9
theorem nmX4 : ∀ a, a < 9 → ∀ b, b < 9 → a ≠ b → (TX4 a).2.1 ≠ (TX4 b).2.1 := by decide +kernel
theorem tyX4_ok : ∀ k, k < 9 → parseFieldDescriptor (TX4 k).2.2.1 = some (tyX4 k) := by decide +kernel
abbrev cX4_init : ByteArray := prog_6_method_1_code
def yX4_init : MethodName := ⟨RX4, "<init>", "()V"⟩
abbrev cX4_keep : ByteArray := prog_6_method_2_code
def yX4_keep : MethodName := ⟨RX4, "keep", "(II)V"⟩
abbrev cX4_renew : ByteArray := prog_6_method_3_code
def yX4_renew : MethodName := ⟨RX4, "renew", "(LTaperhall$Diary;LTaperhall$Trace;)V"⟩
abbrev cX4_compare : ByteArray := prog_6_method_4_code
def yX4_compare : MethodName := ⟨RX4, "compare", "(LTaperhall$Diary;)V"⟩
abbrev cX4_isTestOf : ByteArray := prog_6_method_5_code
def yX4_isTestOf : MethodName := ⟨RX4, "isTestOf", "(II)Z"⟩
abbrev cX4_leave : ByteArray := prog_6_method_6_code
def yX4_leave : MethodName := ⟨RX4, "leave", "(II)V"⟩
abbrev cX4_judge : ByteArray := prog_6_method_7_code
def yX4_judge : MethodName := ⟨RX4, "judge", "(I)V"⟩
abbrev cX4_baseOf : ByteArray := prog_6_method_8_code
def yX4_baseOf : MethodName := ⟨RX4, "baseOf", "(I)J"⟩
abbrev cX4_faultOf : ByteArray := prog_6_method_9_code
def yX4_faultOf : MethodName := ⟨RX4, "faultOf", "(I)J"⟩
abbrev cX4_isRival : ByteArray := prog_6_method_10_code
def yX4_isRival : MethodName := ⟨RX4, "isRival", "(I)Z"⟩
abbrev cX4_countRivals : ByteArray := prog_6_method_11_code
def yX4_countRivals : MethodName := ⟨RX4, "countRivals", "()I"⟩
abbrev cX4_indexOf : ByteArray := prog_6_method_12_code
def yX4_indexOf : MethodName := ⟨RX4, "indexOf", "(I)I"⟩
def RX5 : String := "Taperhall$Log"
def TX5 : u_T := fun k => match k with
  | 0 => ("Taperhall$Log", "causes", "[C", true)
  | 1 => ("Taperhall$Log", "days", "[I", true)
  | _ => ("Taperhall$Log", "kept", "I", false)
def tyX5 : Nat → FieldType := fun k => match k with
  | 0 => .array .char
  | 1 => .array .int
  | _ => .int
abbrev wsX50 : List Cond := u_ws RX5 TX5 3
theorem nmX5 : ∀ a, a < 3 → ∀ b, b < 3 → a ≠ b → (TX5 a).2.1 ≠ (TX5 b).2.1 := by decide +kernel
theorem tyX5_ok : ∀ k, k < 3 → parseFieldDescriptor (TX5 k).2.2.1 = some (tyX5 k) := by decide +kernel
abbrev cX5_init : ByteArray := prog_7_method_1_code
def yX5_init : MethodName := ⟨RX5, "<init>", "()V"⟩
abbrev cX5_keep : ByteArray := prog_7_method_2_code
def yX5_keep : MethodName := ⟨RX5, "keep", "(CI)V"⟩
abbrev cX5_causeAt : ByteArray := prog_7_method_3_code
def yX5_causeAt : MethodName := ⟨RX5, "causeAt", "(I)C"⟩
abbrev cX5_dayAt : ByteArray := prog_7_method_4_code
def yX5_dayAt : MethodName := ⟨RX5, "dayAt", "(I)I"⟩
def RX6 : String := "Taperhall$Script"
def TX6 : u_T := fun k => match k with
  | 0 => ("Taperhall$Script", "typed", "[C", true)
  | 1 => ("Taperhall$Script", "days", "[C", true)
  | 2 => ("Taperhall$Script", "starts", "[I", true)
  | 3 => ("Taperhall$Script", "times", "[I", true)
  | 4 => ("Taperhall$Script", "length", "I", false)
  | _ => ("Taperhall$Script", "unfolded", "I", false)
def tyX6 : Nat → FieldType := fun k => match k with
  | 0 => .array .char
  | 1 => .array .char
  | 2 => .array .int
  | 3 => .array .int
  | 4 => .int
  | _ => .int
abbrev wsX60 : List Cond := u_ws RX6 TX6 6
theorem nmX6 : ∀ a, a < 6 → ∀ b, b < 6 → a ≠ b → (TX6 a).2.1 ≠ (TX6 b).2.1 := by decide +kernel
theorem tyX6_ok : ∀ k, k < 6 → parseFieldDescriptor (TX6 k).2.2.1 = some (tyX6 k) := by decide +kernel
abbrev cX6_init : ByteArray := prog_8_method_1_code
def yX6_init : MethodName := ⟨RX6, "<init>", "()V"⟩
abbrev cX6_append : ByteArray := prog_8_method_2_code
def yX6_append : MethodName := ⟨RX6, "append", "(C)I"⟩
abbrev cX6_clear : ByteArray := prog_8_method_3_code
def yX6_clear : MethodName := ⟨RX6, "clear", "()I"⟩
abbrev cX6_faultPlace : ByteArray := prog_8_method_4_code
def yX6_faultPlace : MethodName := ⟨RX6, "faultPlace", "(I)I"⟩
abbrev cX6_misfit : ByteArray := prog_8_method_5_code
def yX6_misfit : MethodName := ⟨RX6, "misfit", "(I)I"⟩
abbrev cX6_unfold : ByteArray := prog_8_method_6_code
def yX6_unfold : MethodName := ⟨RX6, "unfold", "()I"⟩
abbrev cX6_open : ByteArray := prog_8_method_7_code
def yX6_open : MethodName := ⟨RX6, "open", "(II)V"⟩
abbrev cX6_close : ByteArray := prog_8_method_8_code
def yX6_close : MethodName := ⟨RX6, "close", "(I)V"⟩
abbrev cX6_repeat : ByteArray := prog_8_method_9_code
def yX6_repeat : MethodName := ⟨RX6, "repeat", "(II)V"⟩
abbrev cX6_addDay : ByteArray := prog_8_method_10_code
def yX6_addDay : MethodName := ⟨RX6, "addDay", "(C)V"⟩
abbrev cX6_writeInto : ByteArray := prog_8_method_11_code
def yX6_writeInto : MethodName := ⟨RX6, "writeInto", "([CI)V"⟩
def RX7 : String := "Taperhall$Session"
def TX7 : u_T := fun k => match k with
  | 0 => ("Taperhall$Session", "sets", "I", false)
  | 1 => ("Taperhall$Session", "byZone", "I", false)
  | 2 => ("Taperhall$Session", "lessRest", "I", false)
  | 3 => ("Taperhall$Session", "weighted", "I", false)
  | _ => ("Taperhall$Session", "hard", "Z", false)
def tyX7 : Nat → FieldType := fun k => match k with
  | 0 => .int
  | 1 => .int
  | 2 => .int
  | 3 => .int
  | _ => .boolean
abbrev wsX70 : List Cond := u_ws RX7 TX7 5
theorem nmX7 : ∀ a, a < 5 → ∀ b, b < 5 → a ≠ b → (TX7 a).2.1 ≠ (TX7 b).2.1 := by decide +kernel
theorem tyX7_ok : ∀ k, k < 5 → parseFieldDescriptor (TX7 k).2.2.1 = some (tyX7 k) := by decide +kernel
abbrev cX7_init : ByteArray := prog_9_method_1_code
def yX7_init : MethodName := ⟨RX7, "<init>", "()V"⟩
abbrev cX7_addSet : ByteArray := prog_9_method_2_code
def yX7_addSet : MethodName := ⟨RX7, "addSet", "(III)I"⟩
abbrev cX7_sumIn : ByteArray := prog_9_method_3_code
def yX7_sumIn : MethodName := ⟨RX7, "sumIn", "(C)I"⟩
def RX8 : String := "Taperhall$Tapering"
def TX8 : u_T := fun k => match k with
  | 0 => ("Taperhall$Tapering", "loads", "[I", true)
  | 1 => ("Taperhall$Tapering", "start", "LTaperhall$Trace;", true)
  | 2 => ("Taperhall$Tapering", "trial", "LTaperhall$Trace;", true)
  | 3 => ("Taperhall$Tapering", "days", "I", false)
  | 4 => ("Taperhall$Tapering", "bestNumber", "I", false)
  | _ => ("Taperhall$Tapering", "bestLevel", "I", false)
def tyX8 : Nat → FieldType := fun k => match k with
  | 0 => .array .int
  | 1 => .object "Taperhall$Trace"
  | 2 => .object "Taperhall$Trace"
  | 3 => .int
  | 4 => .int
  | _ => .int
abbrev wsX80 : List Cond := u_ws RX8 TX8 6
theorem nmX8 : ∀ a, a < 6 → ∀ b, b < 6 → a ≠ b → (TX8 a).2.1 ≠ (TX8 b).2.1 := by decide +kernel
theorem tyX8_ok : ∀ k, k < 6 → parseFieldDescriptor (TX8 k).2.2.1 = some (tyX8 k) := by decide +kernel
abbrev cX8_init : ByteArray := prog_10_method_1_code
def yX8_init : MethodName := ⟨RX8, "<init>", "()V"⟩
abbrev cX8_begin : ByteArray := prog_10_method_2_code
def yX8_begin : MethodName := ⟨RX8, "begin", "(LTaperhall$Trace;I)V"⟩
abbrev cX8_expect : ByteArray := prog_10_method_3_code
def yX8_expect : MethodName := ⟨RX8, "expect", "(II)V"⟩
abbrev cX8_search : ByteArray := prog_10_method_4_code
def yX8_search : MethodName := ⟨RX8, "search", "()V"⟩
abbrev cX8_levelBy : ByteArray := prog_10_method_5_code
def yX8_levelBy : MethodName := ⟨RX8, "levelBy", "(I)I"⟩
abbrev cX8_digitOf : ByteArray := prog_10_method_6_code
def yX8_digitOf : MethodName := ⟨RX8, "digitOf", "(II)I"⟩
abbrev cX8_bestChoice : ByteArray := prog_10_method_7_code
def yX8_bestChoice : MethodName := ⟨RX8, "bestChoice", "(I)C"⟩
def RX9 : String := "Taperhall$Trace"
def TX9 : u_T := fun k => match k with
  | 0 => ("Taperhall$Trace", "formPace", "I", false)
  | 1 => ("Taperhall$Trace", "fatiguePace", "I", false)
  | 2 => ("Taperhall$Trace", "gain", "I", false)
  | 3 => ("Taperhall$Trace", "cost", "I", false)
  | 4 => ("Taperhall$Trace", "form", "I", false)
  | _ => ("Taperhall$Trace", "fatigue", "I", false)
def tyX9 : Nat → FieldType := fun k => match k with
  | 0 => .int
  | 1 => .int
  | 2 => .int
  | 3 => .int
  | 4 => .int
  | _ => .int
abbrev wsX90 : List Cond := u_ws RX9 TX9 6
theorem nmX9 : ∀ a, a < 6 → ∀ b, b < 6 → a ≠ b → (TX9 a).2.1 ≠ (TX9 b).2.1 := by decide +kernel
theorem tyX9_ok : ∀ k, k < 6 → parseFieldDescriptor (TX9 k).2.2.1 = some (tyX9 k) := by decide +kernel
abbrev cX9_init : ByteArray := prog_11_method_1_code
def yX9_init : MethodName := ⟨RX9, "<init>", "()V"⟩
abbrev cX9_begin : ByteArray := prog_11_method_2_code
def yX9_begin : MethodName := ⟨RX9, "begin", "(IILTaperhall$Trace;)V"⟩
abbrev cX9_reply : ByteArray := prog_11_method_3_code
def yX9_reply : MethodName := ⟨RX9, "reply", "(II)V"⟩
abbrev cX9_copyFrom : ByteArray := prog_11_method_4_code
def yX9_copyFrom : MethodName := ⟨RX9, "copyFrom", "(LTaperhall$Trace;)V"⟩
abbrev cX9_live : ByteArray := prog_11_method_5_code
def yX9_live : MethodName := ⟨RX9, "live", "(I)V"⟩
abbrev cX9_faded : ByteArray := prog_11_method_6_code
def yX9_faded : MethodName := ⟨RX9, "faded", "(II)I"⟩
abbrev cX9_level : ByteArray := prog_11_method_7_code
def yX9_level : MethodName := ⟨RX9, "level", "()I"⟩
def RX10 : String := "Taperhall"
def TX10 : u_T := fun k => match k with
  | 0 => ("Taperhall", "book", "LTaperhall$Book;", true)
  | 1 => ("Taperhall", "script", "LTaperhall$Script;", true)
  | 2 => ("Taperhall", "athletes", "Ljava/util/ArrayList;", true)
  | 3 => ("Taperhall", "draft", "[C", true)
  | 4 => ("Taperhall", "thought", "LTaperhall$Trace;", true)
  | 5 => ("Taperhall", "tapering", "LTaperhall$Tapering;", true)
  | 6 => ("Taperhall", "lanes", "I", false)
  | 7 => ("Taperhall", "today", "I", false)
  | 8 => ("Taperhall", "z", "I", false)
  | 9 => ("Taperhall", "error", "I", false)
  | _ => ("Taperhall", "standard", "I", false)
def tyX10 : Nat → FieldType := fun k => match k with
  | 0 => .object "Taperhall$Book"
  | 1 => .object "Taperhall$Script"
  | 2 => .object "java/util/ArrayList"
  | 3 => .array .char
  | 4 => .object "Taperhall$Trace"
  | 5 => .object "Taperhall$Tapering"
  | 6 => .int
  | 7 => .int
  | 8 => .int
  | 9 => .int
  | _ => .int
abbrev wsX100 : List Cond := u_ws RX10 TX10 11
theorem nmX10 : ∀ a, a < 11 → ∀ b, b < 11 → a ≠ b → (TX10 a).2.1 ≠ (TX10 b).2.1 := by decide +kernel
theorem tyX10_ok : ∀ k, k < 11 → parseFieldDescriptor (TX10 k).2.2.1 = some (tyX10 k) := by decide +kernel
abbrev cX10_init : ByteArray := prog_1_method_1_code
def yX10_init : MethodName := ⟨RX10, "<init>", "()V"⟩
abbrev cX10_session : ByteArray := prog_1_method_2_code
def yX10_session : MethodName := ⟨RX10, "session", "()C"⟩
abbrev cX10_set : ByteArray := prog_1_method_3_code
def yX10_set : MethodName := ⟨RX10, "set", "(CIII)I"⟩
abbrev cX10_load : ByteArray := prog_1_method_4_code
def yX10_load : MethodName := ⟨RX10, "load", "(CC)I"⟩
abbrev cX10_turn : ByteArray := prog_1_method_5_code
def yX10_turn : MethodName := ⟨RX10, "turn", "(ICC)J"⟩
abbrev cX10_type : ByteArray := prog_1_method_6_code
def yX10_type : MethodName := ⟨RX10, "type", "(C)I"⟩
abbrev cX10_wipe : ByteArray := prog_1_method_7_code
def yX10_wipe : MethodName := ⟨RX10, "wipe", "()I"⟩
abbrev cX10_fault : ByteArray := prog_1_method_8_code
def yX10_fault : MethodName := ⟨RX10, "fault", "()I"⟩
abbrev cX10_unfolds : ByteArray := prog_1_method_9_code
def yX10_unfolds : MethodName := ⟨RX10, "unfolds", "()I"⟩
abbrev cX10_athlete : ByteArray := prog_1_method_10_code
def yX10_athlete : MethodName := ⟨RX10, "athlete", "(IIIII)I"⟩
abbrev cX10_answers : ByteArray := prog_1_method_11_code
def yX10_answers : MethodName := ⟨RX10, "answers", "(IIII)I"⟩
abbrev cX10_setCeiling : ByteArray := prog_1_method_12_code
def yX10_setCeiling : MethodName := ⟨RX10, "setCeiling", "(II)I"⟩
abbrev cX10_plan : ByteArray := prog_1_method_13_code
def yX10_plan : MethodName := ⟨RX10, "plan", "(II)I"⟩
abbrev cX10_shift : ByteArray := prog_1_method_14_code
def yX10_shift : MethodName := ⟨RX10, "shift", "(III)I"⟩
abbrev cX10_drop : ByteArray := prog_1_method_15_code
def yX10_drop : MethodName := ⟨RX10, "drop", "(II)C"⟩
abbrev cX10_planned : ByteArray := prog_1_method_16_code
def yX10_planned : MethodName := ⟨RX10, "planned", "(II)C"⟩
abbrev cX10_felt : ByteArray := prog_1_method_17_code
def yX10_felt : MethodName := ⟨RX10, "felt", "(II)I"⟩
abbrev cX10_peak : ByteArray := prog_1_method_18_code
def yX10_peak : MethodName := ⟨RX10, "peak", "(I)I"⟩
abbrev cX10_setLanes : ByteArray := prog_1_method_19_code
def yX10_setLanes : MethodName := ⟨RX10, "setLanes", "(I)I"⟩
abbrev cX10_pass : ByteArray := prog_1_method_20_code
def yX10_pass : MethodName := ⟨RX10, "pass", "(I)I"⟩
abbrev cX10_body : ByteArray := prog_1_method_21_code
def yX10_body : MethodName := ⟨RX10, "body", "(IC)J"⟩
abbrev cX10_ill : ByteArray := prog_1_method_22_code
def yX10_ill : MethodName := ⟨RX10, "ill", "(II)I"⟩
abbrev cX10_comeBack : ByteArray := prog_1_method_23_code
def yX10_comeBack : MethodName := ⟨RX10, "comeBack", "(II)I"⟩
abbrev cX10_changes : ByteArray := prog_1_method_24_code
def yX10_changes : MethodName := ⟨RX10, "changes", "(I)I"⟩
abbrev cX10_cause : ByteArray := prog_1_method_25_code
def yX10_cause : MethodName := ⟨RX10, "cause", "(II)C"⟩
abbrev cX10_changeDay : ByteArray := prog_1_method_26_code
def yX10_changeDay : MethodName := ⟨RX10, "changeDay", "(II)I"⟩
abbrev cX10_camp : ByteArray := prog_1_method_27_code
def yX10_camp : MethodName := ⟨RX10, "camp", "(II)I"⟩
abbrev cX10_setError : ByteArray := prog_1_method_28_code
def yX10_setError : MethodName := ⟨RX10, "setError", "(I)I"⟩
abbrev cX10_test : ByteArray := prog_1_method_29_code
def yX10_test : MethodName := ⟨RX10, "test", "(I)I"⟩
abbrev cX10_rivals : ByteArray := prog_1_method_30_code
def yX10_rivals : MethodName := ⟨RX10, "rivals", "(I)I"⟩
abbrev cX10_fit : ByteArray := prog_1_method_31_code
def yX10_fit : MethodName := ⟨RX10, "fit", "(IIC)J"⟩
abbrev cX10_forecast : ByteArray := prog_1_method_32_code
def yX10_forecast : MethodName := ⟨RX10, "forecast", "(III)J"⟩
abbrev cX10_setStandard : ByteArray := prog_1_method_33_code
def yX10_setStandard : MethodName := ⟨RX10, "setStandard", "(I)I"⟩
abbrev cX10_race : ByteArray := prog_1_method_34_code
def yX10_race : MethodName := ⟨RX10, "race", "(I)I"⟩
abbrev cX10_isQualified : ByteArray := prog_1_method_35_code
def yX10_isQualified : MethodName := ⟨RX10, "isQualified", "(I)Z"⟩
abbrev cX10_best : ByteArray := prog_1_method_36_code
def yX10_best : MethodName := ⟨RX10, "best", "(I)I"⟩
abbrev cX10_selected : ByteArray := prog_1_method_37_code
def yX10_selected : MethodName := ⟨RX10, "selected", "(II)I"⟩
abbrev cX10_taper : ByteArray := prog_1_method_38_code
def yX10_taper : MethodName := ⟨RX10, "taper", "(III)J"⟩
abbrev cX10_taperAt : ByteArray := prog_1_method_39_code
def yX10_taperAt : MethodName := ⟨RX10, "taperAt", "(IIII)C"⟩
abbrev cX10_seed : ByteArray := prog_1_method_40_code
def yX10_seed : MethodName := ⟨RX10, "seed", "(I)I"⟩
abbrev cX10_today : ByteArray := prog_1_method_41_code
def yX10_today : MethodName := ⟨RX10, "today", "()I"⟩
abbrev cX10_checksum : ByteArray := prog_1_method_42_code
def yX10_checksum : MethodName := ⟨RX10, "checksum", "()J"⟩
abbrev cX10_fitShare : ByteArray := prog_1_method_43_code
def yX10_fitShare : MethodName := ⟨RX10, "fitShare", "()F"⟩
abbrev cX10_meanFelt : ByteArray := prog_1_method_44_code
def yX10_meanFelt : MethodName := ⟨RX10, "meanFelt", "()D"⟩
abbrev cX10_isSound : ByteArray := prog_1_method_45_code
def yX10_isSound : MethodName := ⟨RX10, "isSound", "()Z"⟩
abbrev cX10_known : ByteArray := prog_1_method_46_code
def yX10_known : MethodName := ⟨RX10, "known", "(I)LTaperhall$Athlete;"⟩
abbrev cX10_knownSession : ByteArray := prog_1_method_47_code
def yX10_knownSession : MethodName := ⟨RX10, "knownSession", "(C)LTaperhall$Session;"⟩
abbrev cX10_knownFit : ByteArray := prog_1_method_48_code
def yX10_knownFit : MethodName := ⟨RX10, "knownFit", "(LTaperhall$Fits;I)I"⟩
abbrev cX10_needRange : ByteArray := prog_1_method_49_code
def yX10_needRange : MethodName := ⟨RX10, "needRange", "(III)V"⟩
abbrev cX10_needUnit : ByteArray := prog_1_method_50_code
def yX10_needUnit : MethodName := ⟨RX10, "needUnit", "(C)V"⟩
abbrev cX10_needElement : ByteArray := prog_1_method_51_code
def yX10_needElement : MethodName := ⟨RX10, "needElement", "(II)V"⟩
abbrev cX10_needTaper : ByteArray := prog_1_method_52_code
def yX10_needTaper : MethodName := ⟨RX10, "needTaper", "(II)V"⟩
abbrev cX10_isTypable : ByteArray := prog_1_method_53_code
def yX10_isTypable : MethodName := ⟨RX10, "isTypable", "(C)Z"⟩
abbrev cX10_isSmallLetter : ByteArray := prog_1_method_54_code
def yX10_isSmallLetter : MethodName := ⟨RX10, "isSmallLetter", "(C)Z"⟩
abbrev cX10_isCount : ByteArray := prog_1_method_55_code
def yX10_isCount : MethodName := ⟨RX10, "isCount", "(C)Z"⟩
abbrev cX10_isStillPlanned : ByteArray := prog_1_method_56_code
def yX10_isStillPlanned : MethodName := ⟨RX10, "isStillPlanned", "(C)Z"⟩
abbrev cX10_busiestWeek : ByteArray := prog_1_method_57_code
def yX10_busiestWeek : MethodName := ⟨RX10, "busiestWeek", "(LTaperhall$Athlete;)I"⟩
abbrev cX10_adoptDraft : ByteArray := prog_1_method_58_code
def yX10_adoptDraft : MethodName := ⟨RX10, "adoptDraft", "(LTaperhall$Athlete;)V"⟩
abbrev cX10_goThroughDay : ByteArray := prog_1_method_59_code
def yX10_goThroughDay : MethodName := ⟨RX10, "goThroughDay", "()V"⟩
abbrev cX10_train : ByteArray := prog_1_method_60_code
def yX10_train : MethodName := ⟨RX10, "train", "(LTaperhall$Athlete;)V"⟩
abbrev cX10_countAheadOf : ByteArray := prog_1_method_61_code
def yX10_countAheadOf : MethodName := ⟨RX10, "countAheadOf", "(LTaperhall$Athlete;)I"⟩
abbrev cX10_wantsLane : ByteArray := prog_1_method_62_code
def yX10_wantsLane : MethodName := ⟨RX10, "wantsLane", "(LTaperhall$Athlete;)Z"⟩
abbrev cX10_goesAhead : ByteArray := prog_1_method_63_code
def yX10_goesAhead : MethodName := ⟨RX10, "goesAhead", "(LTaperhall$Athlete;LTaperhall$Athlete;)Z"⟩
abbrev cX10_recover : ByteArray := prog_1_method_64_code
def yX10_recover : MethodName := ⟨RX10, "recover", "(LTaperhall$Athlete;)V"⟩
abbrev cX10_mayCatch : ByteArray := prog_1_method_65_code
def yX10_mayCatch : MethodName := ⟨RX10, "mayCatch", "(LTaperhall$Athlete;)V"⟩
abbrev cX10_isSquadIll : ByteArray := prog_1_method_66_code
def yX10_isSquadIll : MethodName := ⟨RX10, "isSquadIll", "(I)Z"⟩
abbrev cX10_restOfDraw : ByteArray := prog_1_method_67_code
def yX10_restOfDraw : MethodName := ⟨RX10, "restOfDraw", "(I)I"⟩
abbrev cX10_formPaceOf : ByteArray := prog_1_method_68_code
def yX10_formPaceOf : MethodName := ⟨RX10, "formPaceOf", "(I)I"⟩
abbrev cX10_fatiguePaceOf : ByteArray := prog_1_method_69_code
def yX10_fatiguePaceOf : MethodName := ⟨RX10, "fatiguePaceOf", "(I)I"⟩
abbrev cX10_fitted : ByteArray := prog_1_method_70_code
def yX10_fitted : MethodName := ⟨RX10, "fitted", "(LTaperhall$Athlete;)LTaperhall$Fits;"⟩
abbrev cX10_livePlanned : ByteArray := prog_1_method_71_code
def yX10_livePlanned : MethodName := ⟨RX10, "livePlanned", "(LTaperhall$Diary;II)V"⟩
abbrev cX10_qualifiedAt : ByteArray := prog_1_method_72_code
def yX10_qualifiedAt : MethodName := ⟨RX10, "qualifiedAt", "(I)I"⟩
abbrev cX10_countBetterThan : ByteArray := prog_1_method_73_code
def yX10_countBetterThan : MethodName := ⟨RX10, "countBetterThan", "(LTaperhall$Athlete;)I"⟩
abbrev cX10_isBetter : ByteArray := prog_1_method_74_code
def yX10_isBetter : MethodName := ⟨RX10, "isBetter", "(LTaperhall$Athlete;LTaperhall$Athlete;)Z"⟩
abbrev cX10_searchTaper : ByteArray := prog_1_method_75_code
def yX10_searchTaper : MethodName := ⟨RX10, "searchTaper", "(LTaperhall$Athlete;II)V"⟩
def RX11 : String := "TaperhallModel$Athlete"
def TX11 : u_T := fun k => match k with
  | 0 => ("TaperhallModel$Athlete", "squad", "I", true)
  | 1 => ("TaperhallModel$Athlete", "priority", "I", true)
  | 2 => ("TaperhallModel$Athlete", "base", "I", true)
  | 3 => ("TaperhallModel$Athlete", "formPace", "I", true)
  | 4 => ("TaperhallModel$Athlete", "fatiguePace", "I", true)
  | 5 => ("TaperhallModel$Athlete", "gain", "I", false)
  | 6 => ("TaperhallModel$Athlete", "cost", "I", false)
  | 7 => ("TaperhallModel$Athlete", "tolerance", "I", false)
  | 8 => ("TaperhallModel$Athlete", "ceiling", "I", false)
  | 9 => ("TaperhallModel$Athlete", "planned", "[C", false)
  | 10 => ("TaperhallModel$Athlete", "done", "[I", true)
  | 11 => ("TaperhallModel$Athlete", "felt", "[I", true)
  | 12 => ("TaperhallModel$Athlete", "form", "J", false)
  | 13 => ("TaperhallModel$Athlete", "fatigue", "J", false)
  | 14 => ("TaperhallModel$Athlete", "damage", "J", false)
  | 15 => ("TaperhallModel$Athlete", "step", "I", false)
  | 16 => ("TaperhallModel$Athlete", "illTo", "I", false)
  | 17 => ("TaperhallModel$Athlete", "campLast", "I", false)
  | 18 => ("TaperhallModel$Athlete", "campDays", "I", false)
  | 19 => ("TaperhallModel$Athlete", "backOn", "I", false)
  | 20 => ("TaperhallModel$Athlete", "causes", "Ljava/util/ArrayList;", true)
  | 21 => ("TaperhallModel$Athlete", "causeDays", "Ljava/util/ArrayList;", true)
  | 22 => ("TaperhallModel$Athlete", "testDays", "Ljava/util/ArrayList;", true)
  | 23 => ("TaperhallModel$Athlete", "tests", "Ljava/util/ArrayList;", true)
  | 24 => ("TaperhallModel$Athlete", "isQualified", "Z", false)
  | 25 => ("TaperhallModel$Athlete", "hasBest", "Z", false)
  | _ => ("TaperhallModel$Athlete", "best", "I", false)
def tyX11 : Nat → FieldType := fun k => match k with
  | 0 => .int
  | 1 => .int
  | 2 => .int
  | 3 => .int
  | 4 => .int
  | 5 => .int
  | 6 => .int
  | 7 => .int
  | 8 => .int
  | 9 => .array .char
  | 10 => .array .int
  | 11 => .array .int
  | 12 => .long
  | 13 => .long
  | 14 => .long
  | 15 => .int
  | 16 => .int
  | 17 => .int
  | 18 => .int
  | 19 => .int
  | 20 => .object "java/util/ArrayList"
  | 21 => .object "java/util/ArrayList"
  | 22 => .object "java/util/ArrayList"
  | 23 => .object "java/util/ArrayList"
  | 24 => .boolean
  | 25 => .boolean
  | _ => .int
abbrev wsX110 : List Cond := u_ws RX11 TX11 27
theorem nmX11 : ∀ a, a < 27 → ∀ b, b < 27 → a ≠ b → (TX11 a).2.1 ≠ (TX11 b).2.1 := by decide +kernel
theorem tyX11_ok : ∀ k, k < 27 → parseFieldDescriptor (TX11 k).2.2.1 = some (tyX11 k) := by decide +kernel
abbrev cX11_init : ByteArray := prog_14_method_1_code
def yX11_init : MethodName := ⟨RX11, "<init>", "(IIIII)V"⟩
abbrev cX11_changes : ByteArray := prog_14_method_2_code
def yX11_changes : MethodName := ⟨RX11, "changes", "(CI)V"⟩
abbrev cX11_camp : ByteArray := prog_14_method_3_code
def yX11_camp : MethodName := ⟨RX11, "camp", "(I)I"⟩
abbrev cX11_ready : ByteArray := prog_14_method_4_code
def yX11_ready : MethodName := ⟨RX11, "ready", "(I)J"⟩
def RX12 : String := "TaperhallModel$Session"
def TX12 : u_T := fun k => match k with
  | _ => ("TaperhallModel$Session", "sets", "Ljava/util/ArrayList;", true)
def tyX12 : Nat → FieldType := fun k => match k with
  | _ => .object "java/util/ArrayList"
abbrev wsX120 : List Cond := u_ws RX12 TX12 1
theorem nmX12 : ∀ a, a < 1 → ∀ b, b < 1 → a ≠ b → (TX12 a).2.1 ≠ (TX12 b).2.1 := by decide +kernel
theorem tyX12_ok : ∀ k, k < 1 → parseFieldDescriptor (TX12 k).2.2.1 = some (tyX12 k) := by decide +kernel
abbrev cX12_init : ByteArray := prog_15_method_1_code
def yX12_init : MethodName := ⟨RX12, "<init>", "()V"⟩
abbrev cX12_load : ByteArray := prog_15_method_2_code
def yX12_load : MethodName := ⟨RX12, "load", "(C)I"⟩
abbrev cX12_felt : ByteArray := prog_15_method_3_code
def yX12_felt : MethodName := ⟨RX12, "felt", "()I"⟩
abbrev cX12_isHard : ByteArray := prog_15_method_4_code
def yX12_isHard : MethodName := ⟨RX12, "isHard", "()Z"⟩
def RX13 : String := "TaperhallModel"
def TX13 : u_T := fun k => match k with
  | 0 => ("TaperhallModel", "thrown", "I", false)
  | 1 => ("TaperhallModel", "sessions", "Ljava/util/ArrayList;", true)
  | 2 => ("TaperhallModel", "athletes", "Ljava/util/ArrayList;", true)
  | 3 => ("TaperhallModel", "typed", "Ljava/lang/StringBuilder;", true)
  | 4 => ("TaperhallModel", "today", "I", false)
  | 5 => ("TaperhallModel", "lanes", "I", false)
  | 6 => ("TaperhallModel", "error", "I", false)
  | 7 => ("TaperhallModel", "standard", "I", false)
  | _ => ("TaperhallModel", "z", "J", false)
def tyX13 : Nat → FieldType := fun k => match k with
  | 0 => .int
  | 1 => .object "java/util/ArrayList"
  | 2 => .object "java/util/ArrayList"
  | 3 => .object "java/lang/StringBuilder"
  | 4 => .int
  | 5 => .int
  | 6 => .int
  | 7 => .int
  | _ => .long
abbrev wsX130 : List Cond := u_ws RX13 TX13 9
theorem nmX13 : ∀ a, a < 9 → ∀ b, b < 9 → a ≠ b → (TX13 a).2.1 ≠ (TX13 b).2.1 := by decide +kernel
theorem tyX13_ok : ∀ k, k < 9 → parseFieldDescriptor (TX13 k).2.2.1 = some (tyX13 k) := by decide +kernel
abbrev cX13_in : ByteArray := prog_13_method_1_code
def yX13_in : MethodName := ⟨RX13, "in", "(JJJ)Z"⟩
abbrev cX13_init : ByteArray := prog_13_method_2_code
def yX13_init : MethodName := ⟨RX13, "<init>", "()V"⟩
abbrev cX13_thrown : ByteArray := prog_13_method_3_code
def yX13_thrown : MethodName := ⟨RX13, "thrown", "()I"⟩
abbrev cX13_rest : ByteArray := prog_13_method_4_code
def yX13_rest : MethodName := ⟨RX13, "rest", "(I)I"⟩
abbrev cX13_named : ByteArray := prog_13_method_5_code
def yX13_named : MethodName := ⟨RX13, "named", "(C)LTaperhallModel$Session;"⟩
abbrev cX13_isUnit : ByteArray := prog_13_method_6_code
def yX13_isUnit : MethodName := ⟨RX13, "isUnit", "(C)Z"⟩
abbrev cX13_feltBy : ByteArray := prog_13_method_7_code
def yX13_feltBy : MethodName := ⟨RX13, "feltBy", "(C)I"⟩
abbrev cX13_session : ByteArray := prog_13_method_8_code
def yX13_session : MethodName := ⟨RX13, "session", "()C"⟩
abbrev cX13_isPlanned : ByteArray := prog_13_method_9_code
def yX13_isPlanned : MethodName := ⟨RX13, "isPlanned", "(C)Z"⟩
abbrev cX13_set : ByteArray := prog_13_method_10_code
def yX13_set : MethodName := ⟨RX13, "set", "(CIII)I"⟩
abbrev cX13_load : ByteArray := prog_13_method_11_code
def yX13_load : MethodName := ⟨RX13, "load", "(CC)I"⟩
abbrev cX13_sum : ByteArray := prog_13_method_12_code
def yX13_sum : MethodName := ⟨RX13, "sum", "(C)J"⟩
abbrev cX13_turn : ByteArray := prog_13_method_13_code
def yX13_turn : MethodName := ⟨RX13, "turn", "(ICC)J"⟩
abbrev cX13_type : ByteArray := prog_13_method_14_code
def yX13_type : MethodName := ⟨RX13, "type", "(C)I"⟩
abbrev cX13_wipe : ByteArray := prog_13_method_15_code
def yX13_wipe : MethodName := ⟨RX13, "wipe", "()I"⟩
abbrev cX13_faultOf : ByteArray := prog_13_method_16_code
def yX13_faultOf : MethodName := ⟨RX13, "faultOf", "()I"⟩
abbrev cX13_unfolded : ByteArray := prog_13_method_17_code
def yX13_unfolded : MethodName := ⟨RX13, "unfolded", "()Ljava/util/ArrayList;"⟩
abbrev cX13_fault : ByteArray := prog_13_method_18_code
def yX13_fault : MethodName := ⟨RX13, "fault", "()I"⟩
abbrev cX13_unfolds : ByteArray := prog_13_method_19_code
def yX13_unfolds : MethodName := ⟨RX13, "unfolds", "()I"⟩
abbrev cX13_noAthlete : ByteArray := prog_13_method_20_code
def yX13_noAthlete : MethodName := ⟨RX13, "noAthlete", "(I)Z"⟩
abbrev cX13_athlete : ByteArray := prog_13_method_21_code
def yX13_athlete : MethodName := ⟨RX13, "athlete", "(IIIII)I"⟩
abbrev cX13_answers : ByteArray := prog_13_method_22_code
def yX13_answers : MethodName := ⟨RX13, "answers", "(IIII)I"⟩
abbrev cX13_peakOf : ByteArray := prog_13_method_23_code
def yX13_peakOf : MethodName := ⟨RX13, "peakOf", "(LTaperhallModel$Athlete;[C)I"⟩
abbrev cX13_setCeiling : ByteArray := prog_13_method_24_code
def yX13_setCeiling : MethodName := ⟨RX13, "setCeiling", "(II)I"⟩
abbrev cX13_copy : ByteArray := prog_13_method_25_code
def yX13_copy : MethodName := ⟨RX13, "copy", "([C)[C"⟩
abbrev cX13_plan : ByteArray := prog_13_method_26_code
def yX13_plan : MethodName := ⟨RX13, "plan", "(II)I"⟩
abbrev cX13_shift : ByteArray := prog_13_method_27_code
def yX13_shift : MethodName := ⟨RX13, "shift", "(III)I"⟩
abbrev cX13_drop : ByteArray := prog_13_method_28_code
def yX13_drop : MethodName := ⟨RX13, "drop", "(II)C"⟩
abbrev cX13_planned : ByteArray := prog_13_method_29_code
def yX13_planned : MethodName := ⟨RX13, "planned", "(II)C"⟩
abbrev cX13_felt : ByteArray := prog_13_method_30_code
def yX13_felt : MethodName := ⟨RX13, "felt", "(II)I"⟩
abbrev cX13_peak : ByteArray := prog_13_method_31_code
def yX13_peak : MethodName := ⟨RX13, "peak", "(I)I"⟩
abbrev cX13_setLanes : ByteArray := prog_13_method_32_code
def yX13_setLanes : MethodName := ⟨RX13, "setLanes", "(I)I"⟩
abbrev cX13_trains : ByteArray := prog_13_method_33_code
def yX13_trains : MethodName := ⟨RX13, "trains", "(LTaperhallModel$Athlete;)Z"⟩
abbrev cX13_isHard : ByteArray := prog_13_method_34_code
def yX13_isHard : MethodName := ⟨RX13, "isHard", "(LTaperhallModel$Athlete;)Z"⟩
abbrev cX13_ahead : ByteArray := prog_13_method_35_code
def yX13_ahead : MethodName := ⟨RX13, "ahead", "(I)I"⟩
abbrev cX13_day : ByteArray := prog_13_method_36_code
def yX13_day : MethodName := ⟨RX13, "day", "()V"⟩
abbrev cX13_pass : ByteArray := prog_13_method_37_code
def yX13_pass : MethodName := ⟨RX13, "pass", "(I)I"⟩
abbrev cX13_body : ByteArray := prog_13_method_38_code
def yX13_body : MethodName := ⟨RX13, "body", "(IC)J"⟩
abbrev cX13_ill : ByteArray := prog_13_method_39_code
def yX13_ill : MethodName := ⟨RX13, "ill", "(II)I"⟩
abbrev cX13_comeBack : ByteArray := prog_13_method_40_code
def yX13_comeBack : MethodName := ⟨RX13, "comeBack", "(II)I"⟩
abbrev cX13_changes : ByteArray := prog_13_method_41_code
def yX13_changes : MethodName := ⟨RX13, "changes", "(I)I"⟩
abbrev cX13_noChange : ByteArray := prog_13_method_42_code
def yX13_noChange : MethodName := ⟨RX13, "noChange", "(II)Z"⟩
abbrev cX13_cause : ByteArray := prog_13_method_43_code
def yX13_cause : MethodName := ⟨RX13, "cause", "(II)C"⟩
abbrev cX13_changeDay : ByteArray := prog_13_method_44_code
def yX13_changeDay : MethodName := ⟨RX13, "changeDay", "(II)I"⟩
abbrev cX13_camp : ByteArray := prog_13_method_45_code
def yX13_camp : MethodName := ⟨RX13, "camp", "(II)I"⟩
abbrev cX13_setError : ByteArray := prog_13_method_46_code
def yX13_setError : MethodName := ⟨RX13, "setError", "(I)I"⟩
abbrev cX13_test : ByteArray := prog_13_method_47_code
def yX13_test : MethodName := ⟨RX13, "test", "(I)I"⟩
abbrev cX13_by : ByteArray := prog_13_method_48_code
def yX13_by : MethodName := ⟨RX13, "by", "(LTaperhallModel$Athlete;III)J"⟩
abbrev cX13_fitted : ByteArray := prog_13_method_49_code
def yX13_fitted : MethodName := ⟨RX13, "fitted", "(LTaperhallModel$Athlete;II)[J"⟩
abbrev cX13_allFits : ByteArray := prog_13_method_50_code
def yX13_allFits : MethodName := ⟨RX13, "allFits", "(LTaperhallModel$Athlete;)Ljava/util/ArrayList;"⟩
abbrev cX13_bestOf : ByteArray := prog_13_method_51_code
def yX13_bestOf : MethodName := ⟨RX13, "bestOf", "(Ljava/util/ArrayList;)[J"⟩
abbrev cX13_rivalsOf : ByteArray := prog_13_method_52_code
def yX13_rivalsOf : MethodName := ⟨RX13, "rivalsOf", "(Ljava/util/ArrayList;)Ljava/util/ArrayList;"⟩
abbrev cX13_rivals : ByteArray := prog_13_method_53_code
def yX13_rivals : MethodName := ⟨RX13, "rivals", "(I)I"⟩
abbrev cX13_found : ByteArray := prog_13_method_54_code
def yX13_found : MethodName := ⟨RX13, "found", "(IIZ)[J"⟩
abbrev cX13_fit : ByteArray := prog_13_method_55_code
def yX13_fit : MethodName := ⟨RX13, "fit", "(IIC)J"⟩
abbrev cX13_forecast : ByteArray := prog_13_method_56_code
def yX13_forecast : MethodName := ⟨RX13, "forecast", "(III)J"⟩
abbrev cX13_setStandard : ByteArray := prog_13_method_57_code
def yX13_setStandard : MethodName := ⟨RX13, "setStandard", "(I)I"⟩
abbrev cX13_race : ByteArray := prog_13_method_58_code
def yX13_race : MethodName := ⟨RX13, "race", "(I)I"⟩
abbrev cX13_isQualified : ByteArray := prog_13_method_59_code
def yX13_isQualified : MethodName := ⟨RX13, "isQualified", "(I)Z"⟩
abbrev cX13_best : ByteArray := prog_13_method_60_code
def yX13_best : MethodName := ⟨RX13, "best", "(I)I"⟩
abbrev cX13_selected : ByteArray := prog_13_method_61_code
def yX13_selected : MethodName := ⟨RX13, "selected", "(II)I"⟩
abbrev cX13_tapered : ByteArray := prog_13_method_62_code
def yX13_tapered : MethodName := ⟨RX13, "tapered", "(LTaperhallModel$Athlete;III)J"⟩
abbrev cX13_bestTaper : ByteArray := prog_13_method_63_code
def yX13_bestTaper : MethodName := ⟨RX13, "bestTaper", "(LTaperhallModel$Athlete;II)I"⟩
abbrev cX13_noTaper : ByteArray := prog_13_method_64_code
def yX13_noTaper : MethodName := ⟨RX13, "noTaper", "(III)Z"⟩
abbrev cX13_taper : ByteArray := prog_13_method_65_code
def yX13_taper : MethodName := ⟨RX13, "taper", "(III)J"⟩
abbrev cX13_taperAt : ByteArray := prog_13_method_66_code
def yX13_taperAt : MethodName := ⟨RX13, "taperAt", "(IIII)C"⟩
abbrev cX13_seed : ByteArray := prog_13_method_67_code
def yX13_seed : MethodName := ⟨RX13, "seed", "(I)I"⟩
abbrev cX13_today : ByteArray := prog_13_method_68_code
def yX13_today : MethodName := ⟨RX13, "today", "()I"⟩
abbrev cX13_checksum : ByteArray := prog_13_method_69_code
def yX13_checksum : MethodName := ⟨RX13, "checksum", "()J"⟩
abbrev cX13_fitShare : ByteArray := prog_13_method_70_code
def yX13_fitShare : MethodName := ⟨RX13, "fitShare", "()F"⟩
abbrev cX13_meanFelt : ByteArray := prog_13_method_71_code
def yX13_meanFelt : MethodName := ⟨RX13, "meanFelt", "()D"⟩
abbrev cX13_isSound : ByteArray := prog_13_method_72_code
def yX13_isSound : MethodName := ⟨RX13, "isSound", "()Z"⟩
def RJx145de : String := "java/io/Serializable"
def TJx145de : u_T := fun k => match k with
  | _ => ("", "", "", false)
def tyJx145de : Nat → FieldType := fun k => match k with
  | _ => .int
abbrev wsJx145de0 : List Cond := u_ws RJx145de TJx145de 0
theorem nmJx145de : ∀ a, a < 0 → ∀ b, b < 0 → a ≠ b → (TJx145de a).2.1 ≠ (TJx145de b).2.1 := by decide +kernel
theorem tyJx145de_ok : ∀ k, k < 0 → parseFieldDescriptor (TJx145de k).2.2.1 = some (tyJx145de k) := by decide +kernel
def RJ5 : String := "java/lang/AbstractStringBuilder"
def TJ5 : u_T := fun k => match k with
  | _ => ("", "", "", false)
def tyJ5 : Nat → FieldType := fun k => match k with
  | _ => .int
abbrev wsJ50 : List Cond := u_ws RJ5 TJ5 0
theorem nmJ5 : ∀ a, a < 0 → ∀ b, b < 0 → a ≠ b → (TJ5 a).2.1 ≠ (TJ5 b).2.1 := by decide +kernel
theorem tyJ5_ok : ∀ k, k < 0 → parseFieldDescriptor (TJ5 k).2.2.1 = some (tyJ5 k) := by decide +kernel
abbrev cJ5_init_d00df : ByteArray := prog_17_method_2_code
def yJ5_init_d00df : MethodName := ⟨RJ5, "<init>", "(I)V"⟩
abbrev cJ5_length_8abf5 : ByteArray := prog_17_method_6_code
def yJ5_length_8abf5 : MethodName := ⟨RJ5, "length", "()I"⟩
abbrev cJ5_ensureCapacityInternal_d00df : ByteArray := prog_17_method_9_code
def yJ5_ensureCapacityInternal_d00df : MethodName := ⟨RJ5, "ensureCapacityInternal", "(I)V"⟩
abbrev cJ5_newCapacity_0f7a4 : ByteArray := prog_17_method_10_code
def yJ5_newCapacity_0f7a4 : MethodName := ⟨RJ5, "newCapacity", "(I)I"⟩
abbrev cJ5_inflate_da8c8 : ByteArray := prog_17_method_11_code
def yJ5_inflate_da8c8 : MethodName := ⟨RJ5, "inflate", "()V"⟩
abbrev cJ5_setLength_d00df : ByteArray := prog_17_method_13_code
def yJ5_setLength_d00df : MethodName := ⟨RJ5, "setLength", "(I)V"⟩
abbrev cJ5_charAt_5068e : ByteArray := prog_17_method_14_code
def yJ5_charAt_5068e : MethodName := ⟨RJ5, "charAt", "(I)C"⟩
abbrev cJ5_append_cf1ce : ByteArray := prog_17_method_22_code
def yJ5_append_cf1ce : MethodName := ⟨RJ5, "append", "(Ljava/lang/String;)Ljava/lang/AbstractStringBuilder;"⟩
abbrev cJ5_appendNull_278bc : ByteArray := prog_17_method_26_code
def yJ5_appendNull_278bc : MethodName := ⟨RJ5, "appendNull", "()Ljava/lang/AbstractStringBuilder;"⟩
abbrev cJ5_append_3fe6f : ByteArray := prog_17_method_31_code
def yJ5_append_3fe6f : MethodName := ⟨RJ5, "append", "(C)Ljava/lang/AbstractStringBuilder;"⟩
abbrev cJ5_append_c97b9 : ByteArray := prog_17_method_32_code
def yJ5_append_c97b9 : MethodName := ⟨RJ5, "append", "(I)Ljava/lang/AbstractStringBuilder;"⟩
abbrev cJ5_getValue_6d5f1 : ByteArray := prog_17_method_64_code
def yJ5_getValue_6d5f1 : MethodName := ⟨RJ5, "getValue", "()[B"⟩
abbrev cJ5_isLatin1_aae02 : ByteArray := prog_17_method_68_code
def yJ5_isLatin1_aae02 : MethodName := ⟨RJ5, "isLatin1", "()Z"⟩
abbrev cJ5_inflateIfNeededFor_a7421 : ByteArray := prog_17_method_71_code
def yJ5_inflateIfNeededFor_a7421 : MethodName := ⟨RJ5, "inflateIfNeededFor", "(Ljava/lang/String;)V"⟩
abbrev cJ5_putStringAt_47b60 : ByteArray := prog_17_method_73_code
def yJ5_putStringAt_47b60 : MethodName := ⟨RJ5, "putStringAt", "(ILjava/lang/String;)V"⟩
def RJx2cfe8 : String := "java/lang/Appendable"
def TJx2cfe8 : u_T := fun k => match k with
  | _ => ("", "", "", false)
def tyJx2cfe8 : Nat → FieldType := fun k => match k with
  | _ => .int
abbrev wsJx2cfe80 : List Cond := u_ws RJx2cfe8 TJx2cfe8 0
theorem nmJx2cfe8 : ∀ a, a < 0 → ∀ b, b < 0 → a ≠ b → (TJx2cfe8 a).2.1 ≠ (TJx2cfe8 b).2.1 := by decide +kernel
theorem tyJx2cfe8_ok : ∀ k, k < 0 → parseFieldDescriptor (TJx2cfe8 k).2.2.1 = some (tyJx2cfe8 k) := by decide +kernel
def RJx00060 : String := "java/lang/ArrayIndexOutOfBoundsException"
def TJx00060 : u_T := fun k => match k with
  | 0 => ("java/lang/Throwable", "backtrace", "Ljava/lang/Object;", false)
  | 1 => ("java/lang/Throwable", "detailMessage", "Ljava/lang/String;", false)
  | 2 => ("java/lang/Throwable", "cause", "Ljava/lang/Throwable;", false)
  | 3 => ("java/lang/Throwable", "stackTrace", "[Ljava/lang/StackTraceElement;", false)
  | 4 => ("java/lang/Throwable", "depth", "I", false)
  | _ => ("java/lang/Throwable", "suppressedExceptions", "Ljava/util/List;", false)
def tyJx00060 : Nat → FieldType := fun k => match k with
  | 0 => .object "java/lang/Object"
  | 1 => .object "java/lang/String"
  | 2 => .object "java/lang/Throwable"
  | 3 => .array (.object "java/lang/StackTraceElement")
  | 4 => .int
  | _ => .object "java/util/List"
abbrev wsJx000600 : List Cond := u_ws RJx00060 TJx00060 6
theorem nmJx00060 : ∀ a, a < 6 → ∀ b, b < 6 → a ≠ b → (TJx00060 a).2.1 ≠ (TJx00060 b).2.1 := by decide +kernel
theorem tyJx00060_ok : ∀ k, k < 6 → parseFieldDescriptor (TJx00060 k).2.2.1 = some (tyJx00060 k) := by decide +kernel
abbrev cJx00060_init_a7421 : ByteArray := prog_20_method_2_code
def yJx00060_init_a7421 : MethodName := ⟨RJx00060, "<init>", "(Ljava/lang/String;)V"⟩
abbrev cJx00060_init_d00df : ByteArray := prog_20_method_3_code
def yJx00060_init_d00df : MethodName := ⟨RJx00060, "<init>", "(I)V"⟩
def RJx9f9b0 : String := "java/lang/CharSequence"
def TJx9f9b0 : u_T := fun k => match k with
  | _ => ("", "", "", false)
def tyJx9f9b0 : Nat → FieldType := fun k => match k with
  | _ => .int
abbrev wsJx9f9b00 : List Cond := u_ws RJx9f9b0 TJx9f9b0 0
theorem nmJx9f9b0 : ∀ a, a < 0 → ∀ b, b < 0 → a ≠ b → (TJx9f9b0 a).2.1 ≠ (TJx9f9b0 b).2.1 := by decide +kernel
theorem tyJx9f9b0_ok : ∀ k, k < 0 → parseFieldDescriptor (TJx9f9b0 k).2.2.1 = some (tyJx9f9b0 k) := by decide +kernel
def RJx2885b : String := "java/lang/Character$CharacterCache"
def TJx2885b : u_T := fun k => match k with
  | _ => ("", "", "", false)
def tyJx2885b : Nat → FieldType := fun k => match k with
  | _ => .int
abbrev wsJx2885b0 : List Cond := u_ws RJx2885b TJx2885b 0
theorem nmJx2885b : ∀ a, a < 0 → ∀ b, b < 0 → a ≠ b → (TJx2885b a).2.1 ≠ (TJx2885b b).2.1 := by decide +kernel
theorem tyJx2885b_ok : ∀ k, k < 0 → parseFieldDescriptor (TJx2885b k).2.2.1 = some (tyJx2885b k) := by decide +kernel
def RJ11 : String := "java/lang/Character"
def TJ11 : u_T := fun k => match k with
  | _ => ("java/lang/Character", "value", "C", true)
def tyJ11 : Nat → FieldType := fun k => match k with
  | _ => .char
abbrev wsJ110 : List Cond := u_ws RJ11 TJ11 1
theorem nmJ11 : ∀ a, a < 1 → ∀ b, b < 1 → a ≠ b → (TJ11 a).2.1 ≠ (TJ11 b).2.1 := by decide +kernel
theorem tyJ11_ok : ∀ k, k < 1 → parseFieldDescriptor (TJ11 k).2.2.1 = some (tyJ11 k) := by decide +kernel
abbrev cJ11_init_060e9 : ByteArray := prog_22_method_2_code
def yJ11_init_060e9 : MethodName := ⟨RJ11, "<init>", "(C)V"⟩
abbrev cJ11_valueOf_f0083 : ByteArray := prog_22_method_3_code
def yJ11_valueOf_f0083 : MethodName := ⟨RJ11, "valueOf", "(C)Ljava/lang/Character;"⟩
abbrev cJ11_charValue_ee9a4 : ByteArray := prog_22_method_4_code
def yJ11_charValue_ee9a4 : MethodName := ⟨RJ11, "charValue", "()C"⟩
abbrev cJ11_isValidCodePoint_9a6ad : ByteArray := prog_22_method_11_code
def yJ11_isValidCodePoint_9a6ad : MethodName := ⟨RJ11, "isValidCodePoint", "(I)Z"⟩
abbrev cJ11_highSurrogate_5068e : ByteArray := prog_22_method_28_code
def yJ11_highSurrogate_5068e : MethodName := ⟨RJ11, "highSurrogate", "(I)C"⟩
abbrev cJ11_lowSurrogate_5068e : ByteArray := prog_22_method_29_code
def yJ11_lowSurrogate_5068e : MethodName := ⟨RJ11, "lowSurrogate", "(I)C"⟩
def RJx8e188 : String := "java/lang/Cloneable"
def TJx8e188 : u_T := fun k => match k with
  | _ => ("", "", "", false)
def tyJx8e188 : Nat → FieldType := fun k => match k with
  | _ => .int
abbrev wsJx8e1880 : List Cond := u_ws RJx8e188 TJx8e188 0
theorem nmJx8e188 : ∀ a, a < 0 → ∀ b, b < 0 → a ≠ b → (TJx8e188 a).2.1 ≠ (TJx8e188 b).2.1 := by decide +kernel
theorem tyJx8e188_ok : ∀ k, k < 0 → parseFieldDescriptor (TJx8e188 k).2.2.1 = some (tyJx8e188 k) := by decide +kernel
def RJxb160c : String := "java/lang/Comparable"
def TJxb160c : u_T := fun k => match k with
  | _ => ("", "", "", false)
def tyJxb160c : Nat → FieldType := fun k => match k with
  | _ => .int
abbrev wsJxb160c0 : List Cond := u_ws RJxb160c TJxb160c 0
theorem nmJxb160c : ∀ a, a < 0 → ∀ b, b < 0 → a ≠ b → (TJxb160c a).2.1 ≠ (TJxb160c b).2.1 := by decide +kernel
theorem tyJxb160c_ok : ∀ k, k < 0 → parseFieldDescriptor (TJxb160c k).2.2.1 = some (tyJxb160c k) := by decide +kernel
def RJxabbfe : String := "java/lang/Integer$IntegerCache"
def TJxabbfe : u_T := fun k => match k with
  | _ => ("", "", "", false)
def tyJxabbfe : Nat → FieldType := fun k => match k with
  | _ => .int
abbrev wsJxabbfe0 : List Cond := u_ws RJxabbfe TJxabbfe 0
theorem nmJxabbfe : ∀ a, a < 0 → ∀ b, b < 0 → a ≠ b → (TJxabbfe a).2.1 ≠ (TJxabbfe b).2.1 := by decide +kernel
theorem tyJxabbfe_ok : ∀ k, k < 0 → parseFieldDescriptor (TJxabbfe k).2.2.1 = some (tyJxabbfe k) := by decide +kernel
def RJ6 : String := "java/lang/Integer"
def TJ6 : u_T := fun k => match k with
  | _ => ("java/lang/Integer", "value", "I", true)
def tyJ6 : Nat → FieldType := fun k => match k with
  | _ => .int
abbrev wsJ60 : List Cond := u_ws RJ6 TJ6 1
theorem nmJ6 : ∀ a, a < 1 → ∀ b, b < 1 → a ≠ b → (TJ6 a).2.1 ≠ (TJ6 b).2.1 := by decide +kernel
theorem tyJ6_ok : ∀ k, k < 1 → parseFieldDescriptor (TJ6 k).2.2.1 = some (tyJ6 k) := by decide +kernel
abbrev cJ6_getChars_ba4f3 : ByteArray := prog_30_method_12_code
def yJ6_getChars_ba4f3 : MethodName := ⟨RJ6, "getChars", "(II[B)I"⟩
abbrev cJ6_stringSize_0f7a4 : ByteArray := prog_30_method_13_code
def yJ6_stringSize_0f7a4 : MethodName := ⟨RJ6, "stringSize", "(I)I"⟩
abbrev cJ6_valueOf_2dffe : ByteArray := prog_30_method_22_code
def yJ6_valueOf_2dffe : MethodName := ⟨RJ6, "valueOf", "(I)Ljava/lang/Integer;"⟩
abbrev cJ6_init_d00df : ByteArray := prog_30_method_23_code
def yJ6_init_d00df : MethodName := ⟨RJ6, "<init>", "(I)V"⟩
abbrev cJ6_intValue_8abf5 : ByteArray := prog_30_method_27_code
def yJ6_intValue_8abf5 : MethodName := ⟨RJ6, "intValue", "()I"⟩
def RJxab1ab : String := "java/lang/Iterable"
def TJxab1ab : u_T := fun k => match k with
  | _ => ("", "", "", false)
def tyJxab1ab : Nat → FieldType := fun k => match k with
  | _ => .int
abbrev wsJxab1ab0 : List Cond := u_ws RJxab1ab TJxab1ab 0
theorem nmJxab1ab : ∀ a, a < 0 → ∀ b, b < 0 → a ≠ b → (TJxab1ab a).2.1 ≠ (TJxab1ab b).2.1 := by decide +kernel
theorem tyJxab1ab_ok : ∀ k, k < 0 → parseFieldDescriptor (TJxab1ab k).2.2.1 = some (tyJxab1ab k) := by decide +kernel
def RJxdb0fc : String := "java/lang/Long$LongCache"
def TJxdb0fc : u_T := fun k => match k with
  | _ => ("", "", "", false)
def tyJxdb0fc : Nat → FieldType := fun k => match k with
  | _ => .int
abbrev wsJxdb0fc0 : List Cond := u_ws RJxdb0fc TJxdb0fc 0
theorem nmJxdb0fc : ∀ a, a < 0 → ∀ b, b < 0 → a ≠ b → (TJxdb0fc a).2.1 ≠ (TJxdb0fc b).2.1 := by decide +kernel
theorem tyJxdb0fc_ok : ∀ k, k < 0 → parseFieldDescriptor (TJxdb0fc k).2.2.1 = some (tyJxdb0fc k) := by decide +kernel
def RJ13 : String := "java/lang/Long"
def TJ13 : u_T := fun k => match k with
  | _ => ("java/lang/Long", "value", "J", true)
def tyJ13 : Nat → FieldType := fun k => match k with
  | _ => .long
abbrev wsJ130 : List Cond := u_ws RJ13 TJ13 1
theorem nmJ13 : ∀ a, a < 1 → ∀ b, b < 1 → a ≠ b → (TJ13 a).2.1 ≠ (TJ13 b).2.1 := by decide +kernel
theorem tyJ13_ok : ∀ k, k < 1 → parseFieldDescriptor (TJ13 k).2.2.1 = some (tyJ13 k) := by decide +kernel
abbrev cJ13_valueOf_928b6 : ByteArray := prog_33_method_24_code
def yJ13_valueOf_928b6 : MethodName := ⟨RJ13, "valueOf", "(J)Ljava/lang/Long;"⟩
abbrev cJ13_init_e45a9 : ByteArray := prog_33_method_26_code
def yJ13_init_e45a9 : MethodName := ⟨RJ13, "<init>", "(J)V"⟩
abbrev cJ13_longValue_f9912 : ByteArray := prog_33_method_31_code
def yJ13_longValue_f9912 : MethodName := ⟨RJ13, "longValue", "()J"⟩
def RJ9 : String := "java/lang/Math"
def TJ9 : u_T := fun k => match k with
  | _ => ("", "", "", false)
def tyJ9 : Nat → FieldType := fun k => match k with
  | _ => .int
abbrev wsJ90 : List Cond := u_ws RJ9 TJ9 0
theorem nmJ9 : ∀ a, a < 0 → ∀ b, b < 0 → a ≠ b → (TJ9 a).2.1 ≠ (TJ9 b).2.1 := by decide +kernel
theorem tyJ9_ok : ∀ k, k < 0 → parseFieldDescriptor (TJ9 k).2.2.1 = some (tyJ9 k) := by decide +kernel
abbrev cJ9_max_7cf53 : ByteArray := prog_35_method_65_code
def yJ9_max_7cf53 : MethodName := ⟨RJ9, "max", "(II)I"⟩
abbrev cJ9_min_7cf53 : ByteArray := prog_35_method_69_code
def yJ9_min_7cf53 : MethodName := ⟨RJ9, "min", "(II)I"⟩
def RJxd2413 : String := "java/lang/Number"
def TJxd2413 : u_T := fun k => match k with
  | _ => ("", "", "", false)
def tyJxd2413 : Nat → FieldType := fun k => match k with
  | _ => .int
abbrev wsJxd24130 : List Cond := u_ws RJxd2413 TJxd2413 0
theorem nmJxd2413 : ∀ a, a < 0 → ∀ b, b < 0 → a ≠ b → (TJxd2413 a).2.1 ≠ (TJxd2413 b).2.1 := by decide +kernel
theorem tyJxd2413_ok : ∀ k, k < 0 → parseFieldDescriptor (TJxd2413 k).2.2.1 = some (tyJxd2413 k) := by decide +kernel
abbrev cJxd2413_init_da8c8 : ByteArray := prog_36_method_1_code
def yJxd2413_init_da8c8 : MethodName := ⟨RJxd2413, "<init>", "()V"⟩
def RJ0 : String := "java/lang/String"
def TJ0 : u_T := fun k => match k with
  | 0 => ("java/lang/String", "value", "[B", true)
  | 1 => ("java/lang/String", "coder", "B", true)
  | 2 => ("java/lang/String", "hash", "I", false)
  | _ => ("java/lang/String", "hashIsZero", "Z", false)
def tyJ0 : Nat → FieldType := fun k => match k with
  | 0 => .array .byte
  | 1 => .byte
  | 2 => .int
  | _ => .boolean
abbrev wsJ00 : List Cond := u_ws RJ0 TJ0 4
theorem nmJ0 : ∀ a, a < 4 → ∀ b, b < 4 → a ≠ b → (TJ0 a).2.1 ≠ (TJ0 b).2.1 := by decide +kernel
theorem tyJ0_ok : ∀ k, k < 4 → parseFieldDescriptor (TJ0 k).2.2.1 = some (tyJ0 k) := by decide +kernel
abbrev cJ0_init_81219 : ByteArray := prog_38_method_53_code
def yJ0_init_81219 : MethodName := ⟨RJ0, "<init>", "(Ljava/lang/StringBuilder;)V"⟩
abbrev cJ0_length_8abf5 : ByteArray := prog_38_method_54_code
def yJ0_length_8abf5 : MethodName := ⟨RJ0, "length", "()I"⟩
abbrev cJ0_charAt_5068e : ByteArray := prog_38_method_56_code
def yJ0_charAt_5068e : MethodName := ⟨RJ0, "charAt", "(I)C"⟩
abbrev cJ0_indexOf_0f7a4 : ByteArray := prog_38_method_79_code
def yJ0_indexOf_0f7a4 : MethodName := ⟨RJ0, "indexOf", "(I)I"⟩
abbrev cJ0_indexOf_7cf53 : ByteArray := prog_38_method_80_code
def yJ0_indexOf_7cf53 : MethodName := ⟨RJ0, "indexOf", "(II)I"⟩
abbrev cJ0_getBytes_840e7 : ByteArray := prog_38_method_147_code
def yJ0_getBytes_840e7 : MethodName := ⟨RJ0, "getBytes", "([BIB)V"⟩
abbrev cJ0_init_db425 : ByteArray := prog_38_method_150_code
def yJ0_init_db425 : MethodName := ⟨RJ0, "<init>", "(Ljava/lang/AbstractStringBuilder;Ljava/lang/Void;)V"⟩
abbrev cJ0_coder_7d493 : ByteArray := prog_38_method_152_code
def yJ0_coder_7d493 : MethodName := ⟨RJ0, "coder", "()B"⟩
abbrev cJ0_isLatin1_aae02 : ByteArray := prog_38_method_154_code
def yJ0_isLatin1_aae02 : MethodName := ⟨RJ0, "isLatin1", "()Z"⟩
abbrev cJ0_checkIndex_df160 : ByteArray := prog_38_method_155_code
def yJ0_checkIndex_df160 : MethodName := ⟨RJ0, "checkIndex", "(II)V"⟩
abbrev cJ0_checkBoundsOffCount_cabcc : ByteArray := prog_38_method_157_code
def yJ0_checkBoundsOffCount_cabcc : MethodName := ⟨RJ0, "checkBoundsOffCount", "(III)I"⟩
abbrev cJ0_checkBoundsBeginEnd_23922 : ByteArray := prog_38_method_158_code
def yJ0_checkBoundsBeginEnd_23922 : MethodName := ⟨RJ0, "checkBoundsBeginEnd", "(III)V"⟩
def RJ4 : String := "java/lang/StringBuilder"
def TJ4 : u_T := fun k => match k with
  | 0 => ("java/lang/AbstractStringBuilder", "value", "[B", false)
  | 1 => ("java/lang/AbstractStringBuilder", "coder", "B", false)
  | 2 => ("java/lang/AbstractStringBuilder", "maybeLatin1", "Z", false)
  | _ => ("java/lang/AbstractStringBuilder", "count", "I", false)
def tyJ4 : Nat → FieldType := fun k => match k with
  | 0 => .array .byte
  | 1 => .byte
  | 2 => .boolean
  | _ => .int
abbrev wsJ40 : List Cond := u_ws RJ4 TJ4 4
theorem nmJ4 : ∀ a, a < 4 → ∀ b, b < 4 → a ≠ b → (TJ4 a).2.1 ≠ (TJ4 b).2.1 := by decide +kernel
theorem tyJ4_ok : ∀ k, k < 4 → parseFieldDescriptor (TJ4 k).2.2.1 = some (tyJ4 k) := by decide +kernel
abbrev cJ4_init_da8c8 : ByteArray := prog_39_method_1_code
def yJ4_init_da8c8 : MethodName := ⟨RJ4, "<init>", "()V"⟩
abbrev cJ4_append_15ec4 : ByteArray := prog_39_method_7_code
def yJ4_append_15ec4 : MethodName := ⟨RJ4, "append", "(Ljava/lang/String;)Ljava/lang/StringBuilder;"⟩
abbrev cJ4_append_cf468 : ByteArray := prog_39_method_14_code
def yJ4_append_cf468 : MethodName := ⟨RJ4, "append", "(C)Ljava/lang/StringBuilder;"⟩
abbrev cJ4_append_bf812 : ByteArray := prog_39_method_15_code
def yJ4_append_bf812 : MethodName := ⟨RJ4, "append", "(I)Ljava/lang/StringBuilder;"⟩
abbrev cJ4_toString_0e30d : ByteArray := prog_39_method_42_code
def yJ4_toString_0e30d : MethodName := ⟨RJ4, "toString", "()Ljava/lang/String;"⟩
abbrev cJ4_charAt_5068e : ByteArray := prog_39_method_88_code
def yJ4_charAt_5068e : MethodName := ⟨RJ4, "charAt", "(I)C"⟩
abbrev cJ4_setLength_d00df : ByteArray := prog_39_method_89_code
def yJ4_setLength_d00df : MethodName := ⟨RJ4, "setLength", "(I)V"⟩
abbrev cJ4_length_8abf5 : ByteArray := prog_39_method_93_code
def yJ4_length_8abf5 : MethodName := ⟨RJ4, "length", "()I"⟩
def RJx7c733 : String := "java/lang/StringIndexOutOfBoundsException"
def TJx7c733 : u_T := fun k => match k with
  | 0 => ("java/lang/Throwable", "backtrace", "Ljava/lang/Object;", false)
  | 1 => ("java/lang/Throwable", "detailMessage", "Ljava/lang/String;", false)
  | 2 => ("java/lang/Throwable", "cause", "Ljava/lang/Throwable;", false)
  | 3 => ("java/lang/Throwable", "stackTrace", "[Ljava/lang/StackTraceElement;", false)
  | 4 => ("java/lang/Throwable", "depth", "I", false)
  | _ => ("java/lang/Throwable", "suppressedExceptions", "Ljava/util/List;", false)
def tyJx7c733 : Nat → FieldType := fun k => match k with
  | 0 => .object "java/lang/Object"
  | 1 => .object "java/lang/String"
  | 2 => .object "java/lang/Throwable"
  | 3 => .array (.object "java/lang/StackTraceElement")
  | 4 => .int
  | _ => .object "java/util/List"
abbrev wsJx7c7330 : List Cond := u_ws RJx7c733 TJx7c733 6
theorem nmJx7c733 : ∀ a, a < 6 → ∀ b, b < 6 → a ≠ b → (TJx7c733 a).2.1 ≠ (TJx7c733 b).2.1 := by decide +kernel
theorem tyJx7c733_ok : ∀ k, k < 6 → parseFieldDescriptor (TJx7c733 k).2.2.1 = some (tyJx7c733 k) := by decide +kernel
abbrev cJx7c733_init_d00df : ByteArray := prog_40_method_3_code
def yJx7c733_init_d00df : MethodName := ⟨RJx7c733, "<init>", "(I)V"⟩
def RJ1 : String := "java/lang/StringLatin1"
def TJ1 : u_T := fun k => match k with
  | _ => ("", "", "", false)
def tyJ1 : Nat → FieldType := fun k => match k with
  | _ => .int
abbrev wsJ10 : List Cond := u_ws RJ1 TJ1 0
theorem nmJ1 : ∀ a, a < 0 → ∀ b, b < 0 → a ≠ b → (TJ1 a).2.1 ≠ (TJ1 b).2.1 := by decide +kernel
theorem tyJ1_ok : ∀ k, k < 0 → parseFieldDescriptor (TJ1 k).2.2.1 = some (tyJ1 k) := by decide +kernel
abbrev cJ1_charAt_3b067 : ByteArray := prog_41_method_2_code
def yJ1_charAt_3b067 : MethodName := ⟨RJ1, "charAt", "([BI)C"⟩
abbrev cJ1_canEncode_fc78d : ByteArray := prog_41_method_3_code
def yJ1_canEncode_fc78d : MethodName := ⟨RJ1, "canEncode", "(C)Z"⟩
abbrev cJ1_canEncode_9a6ad : ByteArray := prog_41_method_4_code
def yJ1_canEncode_9a6ad : MethodName := ⟨RJ1, "canEncode", "(I)Z"⟩
abbrev cJ1_indexOf_4cfef : ByteArray := prog_41_method_22_code
def yJ1_indexOf_4cfef : MethodName := ⟨RJ1, "indexOf", "([BIII)I"⟩
abbrev cJ1_indexOfChar_4cfef : ByteArray := prog_41_method_23_code
def yJ1_indexOfChar_4cfef : MethodName := ⟨RJ1, "indexOfChar", "([BIII)I"⟩
abbrev cJ1_fillNull_b72d1 : ByteArray := prog_41_method_48_code
def yJ1_fillNull_b72d1 : MethodName := ⟨RJ1, "fillNull", "([BII)V"⟩
abbrev cJ1_inflate_0e8fd : ByteArray := prog_41_method_50_code
def yJ1_inflate_0e8fd : MethodName := ⟨RJ1, "inflate", "([BI[BII)V"⟩
def RJ2 : String := "java/lang/StringUTF16"
def TJ2 : u_T := fun k => match k with
  | _ => ("", "", "", false)
def tyJ2 : Nat → FieldType := fun k => match k with
  | _ => .int
abbrev wsJ20 : List Cond := u_ws RJ2 TJ2 0
theorem nmJ2 : ∀ a, a < 0 → ∀ b, b < 0 → a ≠ b → (TJ2 a).2.1 ≠ (TJ2 b).2.1 := by decide +kernel
theorem tyJ2_ok : ∀ k, k < 0 → parseFieldDescriptor (TJ2 k).2.2.1 = some (tyJ2 k) := by decide +kernel
abbrev cJ2_newBytesFor_77867 : ByteArray := prog_42_method_2_code
def yJ2_newBytesFor_77867 : MethodName := ⟨RJ2, "newBytesFor", "(I)[B"⟩
abbrev cJ2_newBytesLength_0f7a4 : ByteArray := prog_42_method_3_code
def yJ2_newBytesLength_0f7a4 : MethodName := ⟨RJ2, "newBytesLength", "(I)I"⟩
abbrev cJ2_putChar_b72d1 : ByteArray := prog_42_method_4_code
def yJ2_putChar_b72d1 : MethodName := ⟨RJ2, "putChar", "([BII)V"⟩
abbrev cJ2_getChar_3b067 : ByteArray := prog_42_method_5_code
def yJ2_getChar_3b067 : MethodName := ⟨RJ2, "getChar", "([BI)C"⟩
abbrev cJ2_length_9d52b : ByteArray := prog_42_method_6_code
def yJ2_length_9d52b : MethodName := ⟨RJ2, "length", "([B)I"⟩
abbrev cJ2_coderFromArrayLen_85cad : ByteArray := prog_42_method_15_code
def yJ2_coderFromArrayLen_85cad : MethodName := ⟨RJ2, "coderFromArrayLen", "([BI)B"⟩
abbrev cJ2_compress_39247 : ByteArray := prog_42_method_17_code
def yJ2_compress_39247 : MethodName := ⟨RJ2, "compress", "([BII)[B"⟩
abbrev cJ2_compress_5af95 : ByteArray := prog_42_method_22_code
def yJ2_compress_5af95 : MethodName := ⟨RJ2, "compress", "([BI[BII)I"⟩
abbrev cJ2_indexOf_4cfef : ByteArray := prog_42_method_40_code
def yJ2_indexOf_4cfef : MethodName := ⟨RJ2, "indexOf", "([BIII)I"⟩
abbrev cJ2_indexOfChar_4cfef : ByteArray := prog_42_method_47_code
def yJ2_indexOfChar_4cfef : MethodName := ⟨RJ2, "indexOfChar", "([BIII)I"⟩
abbrev cJ2_indexOfCharUnsafe_4cfef : ByteArray := prog_42_method_48_code
def yJ2_indexOfCharUnsafe_4cfef : MethodName := ⟨RJ2, "indexOfCharUnsafe", "([BIII)I"⟩
abbrev cJ2_indexOfSupplementary_4cfef : ByteArray := prog_42_method_49_code
def yJ2_indexOfSupplementary_4cfef : MethodName := ⟨RJ2, "indexOfSupplementary", "([BIII)I"⟩
abbrev cJ2_fillNull_b72d1 : ByteArray := prog_42_method_70_code
def yJ2_fillNull_b72d1 : MethodName := ⟨RJ2, "fillNull", "([BII)V"⟩
abbrev cJ2_putCharSB_b72d1 : ByteArray := prog_42_method_71_code
def yJ2_putCharSB_b72d1 : MethodName := ⟨RJ2, "putCharSB", "([BII)V"⟩
abbrev cJ2_getChars_46870 : ByteArray := prog_42_method_77_code
def yJ2_getChars_46870 : MethodName := ⟨RJ2, "getChars", "(III[B)I"⟩
abbrev cJ2_putCharsAt_cd4e5 : ByteArray := prog_42_method_81_code
def yJ2_putCharsAt_cd4e5 : MethodName := ⟨RJ2, "putCharsAt", "([BICCCC)I"⟩
abbrev cJ2_charAt_3b067 : ByteArray := prog_42_method_83_code
def yJ2_charAt_3b067 : MethodName := ⟨RJ2, "charAt", "([BI)C"⟩
abbrev cJ2_inflate_0e8fd : ByteArray := prog_42_method_86_code
def yJ2_inflate_0e8fd : MethodName := ⟨RJ2, "inflate", "([BI[BII)V"⟩
abbrev cJ2_getChars_ba4f3 : ByteArray := prog_42_method_89_code
def yJ2_getChars_ba4f3 : MethodName := ⟨RJ2, "getChars", "(II[B)I"⟩
abbrev cJ2_checkIndex_2214a : ByteArray := prog_42_method_91_code
def yJ2_checkIndex_2214a : MethodName := ⟨RJ2, "checkIndex", "(I[B)V"⟩
abbrev cJ2_checkBoundsBeginEnd_d044e : ByteArray := prog_42_method_93_code
def yJ2_checkBoundsBeginEnd_d044e : MethodName := ⟨RJ2, "checkBoundsBeginEnd", "(II[B)V"⟩
abbrev cJ2_checkBoundsOffCount_d044e : ByteArray := prog_42_method_94_code
def yJ2_checkBoundsOffCount_d044e : MethodName := ⟨RJ2, "checkBoundsOffCount", "(II[B)V"⟩
def RJ10 : String := "java/lang/System"
def TJ10 : u_T := fun k => match k with
  | _ => ("", "", "", false)
def tyJ10 : Nat → FieldType := fun k => match k with
  | _ => .int
abbrev wsJ100 : List Cond := u_ws RJ10 TJ10 0
theorem nmJ10 : ∀ a, a < 0 → ∀ b, b < 0 → a ≠ b → (TJ10 a).2.1 ≠ (TJ10 b).2.1 := by decide +kernel
theorem tyJ10_ok : ∀ k, k < 0 → parseFieldDescriptor (TJ10 k).2.2.1 = some (tyJ10 k) := by decide +kernel
def RJxfd54e : String := "java/lang/constant/Constable"
def TJxfd54e : u_T := fun k => match k with
  | _ => ("", "", "", false)
def tyJxfd54e : Nat → FieldType := fun k => match k with
  | _ => .int
abbrev wsJxfd54e0 : List Cond := u_ws RJxfd54e TJxfd54e 0
theorem nmJxfd54e : ∀ a, a < 0 → ∀ b, b < 0 → a ≠ b → (TJxfd54e a).2.1 ≠ (TJxfd54e b).2.1 := by decide +kernel
theorem tyJxfd54e_ok : ∀ k, k < 0 → parseFieldDescriptor (TJxfd54e k).2.2.1 = some (tyJxfd54e k) := by decide +kernel
def RJx3cf43 : String := "java/lang/constant/ConstantDesc"
def TJx3cf43 : u_T := fun k => match k with
  | _ => ("", "", "", false)
def tyJx3cf43 : Nat → FieldType := fun k => match k with
  | _ => .int
abbrev wsJx3cf430 : List Cond := u_ws RJx3cf43 TJx3cf43 0
theorem nmJx3cf43 : ∀ a, a < 0 → ∀ b, b < 0 → a ≠ b → (TJx3cf43 a).2.1 ≠ (TJx3cf43 b).2.1 := by decide +kernel
theorem tyJx3cf43_ok : ∀ k, k < 0 → parseFieldDescriptor (TJx3cf43 k).2.2.1 = some (tyJx3cf43 k) := by decide +kernel
def RJxa1e45 : String := "java/util/AbstractCollection"
def TJxa1e45 : u_T := fun k => match k with
  | _ => ("", "", "", false)
def tyJxa1e45 : Nat → FieldType := fun k => match k with
  | _ => .int
abbrev wsJxa1e450 : List Cond := u_ws RJxa1e45 TJxa1e45 0
theorem nmJxa1e45 : ∀ a, a < 0 → ∀ b, b < 0 → a ≠ b → (TJxa1e45 a).2.1 ≠ (TJxa1e45 b).2.1 := by decide +kernel
theorem tyJxa1e45_ok : ∀ k, k < 0 → parseFieldDescriptor (TJxa1e45 k).2.2.1 = some (tyJxa1e45 k) := by decide +kernel
abbrev cJxa1e45_init_da8c8 : ByteArray := prog_48_method_1_code
def yJxa1e45_init_da8c8 : MethodName := ⟨RJxa1e45, "<init>", "()V"⟩
def RJxc12de : String := "java/util/AbstractList"
def TJxc12de : u_T := fun k => match k with
  | _ => ("", "", "", false)
def tyJxc12de : Nat → FieldType := fun k => match k with
  | _ => .int
abbrev wsJxc12de0 : List Cond := u_ws RJxc12de TJxc12de 0
theorem nmJxc12de : ∀ a, a < 0 → ∀ b, b < 0 → a ≠ b → (TJxc12de a).2.1 ≠ (TJxc12de b).2.1 := by decide +kernel
theorem tyJxc12de_ok : ∀ k, k < 0 → parseFieldDescriptor (TJxc12de k).2.2.1 = some (tyJxc12de k) := by decide +kernel
abbrev cJxc12de_init_da8c8 : ByteArray := prog_49_method_1_code
def yJxc12de_init_da8c8 : MethodName := ⟨RJxc12de, "<init>", "()V"⟩
def RJx35411 : String := "java/util/ArrayList$Itr"
def TJx35411 : u_T := fun k => match k with
  | 0 => ("java/util/ArrayList$Itr", "cursor", "I", false)
  | 1 => ("java/util/ArrayList$Itr", "lastRet", "I", false)
  | 2 => ("java/util/ArrayList$Itr", "expectedModCount", "I", false)
  | _ => ("java/util/ArrayList$Itr", "this$0", "Ljava/util/ArrayList;", true)
def tyJx35411 : Nat → FieldType := fun k => match k with
  | 0 => .int
  | 1 => .int
  | 2 => .int
  | _ => .object "java/util/ArrayList"
abbrev wsJx354110 : List Cond := u_ws RJx35411 TJx35411 4
theorem nmJx35411 : ∀ a, a < 4 → ∀ b, b < 4 → a ≠ b → (TJx35411 a).2.1 ≠ (TJx35411 b).2.1 := by decide +kernel
theorem tyJx35411_ok : ∀ k, k < 4 → parseFieldDescriptor (TJx35411 k).2.2.1 = some (tyJx35411 k) := by decide +kernel
abbrev cJx35411_init_45d68 : ByteArray := prog_51_method_1_code
def yJx35411_init_45d68 : MethodName := ⟨RJx35411, "<init>", "(Ljava/util/ArrayList;)V"⟩
abbrev cJx35411_hasNext_aae02 : ByteArray := prog_51_method_2_code
def yJx35411_hasNext_aae02 : MethodName := ⟨RJx35411, "hasNext", "()Z"⟩
abbrev cJx35411_next_0502b : ByteArray := prog_51_method_3_code
def yJx35411_next_0502b : MethodName := ⟨RJx35411, "next", "()Ljava/lang/Object;"⟩
abbrev cJx35411_checkForComodification_da8c8 : ByteArray := prog_51_method_6_code
def yJx35411_checkForComodification_da8c8 : MethodName := ⟨RJx35411, "checkForComodification", "()V"⟩
def RJx4a65c : String := "java/util/ArrayList"
def TJx4a65c : u_T := fun k => match k with
  | 0 => ("java/util/AbstractList", "modCount", "I", false)
  | 1 => ("java/util/ArrayList", "elementData", "[Ljava/lang/Object;", false)
  | _ => ("java/util/ArrayList", "size", "I", false)
def tyJx4a65c : Nat → FieldType := fun k => match k with
  | 0 => .int
  | 1 => .array (.object "java/lang/Object")
  | _ => .int
abbrev wsJx4a65c0 : List Cond := u_ws RJx4a65c TJx4a65c 3
theorem nmJx4a65c : ∀ a, a < 3 → ∀ b, b < 3 → a ≠ b → (TJx4a65c a).2.1 ≠ (TJx4a65c b).2.1 := by decide +kernel
theorem tyJx4a65c_ok : ∀ k, k < 3 → parseFieldDescriptor (TJx4a65c k).2.2.1 = some (tyJx4a65c k) := by decide +kernel
abbrev cJx4a65c_init_da8c8 : ByteArray := prog_50_method_2_code
def yJx4a65c_init_da8c8 : MethodName := ⟨RJx4a65c, "<init>", "()V"⟩
abbrev cJx4a65c_grow_92f84 : ByteArray := prog_50_method_6_code
def yJx4a65c_grow_92f84 : MethodName := ⟨RJx4a65c, "grow", "(I)[Ljava/lang/Object;"⟩
abbrev cJx4a65c_grow_d5877 : ByteArray := prog_50_method_7_code
def yJx4a65c_grow_d5877 : MethodName := ⟨RJx4a65c, "grow", "()[Ljava/lang/Object;"⟩
abbrev cJx4a65c_size_8abf5 : ByteArray := prog_50_method_8_code
def yJx4a65c_size_8abf5 : MethodName := ⟨RJx4a65c, "size", "()I"⟩
abbrev cJx4a65c_isEmpty_aae02 : ByteArray := prog_50_method_9_code
def yJx4a65c_isEmpty_aae02 : MethodName := ⟨RJx4a65c, "isEmpty", "()Z"⟩
abbrev cJx4a65c_toArray_d5877 : ByteArray := prog_50_method_16_code
def yJx4a65c_toArray_d5877 : MethodName := ⟨RJx4a65c, "toArray", "()[Ljava/lang/Object;"⟩
abbrev cJx4a65c_elementData_915e3 : ByteArray := prog_50_method_18_code
def yJx4a65c_elementData_915e3 : MethodName := ⟨RJx4a65c, "elementData", "(I)Ljava/lang/Object;"⟩
abbrev cJx4a65c_get_915e3 : ByteArray := prog_50_method_20_code
def yJx4a65c_get_915e3 : MethodName := ⟨RJx4a65c, "get", "(I)Ljava/lang/Object;"⟩
abbrev cJx4a65c_add_72be8 : ByteArray := prog_50_method_24_code
def yJx4a65c_add_72be8 : MethodName := ⟨RJx4a65c, "add", "(Ljava/lang/Object;[Ljava/lang/Object;I)V"⟩
abbrev cJx4a65c_add_9ea2d : ByteArray := prog_50_method_25_code
def yJx4a65c_add_9ea2d : MethodName := ⟨RJx4a65c, "add", "(Ljava/lang/Object;)Z"⟩
abbrev cJx4a65c_add_7a177 : ByteArray := prog_50_method_26_code
def yJx4a65c_add_7a177 : MethodName := ⟨RJx4a65c, "add", "(ILjava/lang/Object;)V"⟩
abbrev cJx4a65c_remove_915e3 : ByteArray := prog_50_method_29_code
def yJx4a65c_remove_915e3 : MethodName := ⟨RJx4a65c, "remove", "(I)Ljava/lang/Object;"⟩
abbrev cJx4a65c_fastRemove_b59b0 : ByteArray := prog_50_method_39_code
def yJx4a65c_fastRemove_b59b0 : MethodName := ⟨RJx4a65c, "fastRemove", "([Ljava/lang/Object;I)V"⟩
abbrev cJx4a65c_addAll_f0b43 : ByteArray := prog_50_method_41_code
def yJx4a65c_addAll_f0b43 : MethodName := ⟨RJx4a65c, "addAll", "(Ljava/util/Collection;)Z"⟩
abbrev cJx4a65c_rangeCheckForAdd_d00df : ByteArray := prog_50_method_45_code
def yJx4a65c_rangeCheckForAdd_d00df : MethodName := ⟨RJx4a65c, "rangeCheckForAdd", "(I)V"⟩
abbrev cJx4a65c_outOfBoundsMsg_b52d3 : ByteArray := prog_50_method_46_code
def yJx4a65c_outOfBoundsMsg_b52d3 : MethodName := ⟨RJx4a65c, "outOfBoundsMsg", "(I)Ljava/lang/String;"⟩
abbrev cJx4a65c_iterator_32c93 : ByteArray := prog_50_method_55_code
def yJx4a65c_iterator_32c93 : MethodName := ⟨RJx4a65c, "iterator", "()Ljava/util/Iterator;"⟩
def RJ7 : String := "java/util/Arrays"
def TJ7 : u_T := fun k => match k with
  | _ => ("", "", "", false)
def tyJ7 : Nat → FieldType := fun k => match k with
  | _ => .int
abbrev wsJ70 : List Cond := u_ws RJ7 TJ7 0
theorem nmJ7 : ∀ a, a < 0 → ∀ b, b < 0 → a ≠ b → (TJ7 a).2.1 ≠ (TJ7 b).2.1 := by decide +kernel
theorem tyJ7_ok : ∀ k, k < 0 → parseFieldDescriptor (TJ7 k).2.2.1 = some (tyJ7 k) := by decide +kernel
abbrev cJ7_rangeCheck_23922 : ByteArray := prog_52_method_30_code
def yJ7_rangeCheck_23922 : MethodName := ⟨RJ7, "rangeCheck", "(III)V"⟩
abbrev cJ7_fill_eb02e : ByteArray := prog_52_method_110_code
def yJ7_fill_eb02e : MethodName := ⟨RJ7, "fill", "([BIIB)V"⟩
abbrev cJ7_copyOf_1904c : ByteArray := prog_52_method_119_code
def yJ7_copyOf_1904c : MethodName := ⟨RJ7, "copyOf", "([Ljava/lang/Object;I)[Ljava/lang/Object;"⟩
abbrev cJ7_copyOf_6403c : ByteArray := prog_52_method_120_code
def yJ7_copyOf_6403c : MethodName := ⟨RJ7, "copyOf", "([Ljava/lang/Object;ILjava/lang/Class;)[Ljava/lang/Object;"⟩
abbrev cJ7_copyOf_9075b : ByteArray := prog_52_method_121_code
def yJ7_copyOf_9075b : MethodName := ⟨RJ7, "copyOf", "([BI)[B"⟩
abbrev cJ7_checkLength_df160 : ByteArray := prog_52_method_131_code
def yJ7_checkLength_df160 : MethodName := ⟨RJ7, "checkLength", "(II)V"⟩
abbrev cJ7_copyOfRange_39247 : ByteArray := prog_52_method_132_code
def yJ7_copyOfRange_39247 : MethodName := ⟨RJ7, "copyOfRange", "([BII)[B"⟩
abbrev cJ7_copyOfRangeByte_39247 : ByteArray := prog_52_method_133_code
def yJ7_copyOfRangeByte_39247 : MethodName := ⟨RJ7, "copyOfRangeByte", "([BII)[B"⟩
def RJx5ef63 : String := "java/util/Collection"
def TJx5ef63 : u_T := fun k => match k with
  | _ => ("", "", "", false)
def tyJx5ef63 : Nat → FieldType := fun k => match k with
  | _ => .int
abbrev wsJx5ef630 : List Cond := u_ws RJx5ef63 TJx5ef63 0
theorem nmJx5ef63 : ∀ a, a < 0 → ∀ b, b < 0 → a ≠ b → (TJx5ef63 a).2.1 ≠ (TJx5ef63 b).2.1 := by decide +kernel
theorem tyJx5ef63_ok : ∀ k, k < 0 → parseFieldDescriptor (TJx5ef63 k).2.2.1 = some (tyJx5ef63 k) := by decide +kernel
def RJx4d0d8 : String := "java/util/Iterator"
def TJx4d0d8 : u_T := fun k => match k with
  | _ => ("", "", "", false)
def tyJx4d0d8 : Nat → FieldType := fun k => match k with
  | _ => .int
abbrev wsJx4d0d80 : List Cond := u_ws RJx4d0d8 TJx4d0d8 0
theorem nmJx4d0d8 : ∀ a, a < 0 → ∀ b, b < 0 → a ≠ b → (TJx4d0d8 a).2.1 ≠ (TJx4d0d8 b).2.1 := by decide +kernel
theorem tyJx4d0d8_ok : ∀ k, k < 0 → parseFieldDescriptor (TJx4d0d8 k).2.2.1 = some (tyJx4d0d8 k) := by decide +kernel
def RJxbd725 : String := "java/util/List"
def TJxbd725 : u_T := fun k => match k with
  | _ => ("", "", "", false)
def tyJxbd725 : Nat → FieldType := fun k => match k with
  | _ => .int
abbrev wsJxbd7250 : List Cond := u_ws RJxbd725 TJxbd725 0
theorem nmJxbd725 : ∀ a, a < 0 → ∀ b, b < 0 → a ≠ b → (TJxbd725 a).2.1 ≠ (TJxbd725 b).2.1 := by decide +kernel
theorem tyJxbd725_ok : ∀ k, k < 0 → parseFieldDescriptor (TJxbd725 k).2.2.1 = some (tyJxbd725 k) := by decide +kernel
def RJ15 : String := "java/util/Objects"
def TJ15 : u_T := fun k => match k with
  | _ => ("", "", "", false)
def tyJ15 : Nat → FieldType := fun k => match k with
  | _ => .int
abbrev wsJ150 : List Cond := u_ws RJ15 TJ15 0
theorem nmJ15 : ∀ a, a < 0 → ∀ b, b < 0 → a ≠ b → (TJ15 a).2.1 ≠ (TJ15 b).2.1 := by decide +kernel
theorem tyJ15_ok : ∀ k, k < 0 → parseFieldDescriptor (TJ15 k).2.2.1 = some (tyJ15 k) := by decide +kernel
abbrev cJ15_checkIndex_7cf53 : ByteArray := prog_57_method_17_code
def yJ15_checkIndex_7cf53 : MethodName := ⟨RJ15, "checkIndex", "(II)I"⟩
def RJxf0a74 : String := "java/util/RandomAccess"
def TJxf0a74 : u_T := fun k => match k with
  | _ => ("", "", "", false)
def tyJxf0a74 : Nat → FieldType := fun k => match k with
  | _ => .int
abbrev wsJxf0a740 : List Cond := u_ws RJxf0a74 TJxf0a74 0
theorem nmJxf0a74 : ∀ a, a < 0 → ∀ b, b < 0 → a ≠ b → (TJxf0a74 a).2.1 ≠ (TJxf0a74 b).2.1 := by decide +kernel
theorem tyJxf0a74_ok : ∀ k, k < 0 → parseFieldDescriptor (TJxf0a74 k).2.2.1 = some (tyJxf0a74 k) := by decide +kernel
def RJxa66e6 : String := "java/util/SequencedCollection"
def TJxa66e6 : u_T := fun k => match k with
  | _ => ("", "", "", false)
def tyJxa66e6 : Nat → FieldType := fun k => match k with
  | _ => .int
abbrev wsJxa66e60 : List Cond := u_ws RJxa66e6 TJxa66e6 0
theorem nmJxa66e6 : ∀ a, a < 0 → ∀ b, b < 0 → a ≠ b → (TJxa66e6 a).2.1 ≠ (TJxa66e6 b).2.1 := by decide +kernel
theorem tyJxa66e6_ok : ∀ k, k < 0 → parseFieldDescriptor (TJxa66e6 k).2.2.1 = some (tyJxa66e6 k) := by decide +kernel
def RJ8 : String := "jdk/internal/util/ArraysSupport"
def TJ8 : u_T := fun k => match k with
  | _ => ("", "", "", false)
def tyJ8 : Nat → FieldType := fun k => match k with
  | _ => .int
abbrev wsJ80 : List Cond := u_ws RJ8 TJ8 0
theorem nmJ8 : ∀ a, a < 0 → ∀ b, b < 0 → a ≠ b → (TJ8 a).2.1 ≠ (TJ8 b).2.1 := by decide +kernel
theorem tyJ8_ok : ∀ k, k < 0 → parseFieldDescriptor (TJ8 k).2.2.1 = some (tyJ8 k) := by decide +kernel
abbrev cJ8_newLength_cabcc : ByteArray := prog_60_method_27_code
def yJ8_newLength_cabcc : MethodName := ⟨RJ8, "newLength", "(III)I"⟩
abbrev cJ8_hugeLength_7cf53 : ByteArray := prog_60_method_28_code
def yJ8_hugeLength_7cf53 : MethodName := ⟨RJ8, "hugeLength", "(II)I"⟩
def RJ3 : String := "jdk/internal/util/Preconditions"
def TJ3 : u_T := fun k => match k with
  | _ => ("", "", "", false)
def tyJ3 : Nat → FieldType := fun k => match k with
  | _ => .int
abbrev wsJ30 : List Cond := u_ws RJ3 TJ3 0
theorem nmJ3 : ∀ a, a < 0 → ∀ b, b < 0 → a ≠ b → (TJ3 a).2.1 ≠ (TJ3 b).2.1 := by decide +kernel
theorem tyJ3_ok : ∀ k, k < 0 → parseFieldDescriptor (TJ3 k).2.2.1 = some (tyJ3 k) := by decide +kernel
abbrev cJ3_checkIndex_8e157 : ByteArray := prog_61_method_11_code
def yJ3_checkIndex_8e157 : MethodName := ⟨RJ3, "checkIndex", "(IILjava/util/function/BiFunction;)I"⟩
abbrev cJ3_checkFromToIndex_8c36e : ByteArray := prog_61_method_12_code
def yJ3_checkFromToIndex_8c36e : MethodName := ⟨RJ3, "checkFromToIndex", "(IIILjava/util/function/BiFunction;)I"⟩
abbrev cJ3_checkFromIndexSize_8c36e : ByteArray := prog_61_method_13_code
def yJ3_checkFromIndexSize_8c36e : MethodName := ⟨RJ3, "checkFromIndexSize", "(IIILjava/util/function/BiFunction;)I"⟩
def RL : String := "TaperhallLaw"
abbrev cL_session : ByteArray := method_3_code
def yL_session : MethodName := ⟨RL, "session", "(LTaperhall;[J)I"⟩
abbrev cL_set : ByteArray := method_4_code
def yL_set : MethodName := ⟨RL, "set", "(LTaperhall;CIII[J)I"⟩
abbrev cL_load : ByteArray := method_5_code
def yL_load : MethodName := ⟨RL, "load", "(LTaperhall;CC[J)I"⟩
abbrev cL_turn : ByteArray := method_6_code
def yL_turn : MethodName := ⟨RL, "turn", "(LTaperhall;ICC[J)I"⟩
abbrev cL_type : ByteArray := method_7_code
def yL_type : MethodName := ⟨RL, "type", "(LTaperhall;C[J)I"⟩
abbrev cL_unfolds : ByteArray := method_8_code
def yL_unfolds : MethodName := ⟨RL, "unfolds", "(LTaperhall;[J)I"⟩
abbrev cL_athlete : ByteArray := method_9_code
def yL_athlete : MethodName := ⟨RL, "athlete", "(LTaperhall;IIIII[J)I"⟩
abbrev cL_answers : ByteArray := method_10_code
def yL_answers : MethodName := ⟨RL, "answers", "(LTaperhall;IIII[J)I"⟩
abbrev cL_setCeiling : ByteArray := method_11_code
def yL_setCeiling : MethodName := ⟨RL, "setCeiling", "(LTaperhall;II[J)I"⟩
abbrev cL_plan : ByteArray := method_12_code
def yL_plan : MethodName := ⟨RL, "plan", "(LTaperhall;II[J)I"⟩
abbrev cL_shift : ByteArray := method_13_code
def yL_shift : MethodName := ⟨RL, "shift", "(LTaperhall;III[J)I"⟩
abbrev cL_drop : ByteArray := method_14_code
def yL_drop : MethodName := ⟨RL, "drop", "(LTaperhall;II[J)I"⟩
abbrev cL_planned : ByteArray := method_15_code
def yL_planned : MethodName := ⟨RL, "planned", "(LTaperhall;II[J)I"⟩
abbrev cL_felt : ByteArray := method_16_code
def yL_felt : MethodName := ⟨RL, "felt", "(LTaperhall;II[J)I"⟩
abbrev cL_peak : ByteArray := method_17_code
def yL_peak : MethodName := ⟨RL, "peak", "(LTaperhall;I[J)I"⟩
abbrev cL_setLanes : ByteArray := method_18_code
def yL_setLanes : MethodName := ⟨RL, "setLanes", "(LTaperhall;I[J)I"⟩
abbrev cL_pass : ByteArray := method_19_code
def yL_pass : MethodName := ⟨RL, "pass", "(LTaperhall;I[J)I"⟩
abbrev cL_body : ByteArray := method_20_code
def yL_body : MethodName := ⟨RL, "body", "(LTaperhall;IC[J)I"⟩
abbrev cL_ill : ByteArray := method_21_code
def yL_ill : MethodName := ⟨RL, "ill", "(LTaperhall;II[J)I"⟩
abbrev cL_comeBack : ByteArray := method_22_code
def yL_comeBack : MethodName := ⟨RL, "comeBack", "(LTaperhall;II[J)I"⟩
abbrev cL_changes : ByteArray := method_23_code
def yL_changes : MethodName := ⟨RL, "changes", "(LTaperhall;I[J)I"⟩
abbrev cL_cause : ByteArray := method_24_code
def yL_cause : MethodName := ⟨RL, "cause", "(LTaperhall;II[J)I"⟩
abbrev cL_changeDay : ByteArray := method_25_code
def yL_changeDay : MethodName := ⟨RL, "changeDay", "(LTaperhall;II[J)I"⟩
abbrev cL_camp : ByteArray := method_26_code
def yL_camp : MethodName := ⟨RL, "camp", "(LTaperhall;II[J)I"⟩
abbrev cL_setError : ByteArray := method_27_code
def yL_setError : MethodName := ⟨RL, "setError", "(LTaperhall;I[J)I"⟩
abbrev cL_test : ByteArray := method_28_code
def yL_test : MethodName := ⟨RL, "test", "(LTaperhall;I[J)I"⟩
abbrev cL_rivals : ByteArray := method_29_code
def yL_rivals : MethodName := ⟨RL, "rivals", "(LTaperhall;I[J)I"⟩
abbrev cL_fit : ByteArray := method_30_code
def yL_fit : MethodName := ⟨RL, "fit", "(LTaperhall;IIC[J)I"⟩
abbrev cL_forecast : ByteArray := method_31_code
def yL_forecast : MethodName := ⟨RL, "forecast", "(LTaperhall;III[J)I"⟩
abbrev cL_setStandard : ByteArray := method_32_code
def yL_setStandard : MethodName := ⟨RL, "setStandard", "(LTaperhall;I[J)I"⟩
abbrev cL_race : ByteArray := method_33_code
def yL_race : MethodName := ⟨RL, "race", "(LTaperhall;I[J)I"⟩
abbrev cL_isQualified : ByteArray := method_34_code
def yL_isQualified : MethodName := ⟨RL, "isQualified", "(LTaperhall;I[J)I"⟩
abbrev cL_best : ByteArray := method_35_code
def yL_best : MethodName := ⟨RL, "best", "(LTaperhall;I[J)I"⟩
abbrev cL_selected : ByteArray := method_36_code
def yL_selected : MethodName := ⟨RL, "selected", "(LTaperhall;II[J)I"⟩
abbrev cL_taper : ByteArray := method_37_code
def yL_taper : MethodName := ⟨RL, "taper", "(LTaperhall;III[J)I"⟩
abbrev cL_taperAt : ByteArray := method_38_code
def yL_taperAt : MethodName := ⟨RL, "taperAt", "(LTaperhall;IIII[J)I"⟩
abbrev cL_seed : ByteArray := method_39_code
def yL_seed : MethodName := ⟨RL, "seed", "(LTaperhall;I[J)I"⟩
abbrev cL_fitShare : ByteArray := method_40_code
def yL_fitShare : MethodName := ⟨RL, "fitShare", "(LTaperhall;[D)I"⟩
abbrev cL_meanFelt : ByteArray := method_41_code
def yL_meanFelt : MethodName := ⟨RL, "meanFelt", "(LTaperhall;[D)I"⟩
abbrev cL_law : ByteArray := code
def yL_law : MethodName := ⟨RL, "law", "([I)Z"⟩
abbrev vwCl : List vw_C := [(RJ0, TJ0, 4), (RJ4, TJ4, 4), (RJ6, TJ6, 1), (RJ11, TJ11, 1), (RJ13, TJ13, 1), (RJx00060, TJx00060, 6), (RJx7c733, TJx7c733, 6), (RJx35411, TJx35411, 4), (RJx4a65c, TJx4a65c, 3), (RX0, TX0, 11), (RX1, TX1, 11), (RX2, TX2, 1), (RX3, TX3, 3), (RX4, TX4, 9), (RX5, TX5, 3), (RX6, TX6, 6), (RX7, TX7, 5), (RX8, TX8, 6), (RX9, TX9, 6), (RX10, TX10, 11), (RX11, TX11, 27), (RX12, TX12, 1), (RX13, TX13, 9)]
end
section
/-! WHAT THE DATA MEAN: ρ: the names' numbers; α: where the run's own cells lie; ξ: where the cells from before lie; tc: the classes of arrays -/
def s_v (ρ : Nat → Int) (α ξ : Nat → Nat) (x : sV) : Value := match x.1 with
  | 0 => .int (Int32.ofInt (ρ x.2.2 + x.2.1))
  | 1 => .long (Int64.ofInt (ρ x.2.2 + x.2.1))
  | 2 => .null
  | 3 => .ref (α x.2.2)
  | 4 => .ref (ξ x.2.2)
  | 5 => .float 0
  | 6 => .double 0
  | _ => .null
def s_i (ρ : Nat → Int) (x : sV) : Int32 := Int32.ofInt (ρ x.2.2 + x.2.1)
def s_l (ρ : Nat → Int) (x : sV) : Int64 := Int64.ofInt (ρ x.2.2 + x.2.1)
def s_q (α ξ : Nat → Nat) (x : sV) : Option Nat := match x.1 with
  | 3 => some (α x.2.2)
  | 4 => some (ξ x.2.2)
  | _ => none
def s_e (tc : Nat → ClassId) (ρ : Nat → Int) (α ξ : Nat → Nat) (e : sE) : va_E := match e.1 with
  | 0 => .inr (e.2.1, e.2.2.2.map (fun q => s_v ρ α ξ q.2))
  | 1 => .inl (tc e.2.1, e.2.2.1, .inl (fun j => s_i ρ (s_look e.2.2.2 j)))
  | 2 => .inl (tc e.2.1, e.2.2.1, .inr (.inl (fun j => s_l ρ (s_look e.2.2.2 j))))
  | 3 => .inl (tc e.2.1, e.2.2.1, .inr (.inr (.inr (.inl (fun _ => 0)))))
  | _ => .inl (tc e.2.1, e.2.2.1, .inr (.inr (.inr (.inr (fun j => s_q α ξ (s_look e.2.2.2 j))))))
def s_h (tc : Nat → ClassId) (ρ : Nat → Int) (α ξ : Nat → Nat) (h : List sE) : va_W := h.mapIdx (fun k e => (α k, s_e tc ρ α ξ e))
def s_ll (ρ : Nat → Int) (α ξ : Nat → Nat) (l : sL) : List (Nat × Value) := l.map (fun q => (q.1, s_v ρ α ξ q.2))
def s_in (ρ : Nat → Int) (iv : sI) : Prop := ∀ j : Nat, (iv.getD j (0, 0)).1 ≤ ρ j ∧ ρ j ≤ (iv.getD j (0, 0)).2
def s_n (ρ : Nat → Int) (x : sV) : Int := ρ x.2.2 + x.2.1
theorem s_ilt_iff {a b : Int} : s_ilt a b = true ↔ a < b := by
  unfold s_ilt s_pos
  constructor
  · intro h
    split at h
    · next m e =>
      have e2 : b - a = ((m + 1 : Nat) : Int) := e
      omega
    · cases h
  · intro h
    obtain ⟨m, hm⟩ : ∃ m : Nat, b - a = ((m + 1 : Nat) : Int) := ⟨(b - a - 1).toNat, by omega⟩
    rw [hm]
theorem s_ile_iff {a b : Int} : s_ile a b = true ↔ a ≤ b := by
  unfold s_ile
  rw [Bool.not_eq_true', Bool.eq_false_iff, ne_eq, s_ilt_iff, Int.not_lt]
theorem s_ilt_f {a b : Int} : s_ilt a b = false ↔ b ≤ a := by
  rw [Bool.eq_false_iff, ne_eq, s_ilt_iff, Int.not_lt]
theorem s_ile_f {a b : Int} : s_ile a b = false ↔ b < a := by
  rw [Bool.eq_false_iff, ne_eq, s_ile_iff, Int.not_le]
theorem s_in_b {ρ : Nat → Int} {iv : sI} (h : s_in ρ iv) (x : sV) : s_lo iv x ≤ s_n ρ x ∧ s_n ρ x ≤ s_hi iv x := by
  have := h x.2.2
  unfold s_lo s_hi s_n
  omega
theorem s_isk_v {ρ : Nat → Int} {iv : sI} (h : s_in ρ iv) {x : sV} (hk : s_isk iv x = true) : s_n ρ x = s_lo iv x := by
  have := s_in_b h x
  have := s_ile_iff.mp hk
  omega
theorem s_tag_iff {t : Nat} {x : sV} : s_tag t x = true ↔ x.1 = t := by
  unfold s_tag
  exact ⟨Nat.eq_of_beq_eq_true, fun h => by rw [h]; exact Nat.beq_refl t⟩
theorem s_dlt_v {ρ : Nat → Int} {iv : sI} (h : s_in ρ iv) {x y : sV} {b : Bool} (hd : s_dlt iv x y = some b) : (s_n ρ x < s_n ρ y) ↔ b = true := by
  have h1 := s_in_b h x
  have h2 := s_in_b h y
  unfold s_dlt at hd
  split at hd
  · next e => have := s_ilt_iff.mp e; cases hd; simp; omega
  · split at hd
    · next e => have := s_ile_iff.mp e; cases hd; simp; omega
    · cases hd
theorem s_deq_v {ρ : Nat → Int} {iv : sI} (h : s_in ρ iv) {x y : sV} {b : Bool} (hd : s_deq iv x y = some b) : (s_n ρ x = s_n ρ y) ↔ b = true := by
  have h1 := s_in_b h x
  have h2 := s_in_b h y
  unfold s_deq at hd
  split at hd
  · next e =>
    rw [Bool.or_eq_true, s_ilt_iff, s_ilt_iff] at e
    cases hd; simp; omega
  · next e =>
    rw [Bool.or_eq_false_iff, s_ilt_f, s_ilt_f] at e
    split at hd
    · next e2 =>
      rw [Bool.and_eq_true] at e2
      have a1 := s_ile_iff.mp e2.1
      have a2 := s_ile_iff.mp e2.2
      cases hd; simp; omega
    · cases hd
def s_ho (o : Jvm.ClassFile.Cond) (a b : Int) : Prop := match o with
  | .eq => a = b
  | .ne => ¬ a = b
  | .lt => a < b
  | .ge => b ≤ a
  | .gt => b < a
  | .le => a ≤ b
theorem s_not_v {d : Option Bool} {b : Bool} (h : s_not d = some b) : d = some (!b) := by
  unfold s_not at h
  split at h <;> cases h <;> rfl
theorem s_dec_v {ρ : Nat → Int} {iv : sI} (h : s_in ρ iv) {o : Jvm.ClassFile.Cond} {x y : sV} {b : Bool} (hd : s_dec o iv x y = some b) : s_ho o (s_n ρ x) (s_n ρ y) ↔ b = true := by
  cases o <;> simp only [s_dec] at hd <;> simp only [s_ho]
  · exact s_deq_v h hd
  · have := s_deq_v h (s_not_v hd); cases b <;> simp_all
  · exact s_dlt_v h hd
  · have := s_dlt_v h (s_not_v hd); cases b <;> simp_all <;> omega
  · exact s_dlt_v h hd
  · have := s_dlt_v h (s_not_v hd); cases b <;> simp_all <;> omega
theorem s_r32_v {ρ : Nat → Int} {iv : sI} (h : s_in ρ iv) {x : sV} (hr : s_r32 iv x = true) : (Int32.ofInt (s_n ρ x)).toInt = s_n ρ x := by
  have h1 := s_in_b h x
  unfold s_r32 at hr
  rw [Bool.and_eq_true, s_ile_iff, s_ile_iff] at hr
  exact Int32.toInt_ofInt_of_le (by show -(2:Int)^31 ≤ _; omega) (by show _ < (2:Int)^31; omega)
theorem s_r64_v {ρ : Nat → Int} {iv : sI} (h : s_in ρ iv) {x : sV} (hr : s_r64 iv x = true) : (Int64.ofInt (s_n ρ x)).toInt = s_n ρ x := by
  have h1 := s_in_b h x
  unfold s_r64 at hr
  rw [Bool.and_eq_true, s_ile_iff, s_ile_iff] at hr
  exact Int64.toInt_ofInt_of_le (by show -(2:Int)^63 ≤ _; omega) (by show _ < (2:Int)^63; omega)
theorem s_rg_v {ρ : Nat → Int} {iv : sI} (h : s_in ρ iv) {a b : Int} {x : sV} (hr : s_rg a b iv x = true) : a ≤ s_n ρ x ∧ s_n ρ x ≤ b := by
  have h1 := s_in_b h x
  unfold s_rg at hr
  rw [Bool.and_eq_true, s_ile_iff, s_ile_iff] at hr
  omega
theorem s_spl_v {ρ : Nat → Int} {iv : sI} (h : s_in ρ iv) (v : Nat) (q : Int) : s_in ρ (iv.set v ((iv.getD v (0, 0)).1, q - 1)) ∨ s_in ρ (iv.set v (q, (iv.getD v (0, 0)).2)) := by
  have key : ∀ z : Int × Int, z.1 ≤ ρ v ∧ ρ v ≤ z.2 → s_in ρ (iv.set v z) := by
    intro z hz j
    by_cases hj : v < iv.length
    · by_cases e : v = j
      · subst e
        simpa [List.getD_eq_getElem?_getD, List.getElem?_set_self hj] using hz
      · have := h j
        simpa [List.getD_eq_getElem?_getD, List.getElem?_set_ne e] using this
    · rw [List.set_eq_of_length_le (by omega)]
      exact h j
  have h0 := h v
  by_cases hq : ρ v < q
  · exact Or.inl (key _ ⟨h0.1, by show ρ v ≤ q - 1; omega⟩)
  · exact Or.inr (key _ ⟨by show q ≤ ρ v; omega, h0.2⟩)
theorem s_find_v {l : List sN} {pc : Nat} {e : sN} (h : s_find l pc = some e) : e ∈ l ∧ e.1 = pc := by
  induction l with
  | nil => cases h
  | cons a r ih =>
    unfold s_find at h
    split at h
    · next e2 =>
      cases h
      exact ⟨List.mem_cons_self, Nat.eq_of_beq_eq_true e2⟩
    · exact ⟨List.mem_cons_of_mem _ (ih h).1, (ih h).2⟩
theorem s_get_v {l : sL} {i : Nat} {v : sV} (h : s_get l i = some v) : (i, v) ∈ l := by
  induction l with
  | nil => cases h
  | cons a r ih =>
    unfold s_get at h
    split at h
    · next e2 =>
      cases h
      rw [← Nat.eq_of_beq_eq_true e2]
      exact List.mem_cons_self
    · exact List.mem_cons_of_mem _ (ih h)
theorem s_cat_v (ρ : Nat → Int) (α ξ : Nat → Nat) (x : sV) : (s_v ρ α ξ x).category = s_cat x := by
  obtain ⟨t, c, n⟩ := x
  unfold s_v s_cat
  dsimp only
  split <;> first | rfl | (split <;> first | rfl | simp_all)
theorem s_cat_12 (x : sV) : s_cat x = 1 ∨ s_cat x = 2 := by
  unfold s_cat
  split
  · exact Or.inr rfl
  · exact Or.inr rfl
  · exact Or.inl rfl
theorem s_ll_get {ρ : Nat → Int} {α ξ : Nat → Nat} {l : sL} {i : Nat} {v : sV} (h : s_get l i = some v) {ls : Array Slot} {n : Nat} (hl : lv_has ls n (s_ll ρ α ξ l)) : ls[i]? = some (.val (s_v ρ α ξ v)) :=
  hl.2.2 (i, s_v ρ α ξ v) (List.mem_map.mpr ⟨(i, v), s_get_v h, rfl⟩)
theorem s_ll_put (ρ : Nat → Int) (α ξ : Nat → Nat) (l : sL) (i : Nat) (x : sV) : (i, s_v ρ α ξ x) :: (s_ll ρ α ξ l).filter (fun q => !(q.1 == i) && !(q.1 + 1 == i && q.2.category == 2)) = s_ll ρ α ξ (s_put l i x) := by
  unfold s_ll s_put
  rw [List.map_cons, List.filter_map]
  congr 2
  apply List.filter_congr
  intro q _
  simp only [Function.comp, s_cat_v]
theorem s_ll_put2 (ρ : Nat → Int) (α ξ : Nat → Nat) (l : sL) (i : Nat) (x : sV) : (i, s_v ρ α ξ x) :: (s_ll ρ α ξ l).filter (fun q => !(q.1 == i) && (!(q.1 == i + 1) && !(q.1 + 1 == i && q.2.category == 2))) = s_ll ρ α ξ (s_put2 l i x) := by
  unfold s_ll s_put2
  rw [List.map_cons, List.filter_map]
  congr 2
  apply List.filter_congr
  intro q _
  simp only [Function.comp, s_cat_v]
theorem s_ll_args (ρ : Nat → Int) (α ξ : Nat → Nat) (i : Nat) (vs : List sV) : lv_args i (vs.map (s_v ρ α ξ)) = s_ll ρ α ξ (s_args i vs) := by
  induction vs generalizing i with
  | nil => rfl
  | cons a r ih =>
    simp only [List.map_cons, lv_args, s_args, s_ll, s_cat_v]
    rw [ih]
    have : (if s_cat a = 2 then i + 2 else i + 1) = i + s_cat a := by
      rcases s_cat_12 a with h | h <;> simp [h]
    rw [this]
    rfl
theorem s_h_get {tc : Nat → ClassId} {ρ : Nat → Int} {α ξ : Nat → Nat} {h : List sE} {k : Nat} {e : sE} (hk : h[k]? = some e) : (s_h tc ρ α ξ h)[k]? = some (α k, s_e tc ρ α ξ e) := by
  unfold s_h
  rw [List.getElem?_mapIdx, hk]
  rfl
theorem s_h_set (tc : Nat → ClassId) (ρ : Nat → Int) (α ξ : Nat → Nat) (h : List sE) (k : Nat) (e : sE) : (s_h tc ρ α ξ h).set k (α k, s_e tc ρ α ξ e) = s_h tc ρ α ξ (h.set k e) := by
  unfold s_h
  apply List.ext_getElem?
  intro j
  rw [List.getElem?_mapIdx, List.getElem?_set, List.getElem?_set, List.length_mapIdx]
  by_cases e1 : k = j
  · subst e1
    by_cases e2 : k < h.length
    · simp [e2]
    · simp [e2]
  · simp [e1, List.getElem?_mapIdx]
theorem s_h_app (tc : Nat → ClassId) (ρ : Nat → Int) (α ξ : Nat → Nat) (h : List sE) (e : sE) : s_h tc ρ α ξ (h ++ [e]) = s_h tc ρ α ξ h ++ [(α h.length, s_e tc ρ α ξ e)] := by
  unfold s_h
  rw [List.mapIdx_append]
  simp
def s_ag (α α' : Nat → Nat) (b : Nat) : Prop := ∀ j : Nat, j < b → α' j = α j
theorem s_okV_v {ρ : Nat → Int} {α α' ξ : Nat → Nat} {b : Nat} (ha : s_ag α α' b) {x : sV} (h : s_okV b x = true) : s_v ρ α' ξ x = s_v ρ α ξ x ∧ s_q α' ξ x = s_q α ξ x := by
  obtain ⟨t, c, n⟩ := x
  unfold s_okV at h
  unfold s_v s_q
  dsimp only at h ⊢
  split at h
  · have h2 : α' n = α n := ha n (by simpa [Nat.blt_eq] using h)
    simp [h2]
  · next hx =>
    constructor
    · split <;> first | rfl | exact absurd rfl hx
    · split <;> first | rfl | exact absurd rfl hx
theorem s_e_v {tc : Nat → ClassId} {ρ : Nat → Int} {α α' ξ : Nat → Nat} {b : Nat} (ha : s_ag α α' b) {e : sE} (h : e.2.2.2.all (fun q => s_okV b q.2) = true) : s_e tc ρ α' ξ e = s_e tc ρ α ξ e := by
  have hm : ∀ q ∈ e.2.2.2, s_v ρ α' ξ q.2 = s_v ρ α ξ q.2 ∧ s_q α' ξ q.2 = s_q α ξ q.2 := fun q hq => s_okV_v ha (List.all_eq_true.mp h q hq)
  have hl : ∀ (l : List (Nat × sV)), (∀ q ∈ l, s_q α' ξ q.2 = s_q α ξ q.2) → ∀ j, s_q α' ξ (s_look l j) = s_q α ξ (s_look l j) := by
    intro l
    induction l with
    | nil => intro _ j; rfl
    | cons a r ih =>
      intro hq j
      unfold s_look
      split
      · exact hq a List.mem_cons_self
      · exact ih (fun q h2 => hq q (List.mem_cons_of_mem _ h2)) j
  unfold s_e
  split
  · have : e.2.2.2.map (fun q => s_v ρ α' ξ q.2) = e.2.2.2.map (fun q => s_v ρ α ξ q.2) := List.map_congr_left fun q hq => (hm q hq).1
    rw [this]
  · rfl
  · rfl
  · rfl
  · have : (fun j => s_q α' ξ (s_look e.2.2.2 j)) = (fun j => s_q α ξ (s_look e.2.2.2 j)) := funext fun j => hl _ (fun q hq => (hm q hq).2) j
    rw [this]
theorem s_h_v {tc : Nat → ClassId} {ρ : Nat → Int} {α α' ξ : Nat → Nat} {h : List sE} (ha : s_ag α α' h.length) (hh : h.all (fun e => e.2.2.2.all (fun q => s_okV h.length q.2)) = true) : s_h tc ρ α' ξ h = s_h tc ρ α ξ h := by
  unfold s_h
  apply List.ext_getElem?
  intro j
  rw [List.getElem?_mapIdx, List.getElem?_mapIdx]
  cases hj : h[j]? with
  | none => rfl
  | some e =>
    obtain ⟨hlt, -⟩ := List.getElem?_eq_some_iff.mp hj
    simp only [Option.map_some, Option.some.injEq, Prod.mk.injEq]
    exact ⟨ha j hlt, s_e_v ha (List.all_eq_true.mp hh e (List.mem_of_getElem? hj))⟩
theorem s_ll_v {ρ : Nat → Int} {α α' ξ : Nat → Nat} {b : Nat} (ha : s_ag α α' b) {l : sL} (h : l.all (fun q => s_okV b q.2) = true) : s_ll ρ α' ξ l = s_ll ρ α ξ l :=
  List.map_congr_left fun q hq => by rw [(s_okV_v ha (List.all_eq_true.mp h q hq)).1]
theorem s_st_v {ρ : Nat → Int} {α α' ξ : Nat → Nat} {b : Nat} (ha : s_ag α α' b) {st : List sV} (h : st.all (s_okV b) = true) : st.map (s_v ρ α' ξ) = st.map (s_v ρ α ξ) :=
  List.map_congr_left fun q hq => (s_okV_v ha (List.all_eq_true.mp h q hq)).1
theorem s_words_v (ρ : Nat → Int) (α ξ : Nat → Nat) (st : List sV) : ((st.map (s_v ρ α ξ)).map fun v => v.category).sum = s_words st := by
  induction st with
  | nil => rfl
  | cons a r ih => simp only [List.map_cons, List.sum_cons, s_words, s_cat_v, ih]
end
section
/-- TaperhallLaw.law([I)Z -/
def s_c0_0 : List sN := [(0, .new 8, 3, [0, 19, 162, 163, 115]), (3, .dup, 4, []), (4, .invokespecial 157, 7, [2, 1, 1, 1000, 0, 164, 165, 115]), (7, .astore_n 1, 8, []), (8, .new 158, 11, [0, 22, 1525, 1526, 123]), (11, .dup, 12, []), (12, .invokespecial 160, 15, [2, 113, 1, 1000, 0, 1527, 1528, 123]), (15, .astore_n 2, 16, []), (16, .iconst 1, 17, []), (17, .newarray .long, 19, [898]), (19, .astore_n 3, 20, []), (20, .iconst 1, 21, []), (21, .newarray .double, 23, [2570]), (23, .astore 4, 25, []), (25, .iconst 0, 26, []), (26, .istore 5, 28, []), (28, .iload 5, 30, []), (30, .aload_n 0, 31, []), (31, .arraylength, 32, []), (32, .bipush 6, 34, []), (34, .isub, 35, []), (35, .if_icmp .gt 2902, 38, [2937]), (38, .aload_n 0, 39, []), (39, .iload 5, 41, []), (41, .iaload, 42, []), (42, .bipush 63, 44, []), (44, .iand, 45, []), (45, .tableswitch 2886 0 43 #[191, 235, 329, 401, 484, 542, 555, 568, 612, 716, 808, 876, 944, 1024, 1092, 1160, 1228, 1284, 1340, 1396, 1465, 1533, 1601, 1657, 1725, 1793, 1861, 1917, 1973, 2029, 2110, 2189, 2245, 2301, 2364, 2420, 2488, 2567, 2659, 2715, 2728, 2742, 2808, 2873], 236, [2931, 236, 280, 374, 446, 529, 587, 600, 613, 657, 761, 853, 921, 989, 1069, 1137, 1205, 1273, 1329, 1385, 1441, 1510, 1578, 1646, 1702, 1770, 1838, 1906, 1962, 2018, 2074, 2155, 2234, 2290, 2346, 2409, 2465, 2533, 2612, 2704, 2760, 2773, 2787, 2853, 2918]), (236, .aload_n 1, 237, []), (237, .aload_n 3, 238, []), (238, .invokestatic 161, 241, [1, 100, 2, 0, 0, 444, 445, 114]), (241, .istore 6, 243, []), (243, .aload_n 2, 244, []), (244, .invokevirtual 166, 247, [3, 152, 1, 23, 0, 1597, 1598, 1599, 123]), (247, .istore 7, 249, []), (249, .aload_n 2, 250, []), (250, .invokevirtual 167, 253, [3, 163, 1, 23, 0, 1593, 1594, 1595, 123]), (253, .iload 6, 255, []), (255, .if_icmp .eq 5, 258, [260]), (260, .iload 6, 262, []), (262, .ifCond .ne 15, 265, [277]), (265, .aload_n 3, 266, []), (266, .iconst 0, 267, []), (267, .laload, 268, []), (268, .iload 7, 270, []), (270, .i2l, 271, []), (271, .lcmp, 272, []), (272, .ifCond .eq 5, 275, [277]), (277, .goto 2654, 280, [2931]), (280, .aload_n 1, 281, []), (281, .aload_n 0, 282, []), (282, .iload 5, 284, []), (284, .iconst 1, 285, []), (285, .iadd, 286, []), (286, .iaload, 287, []), (287, .i2c, 288, []), (288, .aload_n 0, 289, []), (289, .iload 5, 291, []), (291, .iconst 2, 292, []), (292, .iadd, 293, [])]
def s_c0_1 : List sN := [(293, .iaload, 294, []), (294, .aload_n 0, 295, []), (295, .iload 5, 297, []), (297, .iconst 3, 298, []), (298, .iadd, 299, []), (299, .iaload, 300, []), (300, .aload_n 0, 301, []), (301, .iload 5, 303, []), (303, .iconst 4, 304, []), (304, .iadd, 305, []), (305, .iaload, 306, []), (306, .aload_n 3, 307, []), (307, .invokestatic 170, 310, [1, 101, 6, 0, 0, 621, 622, 114]), (310, .istore 6, 312, []), (312, .aload_n 2, 313, []), (313, .aload_n 0, 314, []), (314, .iload 5, 316, []), (316, .iconst 1, 317, []), (317, .iadd, 318, []), (318, .iaload, 319, []), (319, .i2c, 320, []), (320, .aload_n 0, 321, []), (321, .iload 5, 323, []), (323, .iconst 2, 324, []), (324, .iadd, 325, []), (325, .iaload, 326, []), (326, .aload_n 0, 327, []), (327, .iload 5, 329, []), (329, .iconst 3, 330, []), (330, .iadd, 331, []), (331, .iaload, 332, []), (332, .aload_n 0, 333, []), (333, .iload 5, 335, []), (335, .iconst 4, 336, []), (336, .iadd, 337, []), (337, .iaload, 338, []), (338, .invokevirtual 173, 341, [3, 153, 5, 23, 0, 1616, 1617, 1618, 123]), (341, .istore 7, 343, []), (343, .aload_n 2, 344, []), (344, .invokevirtual 167, 347, [3, 163, 1, 23, 0, 1593, 1594, 1595, 123]), (347, .iload 6, 349, []), (349, .if_icmp .eq 5, 352, [354]), (354, .iload 6, 356, []), (356, .ifCond .ne 15, 359, [371]), (371, .goto 2560, 374, [2931]), (374, .aload_n 1, 375, []), (375, .aload_n 0, 376, []), (376, .iload 5, 378, []), (378, .iconst 1, 379, []), (379, .iadd, 380, []), (380, .iaload, 381, []), (381, .i2c, 382, []), (382, .aload_n 0, 383, []), (383, .iload 5, 385, []), (385, .iconst 2, 386, []), (386, .iadd, 387, []), (387, .iaload, 388, []), (388, .i2c, 389, []), (389, .aload_n 3, 390, []), (390, .invokestatic 174, 393, [1, 90, 4, 0, 0, 683, 684, 114])]
def s_c0_2 : List sN := [(393, .istore 6, 395, []), (395, .aload_n 2, 396, []), (396, .aload_n 0, 397, []), (397, .iload 5, 399, []), (399, .iconst 1, 400, []), (400, .iadd, 401, []), (401, .iaload, 402, []), (402, .i2c, 403, []), (403, .aload_n 0, 404, []), (404, .iload 5, 406, []), (406, .iconst 2, 407, []), (407, .iadd, 408, []), (408, .iaload, 409, []), (409, .i2c, 410, []), (410, .invokevirtual 177, 413, [3, 138, 3, 23, 0, 1684, 1685, 1686, 123]), (413, .istore 7, 415, []), (415, .aload_n 2, 416, []), (416, .invokevirtual 167, 419, [3, 163, 1, 23, 0, 1593, 1594, 1595, 123]), (419, .iload 6, 421, []), (421, .if_icmp .eq 5, 424, [426]), (426, .iload 6, 428, []), (428, .ifCond .ne 15, 431, [443]), (443, .goto 2488, 446, [2931]), (446, .aload_n 1, 447, []), (447, .aload_n 0, 448, []), (448, .iload 5, 450, []), (450, .iconst 1, 451, []), (451, .iadd, 452, []), (452, .iaload, 453, []), (453, .aload_n 0, 454, []), (454, .iload 5, 456, []), (456, .iconst 2, 457, []), (457, .iadd, 458, []), (458, .iaload, 459, []), (459, .i2c, 460, []), (460, .aload_n 0, 461, []), (461, .iload 5, 463, []), (463, .iconst 3, 464, []), (464, .iadd, 465, []), (465, .iaload, 466, []), (466, .i2c, 467, []), (467, .aload_n 3, 468, []), (468, .invokestatic 178, 471, [1, 110, 5, 0, 0, 697, 698, 114]), (471, .istore 6, 473, []), (473, .aload_n 2, 474, []), (474, .aload_n 0, 475, []), (475, .iload 5, 477, []), (477, .iconst 1, 478, []), (478, .iadd, 479, []), (479, .iaload, 480, []), (480, .aload_n 0, 481, []), (481, .iload 5, 483, []), (483, .iconst 2, 484, []), (484, .iadd, 485, []), (485, .iaload, 486, []), (486, .i2c, 487, []), (487, .aload_n 0, 488, []), (488, .iload 5, 490, []), (490, .iconst 3, 491, []), (491, .iadd, 492, [])]
def s_c0_3 : List sN := [(492, .iaload, 493, []), (493, .i2c, 494, []), (494, .invokevirtual 181, 497, [3, 165, 4, 23, 0, 1702, 1703, 1704, 123]), (497, .lstore 7, 499, []), (499, .aload_n 2, 500, []), (500, .invokevirtual 167, 503, [3, 163, 1, 23, 0, 1593, 1594, 1595, 123]), (503, .iload 6, 505, []), (505, .if_icmp .eq 5, 508, [510]), (510, .iload 6, 512, []), (512, .ifCond .ne 14, 515, [526]), (526, .goto 2405, 529, [2931]), (529, .aload_n 1, 530, []), (530, .aload_n 0, 531, []), (531, .iload 5, 533, []), (533, .iconst 1, 534, []), (534, .iadd, 535, []), (535, .iaload, 536, []), (536, .i2c, 537, []), (537, .aload_n 3, 538, []), (538, .invokestatic 182, 541, [1, 111, 3, 0, 0, 743, 744, 114]), (541, .istore 6, 543, []), (543, .aload_n 2, 544, []), (544, .aload_n 0, 545, []), (545, .iload 5, 547, []), (547, .iconst 1, 548, []), (548, .iadd, 549, []), (549, .iaload, 550, []), (550, .i2c, 551, []), (551, .invokevirtual 185, 554, [3, 166, 2, 23, 0, 1711, 1712, 1713, 123]), (554, .istore 7, 556, []), (556, .aload_n 2, 557, []), (557, .invokevirtual 167, 560, [3, 163, 1, 23, 0, 1593, 1594, 1595, 123]), (560, .iload 6, 562, []), (562, .if_icmp .eq 5, 565, [567]), (567, .iload 6, 569, []), (569, .ifCond .ne 15, 572, [584]), (572, .aload_n 3, 573, []), (573, .iconst 0, 574, []), (574, .laload, 575, []), (575, .iload 7, 577, []), (577, .i2l, 578, []), (578, .lcmp, 579, []), (579, .ifCond .eq 5, 582, [584]), (584, .goto 2347, 587, [2931]), (587, .aload_n 1, 588, []), (588, .invokevirtual 186, 591, [3, 55, 1, 20, 0, 330, 331, 332, 115]), (591, .aload_n 2, 592, []), (592, .invokevirtual 189, 595, [3, 168, 1, 23, 0, 1800, 1801, 1802, 123]), (595, .if_icmp .eq 2336, 598, [2931]), (600, .aload_n 1, 601, []), (601, .invokevirtual 190, 604, [3, 13, 1, 20, 0, 338, 339, 340, 115]), (604, .aload_n 2, 605, []), (605, .invokevirtual 193, 608, [3, 126, 1, 23, 0, 1984, 1985, 1986, 123]), (608, .if_icmp .eq 2323, 611, [2931]), (613, .aload_n 1, 614, []), (614, .aload_n 3, 615, []), (615, .invokestatic 194, 618, [1, 112, 2, 0, 0, 759, 760, 114]), (618, .istore 6, 620, []), (620, .aload_n 2, 621, []), (621, .invokevirtual 196, 624, [3, 167, 1, 23, 0, 2069, 2070, 2071, 123])]
def s_c0_4 : List sN := [(624, .istore 7, 626, []), (626, .aload_n 2, 627, []), (627, .invokevirtual 167, 630, [3, 163, 1, 23, 0, 1593, 1594, 1595, 123]), (630, .iload 6, 632, []), (632, .if_icmp .eq 5, 635, [637]), (637, .iload 6, 639, []), (639, .ifCond .ne 15, 642, [654]), (654, .goto 2277, 657, [2931]), (657, .aload_n 1, 658, []), (658, .aload_n 0, 659, []), (659, .iload 5, 661, []), (661, .iconst 1, 662, []), (662, .iadd, 663, []), (663, .iaload, 664, []), (664, .aload_n 0, 665, []), (665, .iload 5, 667, []), (667, .iconst 2, 668, []), (668, .iadd, 669, []), (669, .iaload, 670, []), (670, .aload_n 0, 671, []), (671, .iload 5, 673, []), (673, .iconst 3, 674, []), (674, .iadd, 675, []), (675, .iaload, 676, []), (676, .aload_n 0, 677, []), (677, .iload 5, 679, []), (679, .iconst 4, 680, []), (680, .iadd, 681, []), (681, .iaload, 682, []), (682, .aload_n 0, 683, []), (683, .iload 5, 685, []), (685, .iconst 5, 686, []), (686, .iadd, 687, []), (687, .iaload, 688, []), (688, .aload_n 3, 689, []), (689, .invokestatic 197, 692, [1, 75, 7, 0, 0, 767, 768, 114]), (692, .istore 6, 694, []), (694, .aload_n 2, 695, []), (695, .aload_n 0, 696, []), (696, .iload 5, 698, []), (698, .iconst 1, 699, []), (699, .iadd, 700, []), (700, .iaload, 701, []), (701, .aload_n 0, 702, []), (702, .iload 5, 704, []), (704, .iconst 2, 705, []), (705, .iadd, 706, []), (706, .iaload, 707, []), (707, .aload_n 0, 708, []), (708, .iload 5, 710, []), (710, .iconst 3, 711, []), (711, .iadd, 712, []), (712, .iaload, 713, []), (713, .aload_n 0, 714, []), (714, .iload 5, 716, []), (716, .iconst 4, 717, []), (717, .iadd, 718, []), (718, .iaload, 719, []), (719, .aload_n 0, 720, []), (720, .iload 5, 722, [])]
def s_c0_5 : List sN := [(722, .iconst 5, 723, []), (723, .iadd, 724, []), (724, .iaload, 725, []), (725, .invokevirtual 200, 728, [3, 115, 6, 23, 0, 2073, 2074, 2075, 123]), (728, .istore 7, 730, []), (730, .aload_n 2, 731, []), (731, .invokevirtual 167, 734, [3, 163, 1, 23, 0, 1593, 1594, 1595, 123]), (734, .iload 6, 736, []), (736, .if_icmp .eq 5, 739, [741]), (741, .iload 6, 743, []), (743, .ifCond .ne 15, 746, [758]), (746, .aload_n 3, 747, []), (747, .iconst 0, 748, []), (748, .laload, 749, []), (749, .iload 7, 751, []), (751, .i2l, 752, []), (752, .lcmp, 753, []), (753, .ifCond .eq 5, 756, [758]), (758, .goto 2173, 761, [2931]), (761, .aload_n 1, 762, []), (762, .aload_n 0, 763, []), (763, .iload 5, 765, []), (765, .iconst 1, 766, []), (766, .iadd, 767, []), (767, .iaload, 768, []), (768, .aload_n 0, 769, []), (769, .iload 5, 771, []), (771, .iconst 2, 772, []), (772, .iadd, 773, []), (773, .iaload, 774, []), (774, .aload_n 0, 775, []), (775, .iload 5, 777, []), (777, .iconst 3, 778, []), (778, .iadd, 779, []), (779, .iaload, 780, []), (780, .aload_n 0, 781, []), (781, .iload 5, 783, []), (783, .iconst 4, 784, []), (784, .iadd, 785, []), (785, .iaload, 786, []), (786, .aload_n 3, 787, []), (787, .invokestatic 201, 790, [1, 74, 6, 0, 0, 945, 946, 114]), (790, .istore 6, 792, []), (792, .aload_n 2, 793, []), (793, .aload_n 0, 794, []), (794, .iload 5, 796, []), (796, .iconst 1, 797, []), (797, .iadd, 798, []), (798, .iaload, 799, []), (799, .aload_n 0, 800, []), (800, .iload 5, 802, []), (802, .iconst 2, 803, []), (803, .iadd, 804, []), (804, .iaload, 805, []), (805, .aload_n 0, 806, []), (806, .iload 5, 808, []), (808, .iconst 3, 809, []), (809, .iadd, 810, []), (810, .iaload, 811, []), (811, .aload_n 0, 812, [])]
def s_c0_6 : List sN := [(812, .iload 5, 814, []), (814, .iconst 4, 815, []), (815, .iadd, 816, []), (816, .iaload, 817, []), (817, .invokevirtual 204, 820, [3, 114, 5, 23, 0, 2193, 2194, 2195, 123]), (820, .istore 7, 822, []), (822, .aload_n 2, 823, []), (823, .invokevirtual 167, 826, [3, 163, 1, 23, 0, 1593, 1594, 1595, 123]), (826, .iload 6, 828, []), (828, .if_icmp .eq 5, 831, [833]), (833, .iload 6, 835, []), (835, .ifCond .ne 15, 838, [850]), (850, .goto 2081, 853, [2931]), (853, .aload_n 1, 854, []), (854, .aload_n 0, 855, []), (855, .iload 5, 857, []), (857, .iconst 1, 858, []), (858, .iadd, 859, []), (859, .iaload, 860, []), (860, .aload_n 0, 861, []), (861, .iload 5, 863, []), (863, .iconst 2, 864, []), (864, .iadd, 865, []), (865, .iaload, 866, []), (866, .aload_n 3, 867, []), (867, .invokestatic 205, 870, [1, 102, 4, 0, 0, 994, 995, 114]), (870, .istore 6, 872, []), (872, .aload_n 2, 873, []), (873, .aload_n 0, 874, []), (874, .iload 5, 876, []), (876, .iconst 1, 877, []), (877, .iadd, 878, []), (878, .iaload, 879, []), (879, .aload_n 0, 880, []), (880, .iload 5, 882, []), (882, .iconst 2, 883, []), (883, .iadd, 884, []), (884, .iaload, 885, []), (885, .invokevirtual 208, 888, [3, 154, 3, 23, 0, 2202, 2203, 2204, 123]), (888, .istore 7, 890, []), (890, .aload_n 2, 891, []), (891, .invokevirtual 167, 894, [3, 163, 1, 23, 0, 1593, 1594, 1595, 123]), (894, .iload 6, 896, []), (896, .if_icmp .eq 5, 899, [901]), (901, .iload 6, 903, []), (903, .ifCond .ne 15, 906, [918]), (918, .goto 2013, 921, [2931]), (921, .aload_n 1, 922, []), (922, .aload_n 0, 923, []), (923, .iload 5, 925, []), (925, .iconst 1, 926, []), (926, .iadd, 927, []), (927, .iaload, 928, []), (928, .aload_n 0, 929, []), (929, .iload 5, 931, []), (931, .iconst 2, 932, []), (932, .iadd, 933, []), (933, .iaload, 934, []), (934, .aload_n 3, 935, []), (935, .invokestatic 209, 938, [1, 94, 4, 0, 0, 1001, 1002, 114])]
def s_c0_7 : List sN := [(938, .istore 6, 940, []), (940, .aload_n 2, 941, []), (941, .aload_n 0, 942, []), (942, .iload 5, 944, []), (944, .iconst 1, 945, []), (945, .iadd, 946, []), (946, .iaload, 947, []), (947, .aload_n 0, 948, []), (948, .iload 5, 950, []), (950, .iconst 2, 951, []), (951, .iadd, 952, []), (952, .iaload, 953, []), (953, .invokevirtual 211, 956, [3, 146, 3, 23, 0, 2221, 2222, 2223, 123]), (956, .istore 7, 958, []), (958, .aload_n 2, 959, []), (959, .invokevirtual 167, 962, [3, 163, 1, 23, 0, 1593, 1594, 1595, 123]), (962, .iload 6, 964, []), (964, .if_icmp .eq 5, 967, [969]), (969, .iload 6, 971, []), (971, .ifCond .ne 15, 974, [986]), (986, .goto 1945, 989, [2931]), (989, .aload_n 1, 990, []), (990, .aload_n 0, 991, []), (991, .iload 5, 993, []), (993, .iconst 1, 994, []), (994, .iadd, 995, []), (995, .iaload, 996, []), (996, .aload_n 0, 997, []), (997, .iload 5, 999, []), (999, .iconst 2, 1000, []), (1000, .iadd, 1001, []), (1001, .iaload, 1002, []), (1002, .aload_n 0, 1003, []), (1003, .iload 5, 1005, []), (1005, .iconst 3, 1006, []), (1006, .iadd, 1007, []), (1007, .iaload, 1008, []), (1008, .aload_n 3, 1009, []), (1009, .invokestatic 212, 1012, [1, 106, 5, 0, 0, 1028, 1029, 114]), (1012, .istore 6, 1014, []), (1014, .aload_n 2, 1015, []), (1015, .aload_n 0, 1016, []), (1016, .iload 5, 1018, []), (1018, .iconst 1, 1019, []), (1019, .iadd, 1020, []), (1020, .iaload, 1021, []), (1021, .aload_n 0, 1022, []), (1022, .iload 5, 1024, []), (1024, .iconst 2, 1025, []), (1025, .iadd, 1026, []), (1026, .iaload, 1027, []), (1027, .aload_n 0, 1028, []), (1028, .iload 5, 1030, []), (1030, .iconst 3, 1031, []), (1031, .iadd, 1032, []), (1032, .iaload, 1033, []), (1033, .invokevirtual 215, 1036, [3, 158, 4, 23, 0, 2242, 2243, 2244, 123]), (1036, .istore 7, 1038, []), (1038, .aload_n 2, 1039, []), (1039, .invokevirtual 167, 1042, [3, 163, 1, 23, 0, 1593, 1594, 1595, 123])]
def s_c0_8 : List sN := [(1042, .iload 6, 1044, []), (1044, .if_icmp .eq 5, 1047, [1049]), (1049, .iload 6, 1051, []), (1051, .ifCond .ne 15, 1054, [1066]), (1066, .goto 1865, 1069, [2931]), (1069, .aload_n 1, 1070, []), (1070, .aload_n 0, 1071, []), (1071, .iload 5, 1073, []), (1073, .iconst 1, 1074, []), (1074, .iadd, 1075, []), (1075, .iaload, 1076, []), (1076, .aload_n 0, 1077, []), (1077, .iload 5, 1079, []), (1079, .iconst 2, 1080, []), (1080, .iadd, 1081, []), (1081, .iaload, 1082, []), (1082, .aload_n 3, 1083, []), (1083, .invokestatic 216, 1086, [1, 83, 4, 0, 0, 1049, 1050, 114]), (1086, .istore 6, 1088, []), (1088, .aload_n 2, 1089, []), (1089, .aload_n 0, 1090, []), (1090, .iload 5, 1092, []), (1092, .iconst 1, 1093, []), (1093, .iadd, 1094, []), (1094, .iaload, 1095, []), (1095, .aload_n 0, 1096, []), (1096, .iload 5, 1098, []), (1098, .iconst 2, 1099, []), (1099, .iadd, 1100, []), (1100, .iaload, 1101, []), (1101, .invokevirtual 218, 1104, [3, 125, 3, 23, 0, 2247, 2248, 2249, 123]), (1104, .istore 7, 1106, []), (1106, .aload_n 2, 1107, []), (1107, .invokevirtual 167, 1110, [3, 163, 1, 23, 0, 1593, 1594, 1595, 123]), (1110, .iload 6, 1112, []), (1112, .if_icmp .eq 5, 1115, [1117]), (1117, .iload 6, 1119, []), (1119, .ifCond .ne 15, 1122, [1134]), (1134, .goto 1797, 1137, [2931]), (1137, .aload_n 1, 1138, []), (1138, .aload_n 0, 1139, []), (1139, .iload 5, 1141, []), (1141, .iconst 1, 1142, []), (1142, .iadd, 1143, []), (1143, .iaload, 1144, []), (1144, .aload_n 0, 1145, []), (1145, .iload 5, 1147, []), (1147, .iconst 2, 1148, []), (1148, .iadd, 1149, []), (1149, .iaload, 1150, []), (1150, .aload_n 3, 1151, []), (1151, .invokestatic 219, 1154, [1, 95, 4, 0, 0, 1077, 1078, 114]), (1154, .istore 6, 1156, []), (1156, .aload_n 2, 1157, []), (1157, .aload_n 0, 1158, []), (1158, .iload 5, 1160, []), (1160, .iconst 1, 1161, []), (1161, .iadd, 1162, []), (1162, .iaload, 1163, []), (1163, .aload_n 0, 1164, [])]
def s_c0_9 : List sN := [(1164, .iload 5, 1166, []), (1166, .iconst 2, 1167, []), (1167, .iadd, 1168, []), (1168, .iaload, 1169, []), (1169, .invokevirtual 221, 1172, [3, 147, 3, 23, 0, 2251, 2252, 2253, 123]), (1172, .istore 7, 1174, []), (1174, .aload_n 2, 1175, []), (1175, .invokevirtual 167, 1178, [3, 163, 1, 23, 0, 1593, 1594, 1595, 123]), (1178, .iload 6, 1180, []), (1180, .if_icmp .eq 5, 1183, [1185]), (1185, .iload 6, 1187, []), (1187, .ifCond .ne 15, 1190, [1202]), (1202, .goto 1729, 1205, [2931]), (1205, .aload_n 1, 1206, []), (1206, .aload_n 0, 1207, []), (1207, .iload 5, 1209, []), (1209, .iconst 1, 1210, []), (1210, .iadd, 1211, []), (1211, .iaload, 1212, []), (1212, .aload_n 0, 1213, []), (1213, .iload 5, 1215, []), (1215, .iconst 2, 1216, []), (1216, .iadd, 1217, []), (1217, .iaload, 1218, []), (1218, .aload_n 3, 1219, []), (1219, .invokestatic 222, 1222, [1, 84, 4, 0, 0, 1084, 1085, 114]), (1222, .istore 6, 1224, []), (1224, .aload_n 2, 1225, []), (1225, .aload_n 0, 1226, []), (1226, .iload 5, 1228, []), (1228, .iconst 1, 1229, []), (1229, .iadd, 1230, []), (1230, .iaload, 1231, []), (1231, .aload_n 0, 1232, []), (1232, .iload 5, 1234, []), (1234, .iconst 2, 1235, []), (1235, .iadd, 1236, []), (1236, .iaload, 1237, []), (1237, .invokevirtual 224, 1240, [3, 128, 3, 23, 0, 2255, 2256, 2257, 123]), (1240, .istore 7, 1242, []), (1242, .aload_n 2, 1243, []), (1243, .invokevirtual 167, 1246, [3, 163, 1, 23, 0, 1593, 1594, 1595, 123]), (1246, .iload 6, 1248, []), (1248, .if_icmp .eq 5, 1251, [1253]), (1253, .iload 6, 1255, []), (1255, .ifCond .ne 15, 1258, [1270]), (1270, .goto 1661, 1273, [2931]), (1273, .aload_n 1, 1274, []), (1274, .aload_n 0, 1275, []), (1275, .iload 5, 1277, []), (1277, .iconst 1, 1278, []), (1278, .iadd, 1279, []), (1279, .iaload, 1280, []), (1280, .aload_n 3, 1281, []), (1281, .invokestatic 225, 1284, [1, 93, 3, 0, 0, 1095, 1096, 114]), (1284, .istore 6, 1286, []), (1286, .aload_n 2, 1287, []), (1287, .aload_n 0, 1288, []), (1288, .iload 5, 1290, []), (1290, .iconst 1, 1291, [])]
def s_c0_10 : List sN := [(1291, .iadd, 1292, []), (1292, .iaload, 1293, []), (1293, .invokevirtual 228, 1296, [3, 145, 2, 23, 0, 2259, 2260, 2261, 123]), (1296, .istore 7, 1298, []), (1298, .aload_n 2, 1299, []), (1299, .invokevirtual 167, 1302, [3, 163, 1, 23, 0, 1593, 1594, 1595, 123]), (1302, .iload 6, 1304, []), (1304, .if_icmp .eq 5, 1307, [1309]), (1309, .iload 6, 1311, []), (1311, .ifCond .ne 15, 1314, [1326]), (1326, .goto 1605, 1329, [2931]), (1329, .aload_n 1, 1330, []), (1330, .aload_n 0, 1331, []), (1331, .iload 5, 1333, []), (1333, .iconst 1, 1334, []), (1334, .iadd, 1335, []), (1335, .iaload, 1336, []), (1336, .aload_n 3, 1337, []), (1337, .invokestatic 229, 1340, [1, 104, 3, 0, 0, 1102, 1103, 114]), (1340, .istore 6, 1342, []), (1342, .aload_n 2, 1343, []), (1343, .aload_n 0, 1344, []), (1344, .iload 5, 1346, []), (1346, .iconst 1, 1347, []), (1347, .iadd, 1348, []), (1348, .iaload, 1349, []), (1349, .invokevirtual 231, 1352, [3, 156, 2, 23, 0, 2263, 2264, 2265, 123]), (1352, .istore 7, 1354, []), (1354, .aload_n 2, 1355, []), (1355, .invokevirtual 167, 1358, [3, 163, 1, 23, 0, 1593, 1594, 1595, 123]), (1358, .iload 6, 1360, []), (1360, .if_icmp .eq 5, 1363, [1365]), (1365, .iload 6, 1367, []), (1367, .ifCond .ne 15, 1370, [1382]), (1370, .aload_n 3, 1371, []), (1371, .iconst 0, 1372, []), (1372, .laload, 1373, []), (1373, .iload 7, 1375, []), (1375, .i2l, 1376, []), (1376, .lcmp, 1377, []), (1377, .ifCond .eq 5, 1380, [1382]), (1382, .goto 1549, 1385, [2931]), (1385, .aload_n 1, 1386, []), (1386, .aload_n 0, 1387, []), (1387, .iload 5, 1389, []), (1389, .iconst 1, 1390, []), (1390, .iadd, 1391, []), (1391, .iaload, 1392, []), (1392, .aload_n 3, 1393, []), (1393, .invokestatic 232, 1396, [1, 92, 3, 0, 0, 1109, 1110, 114]), (1396, .istore 6, 1398, []), (1398, .aload_n 2, 1399, []), (1399, .aload_n 0, 1400, []), (1400, .iload 5, 1402, []), (1402, .iconst 1, 1403, []), (1403, .iadd, 1404, []), (1404, .iaload, 1405, []), (1405, .invokevirtual 234, 1408, [3, 144, 2, 23, 0, 2268, 2269, 2270, 123]), (1408, .istore 7, 1410, []), (1410, .aload_n 2, 1411, [])]
def s_c0_11 : List sN := [(1411, .invokevirtual 167, 1414, [3, 163, 1, 23, 0, 1593, 1594, 1595, 123]), (1414, .iload 6, 1416, []), (1416, .if_icmp .eq 5, 1419, [1421]), (1421, .iload 6, 1423, []), (1423, .ifCond .ne 15, 1426, [1438]), (1426, .aload_n 3, 1427, []), (1427, .iconst 0, 1428, []), (1428, .laload, 1429, []), (1429, .iload 7, 1431, []), (1431, .i2l, 1432, []), (1432, .lcmp, 1433, []), (1433, .ifCond .eq 5, 1436, [1438]), (1438, .goto 1493, 1441, [2931]), (1441, .aload_n 1, 1442, []), (1442, .aload_n 0, 1443, []), (1443, .iload 5, 1445, []), (1445, .iconst 1, 1446, []), (1446, .iadd, 1447, []), (1447, .iaload, 1448, []), (1448, .aload_n 0, 1449, []), (1449, .iload 5, 1451, []), (1451, .iconst 2, 1452, []), (1452, .iadd, 1453, []), (1453, .iaload, 1454, []), (1454, .i2c, 1455, []), (1455, .aload_n 3, 1456, []), (1456, .invokestatic 235, 1459, [1, 77, 4, 0, 0, 1191, 1192, 114]), (1459, .istore 6, 1461, []), (1461, .aload_n 2, 1462, []), (1462, .aload_n 0, 1463, []), (1463, .iload 5, 1465, []), (1465, .iconst 1, 1466, []), (1466, .iadd, 1467, []), (1467, .iaload, 1468, []), (1468, .aload_n 0, 1469, []), (1469, .iload 5, 1471, []), (1471, .iconst 2, 1472, []), (1472, .iadd, 1473, []), (1473, .iaload, 1474, []), (1474, .i2c, 1475, []), (1475, .invokevirtual 238, 1478, [3, 117, 3, 23, 0, 2300, 2301, 2302, 123]), (1478, .lstore 7, 1480, []), (1480, .aload_n 2, 1481, []), (1481, .invokevirtual 167, 1484, [3, 163, 1, 23, 0, 1593, 1594, 1595, 123]), (1484, .iload 6, 1486, []), (1486, .if_icmp .eq 5, 1489, [1491]), (1491, .iload 6, 1493, []), (1493, .ifCond .ne 14, 1496, [1507]), (1507, .goto 1424, 1510, [2931]), (1510, .aload_n 1, 1511, []), (1511, .aload_n 0, 1512, []), (1512, .iload 5, 1514, []), (1514, .iconst 1, 1515, []), (1515, .iadd, 1516, []), (1516, .iaload, 1517, []), (1517, .aload_n 0, 1518, []), (1518, .iload 5, 1520, []), (1520, .iconst 2, 1521, []), (1521, .iadd, 1522, []), (1522, .iaload, 1523, [])]
def s_c0_12 : List sN := [(1523, .aload_n 3, 1524, []), (1524, .invokestatic 239, 1527, [1, 88, 4, 0, 0, 1215, 1216, 114]), (1527, .istore 6, 1529, []), (1529, .aload_n 2, 1530, []), (1530, .aload_n 0, 1531, []), (1531, .iload 5, 1533, []), (1533, .iconst 1, 1534, []), (1534, .iadd, 1535, []), (1535, .iaload, 1536, []), (1536, .aload_n 0, 1537, []), (1537, .iload 5, 1539, []), (1539, .iconst 2, 1540, []), (1540, .iadd, 1541, []), (1541, .iaload, 1542, []), (1542, .invokevirtual 241, 1545, [3, 133, 3, 23, 0, 2368, 2369, 2370, 123]), (1545, .istore 7, 1547, []), (1547, .aload_n 2, 1548, []), (1548, .invokevirtual 167, 1551, [3, 163, 1, 23, 0, 1593, 1594, 1595, 123]), (1551, .iload 6, 1553, []), (1553, .if_icmp .eq 5, 1556, [1558]), (1558, .iload 6, 1560, []), (1560, .ifCond .ne 15, 1563, [1575]), (1575, .goto 1356, 1578, [2931]), (1578, .aload_n 1, 1579, []), (1579, .aload_n 0, 1580, []), (1580, .iload 5, 1582, []), (1582, .iconst 1, 1583, []), (1583, .iadd, 1584, []), (1584, .iaload, 1585, []), (1585, .aload_n 0, 1586, []), (1586, .iload 5, 1588, []), (1588, .iconst 2, 1589, []), (1589, .iadd, 1590, []), (1590, .iaload, 1591, []), (1591, .aload_n 3, 1592, []), (1592, .invokestatic 242, 1595, [1, 82, 4, 0, 0, 1222, 1223, 114]), (1595, .istore 6, 1597, []), (1597, .aload_n 2, 1598, []), (1598, .aload_n 0, 1599, []), (1599, .iload 5, 1601, []), (1601, .iconst 1, 1602, []), (1602, .iadd, 1603, []), (1603, .iaload, 1604, []), (1604, .aload_n 0, 1605, []), (1605, .iload 5, 1607, []), (1607, .iconst 2, 1608, []), (1608, .iadd, 1609, []), (1609, .iaload, 1610, []), (1610, .invokevirtual 244, 1613, [3, 123, 3, 23, 0, 2373, 2374, 2375, 123]), (1613, .istore 7, 1615, []), (1615, .aload_n 2, 1616, []), (1616, .invokevirtual 167, 1619, [3, 163, 1, 23, 0, 1593, 1594, 1595, 123]), (1619, .iload 6, 1621, []), (1621, .if_icmp .eq 5, 1624, [1626]), (1626, .iload 6, 1628, []), (1628, .ifCond .ne 15, 1631, [1643]), (1643, .goto 1288, 1646, [2931]), (1646, .aload_n 1, 1647, []), (1647, .aload_n 0, 1648, []), (1648, .iload 5, 1650, [])]
def s_c0_13 : List sN := [(1650, .iconst 1, 1651, []), (1651, .iadd, 1652, []), (1652, .iaload, 1653, []), (1653, .aload_n 3, 1654, []), (1654, .invokestatic 245, 1657, [1, 81, 3, 0, 0, 1233, 1234, 114]), (1657, .istore 6, 1659, []), (1659, .aload_n 2, 1660, []), (1660, .aload_n 0, 1661, []), (1661, .iload 5, 1663, []), (1663, .iconst 1, 1664, []), (1664, .iadd, 1665, []), (1665, .iaload, 1666, []), (1666, .invokevirtual 247, 1669, [3, 121, 2, 23, 0, 2377, 2378, 2379, 123]), (1669, .istore 7, 1671, []), (1671, .aload_n 2, 1672, []), (1672, .invokevirtual 167, 1675, [3, 163, 1, 23, 0, 1593, 1594, 1595, 123]), (1675, .iload 6, 1677, []), (1677, .if_icmp .eq 5, 1680, [1682]), (1682, .iload 6, 1684, []), (1684, .ifCond .ne 15, 1687, [1699]), (1699, .goto 1232, 1702, [2931]), (1702, .aload_n 1, 1703, []), (1703, .aload_n 0, 1704, []), (1704, .iload 5, 1706, []), (1706, .iconst 1, 1707, []), (1707, .iadd, 1708, []), (1708, .iaload, 1709, []), (1709, .aload_n 0, 1710, []), (1710, .iload 5, 1712, []), (1712, .iconst 2, 1713, []), (1713, .iadd, 1714, []), (1714, .iaload, 1715, []), (1715, .aload_n 3, 1716, []), (1716, .invokestatic 248, 1719, [1, 79, 4, 0, 0, 1240, 1241, 114]), (1719, .istore 6, 1721, []), (1721, .aload_n 2, 1722, []), (1722, .aload_n 0, 1723, []), (1723, .iload 5, 1725, []), (1725, .iconst 1, 1726, []), (1726, .iadd, 1727, []), (1727, .iaload, 1728, []), (1728, .aload_n 0, 1729, []), (1729, .iload 5, 1731, []), (1731, .iconst 2, 1732, []), (1732, .iadd, 1733, []), (1733, .iaload, 1734, []), (1734, .invokevirtual 250, 1737, [3, 119, 3, 23, 0, 2381, 2382, 2383, 123]), (1737, .istore 7, 1739, []), (1739, .aload_n 2, 1740, []), (1740, .invokevirtual 167, 1743, [3, 163, 1, 23, 0, 1593, 1594, 1595, 123]), (1743, .iload 6, 1745, []), (1745, .if_icmp .eq 5, 1748, [1750]), (1750, .iload 6, 1752, []), (1752, .ifCond .ne 15, 1755, [1767]), (1767, .goto 1164, 1770, [2931]), (1770, .aload_n 1, 1771, []), (1771, .aload_n 0, 1772, []), (1772, .iload 5, 1774, []), (1774, .iconst 1, 1775, []), (1775, .iadd, 1776, [])]
def s_c0_14 : List sN := [(1776, .iaload, 1777, []), (1777, .aload_n 0, 1778, []), (1778, .iload 5, 1780, []), (1780, .iconst 2, 1781, []), (1781, .iadd, 1782, []), (1782, .iaload, 1783, []), (1783, .aload_n 3, 1784, []), (1784, .invokestatic 251, 1787, [1, 80, 4, 0, 0, 1254, 1255, 114]), (1787, .istore 6, 1789, []), (1789, .aload_n 2, 1790, []), (1790, .aload_n 0, 1791, []), (1791, .iload 5, 1793, []), (1793, .iconst 1, 1794, []), (1794, .iadd, 1795, []), (1795, .iaload, 1796, []), (1796, .aload_n 0, 1797, []), (1797, .iload 5, 1799, []), (1799, .iconst 2, 1800, []), (1800, .iadd, 1801, []), (1801, .iaload, 1802, []), (1802, .invokevirtual 253, 1805, [3, 120, 3, 23, 0, 2389, 2390, 2391, 123]), (1805, .istore 7, 1807, []), (1807, .aload_n 2, 1808, []), (1808, .invokevirtual 167, 1811, [3, 163, 1, 23, 0, 1593, 1594, 1595, 123]), (1811, .iload 6, 1813, []), (1813, .if_icmp .eq 5, 1816, [1818]), (1818, .iload 6, 1820, []), (1820, .ifCond .ne 15, 1823, [1835]), (1835, .goto 1096, 1838, [2931]), (1838, .aload_n 1, 1839, []), (1839, .aload_n 0, 1840, []), (1840, .iload 5, 1842, []), (1842, .iconst 1, 1843, []), (1843, .iadd, 1844, []), (1844, .iaload, 1845, []), (1845, .aload_n 0, 1846, []), (1846, .iload 5, 1848, []), (1848, .iconst 2, 1849, []), (1849, .iadd, 1850, []), (1850, .iaload, 1851, []), (1851, .aload_n 3, 1852, []), (1852, .invokestatic 254, 1855, [1, 78, 4, 0, 0, 1265, 1266, 114]), (1855, .istore 6, 1857, []), (1857, .aload_n 2, 1858, []), (1858, .aload_n 0, 1859, []), (1859, .iload 5, 1861, []), (1861, .iconst 1, 1862, []), (1862, .iadd, 1863, []), (1863, .iaload, 1864, []), (1864, .aload_n 0, 1865, []), (1865, .iload 5, 1867, []), (1867, .iconst 2, 1868, []), (1868, .iadd, 1869, []), (1869, .iaload, 1870, []), (1870, .invokevirtual 256, 1873, [3, 118, 3, 23, 0, 2393, 2394, 2395, 123]), (1873, .istore 7, 1875, []), (1875, .aload_n 2, 1876, []), (1876, .invokevirtual 167, 1879, [3, 163, 1, 23, 0, 1593, 1594, 1595, 123]), (1879, .iload 6, 1881, []), (1881, .if_icmp .eq 5, 1884, [1886])]
def s_c0_15 : List sN := [(1886, .iload 6, 1888, []), (1888, .ifCond .ne 15, 1891, [1903]), (1903, .goto 1028, 1906, [2931]), (1906, .aload_n 1, 1907, []), (1907, .aload_n 0, 1908, []), (1908, .iload 5, 1910, []), (1910, .iconst 1, 1911, []), (1911, .iadd, 1912, []), (1912, .iaload, 1913, []), (1913, .aload_n 3, 1914, []), (1914, .invokestatic 257, 1917, [1, 103, 3, 0, 0, 1276, 1277, 114]), (1917, .istore 6, 1919, []), (1919, .aload_n 2, 1920, []), (1920, .aload_n 0, 1921, []), (1921, .iload 5, 1923, []), (1923, .iconst 1, 1924, []), (1924, .iadd, 1925, []), (1925, .iaload, 1926, []), (1926, .invokevirtual 259, 1929, [3, 155, 2, 23, 0, 2398, 2399, 2400, 123]), (1929, .istore 7, 1931, []), (1931, .aload_n 2, 1932, []), (1932, .invokevirtual 167, 1935, [3, 163, 1, 23, 0, 1593, 1594, 1595, 123]), (1935, .iload 6, 1937, []), (1937, .if_icmp .eq 5, 1940, [1942]), (1942, .iload 6, 1944, []), (1944, .ifCond .ne 15, 1947, [1959]), (1947, .aload_n 3, 1948, []), (1948, .iconst 0, 1949, []), (1949, .laload, 1950, []), (1950, .iload 7, 1952, []), (1952, .i2l, 1953, []), (1953, .lcmp, 1954, []), (1954, .ifCond .eq 5, 1957, [1959]), (1959, .goto 972, 1962, [2931]), (1962, .aload_n 1, 1963, []), (1963, .aload_n 0, 1964, []), (1964, .iload 5, 1966, []), (1966, .iconst 1, 1967, []), (1967, .iadd, 1968, []), (1968, .iaload, 1969, []), (1969, .aload_n 3, 1970, []), (1970, .invokestatic 260, 1973, [1, 109, 3, 0, 0, 1283, 1284, 114]), (1973, .istore 6, 1975, []), (1975, .aload_n 2, 1976, []), (1976, .aload_n 0, 1977, []), (1977, .iload 5, 1979, []), (1979, .iconst 1, 1980, []), (1980, .iadd, 1981, []), (1981, .iaload, 1982, []), (1982, .invokevirtual 262, 1985, [3, 162, 2, 23, 0, 2403, 2404, 2405, 123]), (1985, .istore 7, 1987, []), (1987, .aload_n 2, 1988, []), (1988, .invokevirtual 167, 1991, [3, 163, 1, 23, 0, 1593, 1594, 1595, 123]), (1991, .iload 6, 1993, []), (1993, .if_icmp .eq 5, 1996, [1998]), (1998, .iload 6, 2000, []), (2000, .ifCond .ne 15, 2003, [2015]), (2015, .goto 916, 2018, [2931]), (2018, .aload_n 1, 2019, []), (2019, .aload_n 0, 2020, [])]
def s_c0_16 : List sN := [(2020, .iload 5, 2022, []), (2022, .iconst 1, 2023, []), (2023, .iadd, 2024, []), (2024, .iaload, 2025, []), (2025, .aload_n 3, 2026, []), (2026, .invokestatic 263, 2029, [1, 97, 3, 0, 0, 1294, 1295, 114]), (2029, .istore 6, 2031, []), (2031, .aload_n 2, 2032, []), (2032, .aload_n 0, 2033, []), (2033, .iload 5, 2035, []), (2035, .iconst 1, 2036, []), (2036, .iadd, 2037, []), (2037, .iaload, 2038, []), (2038, .invokevirtual 265, 2041, [3, 149, 2, 23, 0, 2424, 2425, 2426, 123]), (2041, .istore 7, 2043, []), (2043, .aload_n 2, 2044, []), (2044, .invokevirtual 167, 2047, [3, 163, 1, 23, 0, 1593, 1594, 1595, 123]), (2047, .iload 6, 2049, []), (2049, .if_icmp .eq 5, 2052, [2054]), (2054, .iload 6, 2056, []), (2056, .ifCond .ne 15, 2059, [2071]), (2071, .goto 860, 2074, [2931]), (2074, .aload_n 1, 2075, []), (2075, .aload_n 0, 2076, []), (2076, .iload 5, 2078, []), (2078, .iconst 1, 2079, []), (2079, .iadd, 2080, []), (2080, .iaload, 2081, []), (2081, .aload_n 0, 2082, []), (2082, .iload 5, 2084, []), (2084, .iconst 2, 2085, []), (2085, .iadd, 2086, []), (2086, .iaload, 2087, []), (2087, .aload_n 0, 2088, []), (2088, .iload 5, 2090, []), (2090, .iconst 3, 2091, []), (2091, .iadd, 2092, []), (2092, .iaload, 2093, []), (2093, .i2c, 2094, []), (2094, .aload_n 3, 2095, []), (2095, .invokestatic 266, 2098, [1, 85, 5, 0, 0, 1350, 1351, 114]), (2098, .istore 6, 2100, []), (2100, .aload_n 2, 2101, []), (2101, .aload_n 0, 2102, []), (2102, .iload 5, 2104, []), (2104, .iconst 1, 2105, []), (2105, .iadd, 2106, []), (2106, .iaload, 2107, []), (2107, .aload_n 0, 2108, []), (2108, .iload 5, 2110, []), (2110, .iconst 2, 2111, []), (2111, .iadd, 2112, []), (2112, .iaload, 2113, []), (2113, .aload_n 0, 2114, []), (2114, .iload 5, 2116, []), (2116, .iconst 3, 2117, []), (2117, .iadd, 2118, []), (2118, .iaload, 2119, []), (2119, .i2c, 2120, []), (2120, .invokevirtual 269, 2123, [3, 129, 4, 23, 0, 2453, 2454, 2455, 123])]
def s_c0_17 : List sN := [(2123, .lstore 7, 2125, []), (2125, .aload_n 2, 2126, []), (2126, .invokevirtual 167, 2129, [3, 163, 1, 23, 0, 1593, 1594, 1595, 123]), (2129, .iload 6, 2131, []), (2131, .if_icmp .eq 5, 2134, [2136]), (2136, .iload 6, 2138, []), (2138, .ifCond .ne 14, 2141, [2152]), (2152, .goto 779, 2155, [2931]), (2155, .aload_n 1, 2156, []), (2156, .aload_n 0, 2157, []), (2157, .iload 5, 2159, []), (2159, .iconst 1, 2160, []), (2160, .iadd, 2161, []), (2161, .iaload, 2162, []), (2162, .aload_n 0, 2163, []), (2163, .iload 5, 2165, []), (2165, .iconst 2, 2166, []), (2166, .iadd, 2167, []), (2167, .iaload, 2168, []), (2168, .aload_n 0, 2169, []), (2169, .iload 5, 2171, []), (2171, .iconst 3, 2172, []), (2172, .iadd, 2173, []), (2173, .iaload, 2174, []), (2174, .aload_n 3, 2175, []), (2175, .invokestatic 270, 2178, [1, 87, 5, 0, 0, 1371, 1372, 114]), (2178, .istore 6, 2180, []), (2180, .aload_n 2, 2181, []), (2181, .aload_n 0, 2182, []), (2182, .iload 5, 2184, []), (2184, .iconst 1, 2185, []), (2185, .iadd, 2186, []), (2186, .iaload, 2187, []), (2187, .aload_n 0, 2188, []), (2188, .iload 5, 2190, []), (2190, .iconst 2, 2191, []), (2191, .iadd, 2192, []), (2192, .iaload, 2193, []), (2193, .aload_n 0, 2194, []), (2194, .iload 5, 2196, []), (2196, .iconst 3, 2197, []), (2197, .iadd, 2198, []), (2198, .iaload, 2199, []), (2199, .invokevirtual 272, 2202, [3, 131, 4, 23, 0, 2463, 2464, 2465, 123]), (2202, .lstore 7, 2204, []), (2204, .aload_n 2, 2205, []), (2205, .invokevirtual 167, 2208, [3, 163, 1, 23, 0, 1593, 1594, 1595, 123]), (2208, .iload 6, 2210, []), (2210, .if_icmp .eq 5, 2213, [2215]), (2215, .iload 6, 2217, []), (2217, .ifCond .ne 14, 2220, [2231]), (2231, .goto 700, 2234, [2931]), (2234, .aload_n 1, 2235, []), (2235, .aload_n 0, 2236, []), (2236, .iload 5, 2238, []), (2238, .iconst 1, 2239, []), (2239, .iadd, 2240, []), (2240, .iaload, 2241, []), (2241, .aload_n 3, 2242, []), (2242, .invokestatic 273, 2245, [1, 105, 3, 0, 0, 1385, 1386, 114])]
def s_c0_18 : List sN := [(2245, .istore 6, 2247, []), (2247, .aload_n 2, 2248, []), (2248, .aload_n 0, 2249, []), (2249, .iload 5, 2251, []), (2251, .iconst 1, 2252, []), (2252, .iadd, 2253, []), (2253, .iaload, 2254, []), (2254, .invokevirtual 275, 2257, [3, 157, 2, 23, 0, 2467, 2468, 2469, 123]), (2257, .istore 7, 2259, []), (2259, .aload_n 2, 2260, []), (2260, .invokevirtual 167, 2263, [3, 163, 1, 23, 0, 1593, 1594, 1595, 123]), (2263, .iload 6, 2265, []), (2265, .if_icmp .eq 5, 2268, [2270]), (2270, .iload 6, 2272, []), (2272, .ifCond .ne 15, 2275, [2287]), (2275, .aload_n 3, 2276, []), (2276, .iconst 0, 2277, []), (2277, .laload, 2278, []), (2278, .iload 7, 2280, []), (2280, .i2l, 2281, []), (2281, .lcmp, 2282, []), (2282, .ifCond .eq 5, 2285, [2287]), (2287, .goto 644, 2290, [2931]), (2290, .aload_n 1, 2291, []), (2291, .aload_n 0, 2292, []), (2292, .iload 5, 2294, []), (2294, .iconst 1, 2295, []), (2295, .iadd, 2296, []), (2296, .iaload, 2297, []), (2297, .aload_n 3, 2298, []), (2298, .invokestatic 276, 2301, [1, 96, 3, 0, 0, 1392, 1393, 114]), (2301, .istore 6, 2303, []), (2303, .aload_n 2, 2304, []), (2304, .aload_n 0, 2305, []), (2305, .iload 5, 2307, []), (2307, .iconst 1, 2308, []), (2308, .iadd, 2309, []), (2309, .iaload, 2310, []), (2310, .invokevirtual 278, 2313, [3, 148, 2, 23, 0, 2472, 2473, 2474, 123]), (2313, .istore 7, 2315, []), (2315, .aload_n 2, 2316, []), (2316, .invokevirtual 167, 2319, [3, 163, 1, 23, 0, 1593, 1594, 1595, 123]), (2319, .iload 6, 2321, []), (2321, .if_icmp .eq 5, 2324, [2326]), (2326, .iload 6, 2328, []), (2328, .ifCond .ne 15, 2331, [2343]), (2343, .goto 588, 2346, [2931]), (2346, .aload_n 1, 2347, []), (2347, .aload_n 0, 2348, []), (2348, .iload 5, 2350, []), (2350, .iconst 1, 2351, []), (2351, .iadd, 2352, []), (2352, .iaload, 2353, []), (2353, .aload_n 3, 2354, []), (2354, .invokestatic 279, 2357, [1, 89, 3, 0, 0, 1408, 1409, 114]), (2357, .istore 6, 2359, []), (2359, .aload_n 2, 2360, []), (2360, .aload_n 0, 2361, []), (2361, .iload 5, 2363, []), (2363, .iconst 1, 2364, [])]
def s_c0_19 : List sN := [(2364, .iadd, 2365, []), (2365, .iaload, 2366, []), (2366, .invokevirtual 281, 2369, [3, 135, 2, 23, 0, 2476, 2477, 2478, 123]), (2369, .istore 7, 2371, []), (2371, .aload_n 2, 2372, []), (2372, .invokevirtual 167, 2375, [3, 163, 1, 23, 0, 1593, 1594, 1595, 123]), (2375, .iload 6, 2377, []), (2377, .if_icmp .eq 5, 2380, [2382]), (2382, .iload 6, 2384, []), (2384, .ifCond .ne 22, 2387, [2406]), (2406, .goto 525, 2409, [2931]), (2409, .aload_n 1, 2410, []), (2410, .aload_n 0, 2411, []), (2411, .iload 5, 2413, []), (2413, .iconst 1, 2414, []), (2414, .iadd, 2415, []), (2415, .iaload, 2416, []), (2416, .aload_n 3, 2417, []), (2417, .invokestatic 282, 2420, [1, 76, 3, 0, 0, 1415, 1416, 114]), (2420, .istore 6, 2422, []), (2422, .aload_n 2, 2423, []), (2423, .aload_n 0, 2424, []), (2424, .iload 5, 2426, []), (2426, .iconst 1, 2427, []), (2427, .iadd, 2428, []), (2428, .iaload, 2429, []), (2429, .invokevirtual 284, 2432, [3, 116, 2, 23, 0, 2480, 2481, 2482, 123]), (2432, .istore 7, 2434, []), (2434, .aload_n 2, 2435, []), (2435, .invokevirtual 167, 2438, [3, 163, 1, 23, 0, 1593, 1594, 1595, 123]), (2438, .iload 6, 2440, []), (2440, .if_icmp .eq 5, 2443, [2445]), (2445, .iload 6, 2447, []), (2447, .ifCond .ne 15, 2450, [2462]), (2462, .goto 469, 2465, [2931]), (2465, .aload_n 1, 2466, []), (2466, .aload_n 0, 2467, []), (2467, .iload 5, 2469, []), (2469, .iconst 1, 2470, []), (2470, .iadd, 2471, []), (2471, .iaload, 2472, []), (2472, .aload_n 0, 2473, []), (2473, .iload 5, 2475, []), (2475, .iconst 2, 2476, []), (2476, .iadd, 2477, []), (2477, .iaload, 2478, []), (2478, .aload_n 3, 2479, []), (2479, .invokestatic 285, 2482, [1, 99, 4, 0, 0, 1422, 1423, 114]), (2482, .istore 6, 2484, []), (2484, .aload_n 2, 2485, []), (2485, .aload_n 0, 2486, []), (2486, .iload 5, 2488, []), (2488, .iconst 1, 2489, []), (2489, .iadd, 2490, []), (2490, .iaload, 2491, []), (2491, .aload_n 0, 2492, []), (2492, .iload 5, 2494, []), (2494, .iconst 2, 2495, []), (2495, .iadd, 2496, []), (2496, .iaload, 2497, [])]
def s_c0_20 : List sN := [(2497, .invokevirtual 287, 2500, [3, 151, 3, 23, 0, 2484, 2485, 2486, 123]), (2500, .istore 7, 2502, []), (2502, .aload_n 2, 2503, []), (2503, .invokevirtual 167, 2506, [3, 163, 1, 23, 0, 1593, 1594, 1595, 123]), (2506, .iload 6, 2508, []), (2508, .if_icmp .eq 5, 2511, [2513]), (2513, .iload 6, 2515, []), (2515, .ifCond .ne 15, 2518, [2530]), (2530, .goto 401, 2533, [2931]), (2533, .aload_n 1, 2534, []), (2534, .aload_n 0, 2535, []), (2535, .iload 5, 2537, []), (2537, .iconst 1, 2538, []), (2538, .iadd, 2539, []), (2539, .iaload, 2540, []), (2540, .aload_n 0, 2541, []), (2541, .iload 5, 2543, []), (2543, .iconst 2, 2544, []), (2544, .iadd, 2545, []), (2545, .iaload, 2546, []), (2546, .aload_n 0, 2547, []), (2547, .iload 5, 2549, []), (2549, .iconst 3, 2550, []), (2550, .iadd, 2551, []), (2551, .iaload, 2552, []), (2552, .aload_n 3, 2553, []), (2553, .invokestatic 288, 2556, [1, 107, 5, 0, 0, 1440, 1441, 114]), (2556, .istore 6, 2558, []), (2558, .aload_n 2, 2559, []), (2559, .aload_n 0, 2560, []), (2560, .iload 5, 2562, []), (2562, .iconst 1, 2563, []), (2563, .iadd, 2564, []), (2564, .iaload, 2565, []), (2565, .aload_n 0, 2566, []), (2566, .iload 5, 2568, []), (2568, .iconst 2, 2569, []), (2569, .iadd, 2570, []), (2570, .iaload, 2571, []), (2571, .aload_n 0, 2572, []), (2572, .iload 5, 2574, []), (2574, .iconst 3, 2575, []), (2575, .iadd, 2576, []), (2576, .iaload, 2577, []), (2577, .invokevirtual 290, 2580, [3, 160, 4, 23, 0, 2509, 2510, 2511, 123]), (2580, .lstore 7, 2582, []), (2582, .aload_n 2, 2583, []), (2583, .invokevirtual 167, 2586, [3, 163, 1, 23, 0, 1593, 1594, 1595, 123]), (2586, .iload 6, 2588, []), (2588, .if_icmp .eq 5, 2591, [2593]), (2593, .iload 6, 2595, []), (2595, .ifCond .ne 14, 2598, [2609]), (2609, .goto 322, 2612, [2931]), (2612, .aload_n 1, 2613, []), (2613, .aload_n 0, 2614, []), (2614, .iload 5, 2616, []), (2616, .iconst 1, 2617, []), (2617, .iadd, 2618, []), (2618, .iaload, 2619, []), (2619, .aload_n 0, 2620, [])]
def s_c0_21 : List sN := [(2620, .iload 5, 2622, []), (2622, .iconst 2, 2623, []), (2623, .iadd, 2624, []), (2624, .iaload, 2625, []), (2625, .aload_n 0, 2626, []), (2626, .iload 5, 2628, []), (2628, .iconst 3, 2629, []), (2629, .iadd, 2630, []), (2630, .iaload, 2631, []), (2631, .aload_n 0, 2632, []), (2632, .iload 5, 2634, []), (2634, .iconst 4, 2635, []), (2635, .iadd, 2636, []), (2636, .iaload, 2637, []), (2637, .aload_n 3, 2638, []), (2638, .invokestatic 291, 2641, [1, 108, 6, 0, 0, 1483, 1484, 114]), (2641, .istore 6, 2643, []), (2643, .aload_n 2, 2644, []), (2644, .aload_n 0, 2645, []), (2645, .iload 5, 2647, []), (2647, .iconst 1, 2648, []), (2648, .iadd, 2649, []), (2649, .iaload, 2650, []), (2650, .aload_n 0, 2651, []), (2651, .iload 5, 2653, []), (2653, .iconst 2, 2654, []), (2654, .iadd, 2655, []), (2655, .iaload, 2656, []), (2656, .aload_n 0, 2657, []), (2657, .iload 5, 2659, []), (2659, .iconst 3, 2660, []), (2660, .iadd, 2661, []), (2661, .iaload, 2662, []), (2662, .aload_n 0, 2663, []), (2663, .iload 5, 2665, []), (2665, .iconst 4, 2666, []), (2666, .iadd, 2667, []), (2667, .iaload, 2668, []), (2668, .invokevirtual 293, 2671, [3, 161, 5, 23, 0, 2526, 2527, 2528, 123]), (2671, .istore 7, 2673, []), (2673, .aload_n 2, 2674, []), (2674, .invokevirtual 167, 2677, [3, 163, 1, 23, 0, 1593, 1594, 1595, 123]), (2677, .iload 6, 2679, []), (2679, .if_icmp .eq 5, 2682, [2684]), (2684, .iload 6, 2686, []), (2686, .ifCond .ne 15, 2689, [2701]), (2701, .goto 230, 2704, [2931]), (2704, .aload_n 1, 2705, []), (2705, .aload_n 0, 2706, []), (2706, .iload 5, 2708, []), (2708, .iconst 1, 2709, []), (2709, .iadd, 2710, []), (2710, .iaload, 2711, []), (2711, .aload_n 3, 2712, []), (2712, .invokestatic 294, 2715, [1, 98, 3, 0, 0, 1494, 1495, 114]), (2715, .istore 6, 2717, []), (2717, .aload_n 2, 2718, []), (2718, .aload_n 0, 2719, []), (2719, .iload 5, 2721, []), (2721, .iconst 1, 2722, [])]
def s_c0_22 : List sN := [(2722, .iadd, 2723, []), (2723, .iaload, 2724, []), (2724, .invokevirtual 296, 2727, [3, 150, 2, 23, 0, 2542, 2543, 2544, 123]), (2727, .istore 7, 2729, []), (2729, .aload_n 2, 2730, []), (2730, .invokevirtual 167, 2733, [3, 163, 1, 23, 0, 1593, 1594, 1595, 123]), (2733, .iload 6, 2735, []), (2735, .if_icmp .eq 5, 2738, [2740]), (2740, .iload 6, 2742, []), (2742, .ifCond .ne 15, 2745, [2757]), (2745, .aload_n 3, 2746, []), (2746, .iconst 0, 2747, []), (2747, .laload, 2748, []), (2748, .iload 7, 2750, []), (2750, .i2l, 2751, []), (2751, .lcmp, 2752, []), (2752, .ifCond .eq 5, 2755, [2757]), (2757, .goto 174, 2760, [2931]), (2760, .aload_n 1, 2761, []), (2761, .invokevirtual 297, 2764, [3, 51, 1, 20, 0, 390, 391, 392, 115]), (2764, .aload_n 2, 2765, []), (2765, .invokevirtual 300, 2768, [3, 164, 1, 23, 0, 2547, 2548, 2549, 123]), (2768, .if_icmp .eq 163, 2771, [2931]), (2773, .aload_n 1, 2774, []), (2774, .invokevirtual 301, 2777, [3, 10, 1, 20, 0, 394, 395, 396, 115]), (2777, .aload_n 2, 2778, []), (2778, .invokevirtual 305, 2781, [3, 122, 1, 23, 0, 2551, 2552, 2553, 123]), (2781, .lcmp, 2782, []), (2782, .ifCond .eq 149, 2785, [2931]), (2787, .aload_n 1, 2788, []), (2788, .aload 4, 2790, []), (2790, .invokestatic 306, 2793, [1, 86, 2, 0, 0, 1502, 1503, 114]), (2793, .istore 6, 2795, []), (2795, .aload_n 2, 2796, []), (2796, .invokevirtual 309, 2799, [3, 130, 1, 23, 0, 2557, 2558, 2559, 123]), (2799, .fstore 7, 2801, []), (2801, .aload_n 2, 2802, []), (2802, .invokevirtual 167, 2805, [3, 163, 1, 23, 0, 1593, 1594, 1595, 123]), (2805, .iload 6, 2807, []), (2807, .if_icmp .eq 5, 2810, [2812]), (2812, .iload 6, 2814, []), (2814, .ifCond .ne 36, 2817, [2850]), (2850, .goto 81, 2853, [2931]), (2853, .aload_n 1, 2854, []), (2854, .aload 4, 2856, []), (2856, .invokestatic 310, 2859, [1, 91, 2, 0, 0, 1513, 1514, 114]), (2859, .istore 6, 2861, []), (2861, .aload_n 2, 2862, []), (2862, .invokevirtual 312, 2865, [3, 139, 1, 23, 0, 2562, 2563, 2564, 123]), (2865, .dstore 7, 2867, []), (2867, .aload_n 2, 2868, []), (2868, .invokevirtual 167, 2871, [3, 163, 1, 23, 0, 1593, 1594, 1595, 123]), (2871, .iload 6, 2873, []), (2873, .if_icmp .eq 5, 2876, [2878]), (2878, .iload 6, 2880, []), (2880, .ifCond .ne 35, 2883, [2915]), (2915, .goto 16, 2918, [2931]), (2918, .aload_n 1, 2919, []), (2919, .invokevirtual 313, 2922, [3, 23, 1, 20, 0, 416, 417, 418, 115]), (2922, .aload_n 2, 2923, [])]
def s_c0_23 : List sN := [(2923, .invokevirtual 317, 2926, [3, 136, 1, 23, 0, 2566, 2567, 2568, 123]), (2926, .if_icmp .eq 5, 2929, [2931]), (2931, .iinc 5 6, 2934, []), (2934, .goto (-2906), 2937, [28]), (2937, .iconst 1, 2938, []), (2938, .ireturn, 2939, [1])]
def s_c0 : List sN := s_c0_0 ++ (s_c0_1 ++ (s_c0_2 ++ (s_c0_3 ++ (s_c0_4 ++ (s_c0_5 ++ (s_c0_6 ++ (s_c0_7 ++ (s_c0_8 ++ (s_c0_9 ++ (s_c0_10 ++ (s_c0_11 ++ (s_c0_12 ++ (s_c0_13 ++ (s_c0_14 ++ (s_c0_15 ++ (s_c0_16 ++ (s_c0_17 ++ (s_c0_18 ++ (s_c0_19 ++ (s_c0_20 ++ (s_c0_21 ++ (s_c0_22 ++ (s_c0_23)))))))))))))))))))))))
/-- Taperhall.<init>()V -/
def s_c1 : List sN := [(0, .aload_n 0, 1, []), (1, .invokespecial 3, 4, [0, 167, 168, 169]), (4, .aload_n 0, 5, []), (5, .new 9, 8, [0, 11, 170, 171, 116]), (8, .dup, 9, []), (9, .invokespecial 11, 12, [12, 58, 1, 1000, 1, 173, 116, 172]), (12, .putfield 12, 15, [19, 0, 4, 296, 0, 1, 0]), (15, .aload_n 0, 16, []), (16, .new 16, 19, [0, 15, 209, 210, 120]), (19, .dup, 20, []), (20, .invokespecial 18, 23, [12, 66, 1, 1000, 1, 212, 120, 211]), (23, .putfield 19, 26, [19, 1, 4, 297, 0, 1, 0]), (26, .aload_n 0, 27, []), (27, .new 23, 30, [0, 8, 237, 177, 119]), (30, .dup, 31, []), (31, .invokespecial 25, 34, [2, 194, 1, 1000, 0, 238, 179, 119]), (34, .putfield 26, 37, [19, 2, 4, 298, 0, 1, 0]), (37, .aload_n 0, 38, []), (38, .sipush 240, 41, []), (41, .newarray .char, 43, [235]), (43, .putfield 30, 46, [19, 3, 4, 299, 0, 1, 0]), (46, .aload_n 0, 47, []), (47, .new 34, 50, [0, 18, 239, 240, 121]), (50, .dup, 51, []), (51, .invokespecial 36, 54, [12, 73, 1, 1000, 1, 242, 121, 241]), (54, .putfield 37, 57, [19, 4, 4, 300, 0, 1, 0]), (57, .aload_n 0, 58, []), (58, .new 41, 61, [0, 17, 268, 269, 122]), (61, .dup, 62, []), (62, .invokespecial 43, 65, [12, 72, 1, 1000, 1, 271, 122, 270]), (65, .putfield 44, 68, [19, 5, 4, 301, 0, 1, 0]), (68, .aload_n 0, 69, []), (69, .bipush 8, 71, []), (71, .putfield 48, 74, [19, 6, 0, 302, 0, 0, 0]), (74, .aload_n 0, 75, []), (75, .iconst 1, 76, []), (76, .putfield 52, 79, [19, 8, 0, 304, 0, 0, 0]), (79, .return_, 80, [])]
/-- Taperhall.answers(IIII)I -/
def s_c2 : List sN := [(0, .aload_n 0, 1, []), (1, .iload_n 1, 2, []), (2, .invokevirtual 141, 5, [3, 25, 2, 20, 0, 971, 973, 27, 115])]
/-- Taperhall.athlete(IIIII)I -/
def s_c3 : List sN := [(0, .iload_n 1, 1, []), (1, .iconst 0, 2, []), (2, .iconst 3, 3, []), (3, .invokestatic 70, 6, [1, 30, 3, 0, 0, 650, 651, 115]), (6, .iload_n 2, 7, []), (7, .iconst 0, 8, []), (8, .bipush 9, 10, []), (10, .invokestatic 70, 13, [1, 30, 3, 0, 0, 650, 651, 115]), (13, .iload_n 3, 14, []), (14, .iconst 0, 15, []), (15, .sipush 9999, 18, []), (18, .invokestatic 70, 21, [1, 30, 3, 0, 0, 650, 651, 115]), (21, .iload 4, 23, []), (23, .bipush 20, 25, []), (25, .bipush 60, 27, []), (27, .invokestatic 70, 30, [1, 30, 3, 0, 0, 650, 651, 115]), (30, .iload 5, 32, []), (32, .iconst 3, 33, []), (33, .bipush 15, 35, []), (35, .invokestatic 70, 38, [1, 30, 3, 0, 0, 650, 651, 115]), (38, .aload_n 0, 39, []), (39, .getfield 26, 42, [19, 2, 298, 0, 0, 0]), (42, .invokevirtual 127, 45, [3, 201, 1, 9, 0, 399, 347, 348, 119]), (45, .bipush 8, 47, []), (47, .if_icmp .lt 11, 50, [58]), (58, .aload_n 0, 59, []), (59, .getfield 26, 62, [19, 2, 298, 0, 0, 0]), (62, .invokevirtual 127, 65, [3, 201, 1, 9, 0, 399, 347, 348, 119]), (65, .istore 6, 67, []), (67, .aload_n 0, 68, []), (68, .getfield 26, 71, [19, 2, 298, 0, 0, 0]), (71, .new 128, 74, [0, 9, 414, 774, 154]), (74, .dup, 75, []), (75, .iload 6, 77, []), (77, .iload_n 1, 78, []), (78, .iload_n 2, 79, []), (79, .new 130, 82, [0, 10, 775, 776, 155]), (82, .dup, 83, []), (83, .iload_n 3, 84, []), (84, .iload 4, 86, []), (86, .iload 5, 88, []), (88, .invokespecial 132, 91, [12, 57, 4, 1000, 1, 778, 155, 777]), (91, .invokespecial 134, 94, [12, 56, 5, 1000, 1, 824, 154, 823]), (94, .invokevirtual 137, 97, [3, 195, 2, 9, 0, 944, 550, 551, 119]), (97, .pop, 98, []), (98, .iload 6, 100, []), (100, .ireturn, 101, [0])]
/-- Taperhall.best(I)I -/
def s_c4 : List sN := [(0, .aload_n 0, 1, []), (1, .iload_n 1, 2, []), (2, .invokevirtual 141, 5, [3, 25, 2, 20, 0, 971, 973, 27, 115])]
/-- Taperhall.body(IC)J -/
def s_c5 : List sN := [(0, .aload_n 0, 1, []), (1, .iload_n 1, 2, []), (2, .invokevirtual 141, 5, [3, 25, 2, 20, 0, 971, 973, 27, 115])]
/-- Taperhall.camp(II)I -/
def s_c6 : List sN := [(0, .aload_n 0, 1, []), (1, .iload_n 1, 2, []), (2, .invokevirtual 141, 5, [3, 25, 2, 20, 0, 971, 973, 27, 115])]
/-- Taperhall.cause(II)C -/
def s_c7 : List sN := [(0, .aload_n 0, 1, []), (1, .iload_n 1, 2, []), (2, .invokevirtual 141, 5, [3, 25, 2, 20, 0, 971, 973, 27, 115])]
/-- Taperhall.changeDay(II)I -/
def s_c8 : List sN := [(0, .aload_n 0, 1, []), (1, .iload_n 1, 2, []), (2, .invokevirtual 141, 5, [3, 25, 2, 20, 0, 971, 973, 27, 115])]
/-- Taperhall.changes(I)I -/
def s_c9 : List sN := [(0, .aload_n 0, 1, []), (1, .iload_n 1, 2, []), (2, .invokevirtual 141, 5, [3, 25, 2, 20, 0, 971, 973, 27, 115])]
/-- Taperhall.checksum()J -/
def s_c10 : List sN := [(0, .ldc2_w 374, 3, [0, 7, 398]), (3, .lstore_n 1, 4, []), (4, .iconst 0, 5, []), (5, .istore_n 3, 6, []), (6, .iload_n 3, 7, []), (7, .aload_n 0, 8, []), (8, .getfield 26, 11, [19, 2, 298, 0, 0, 0]), (11, .invokevirtual 127, 14, [3, 201, 1, 9, 0, 399, 347, 348, 119]), (14, .if_icmp .ge 124, 17, [138]), (138, .ldc2_w 380, 141, [0, 31, 415]), (141, .lload_n 1, 142, []), (142, .lmul, 143, []), (143, .aload_n 0, 144, []), (144, .getfield 176, 147, [19, 7, 303, 0, 0, 0]), (147, .i2l, 148, []), (148, .ladd, 149, []), (149, .lstore_n 1, 150, []), (150, .ldc2_w 380, 153, [0, 31, 415]), (153, .lload_n 1, 154, []), (154, .lmul, 155, []), (155, .aload_n 0, 156, []), (156, .getfield 52, 159, [19, 8, 304, 0, 0, 0]), (159, .i2l, 160, []), (160, .ladd, 161, []), (161, .lreturn, 162, [])]
/-- Taperhall.comeBack(II)I -/
def s_c11 : List sN := [(0, .aload_n 0, 1, []), (1, .iload_n 1, 2, []), (2, .invokevirtual 141, 5, [3, 25, 2, 20, 0, 971, 973, 27, 115])]
/-- Taperhall.drop(II)C -/
def s_c12 : List sN := [(0, .aload_n 0, 1, []), (1, .iload_n 1, 2, []), (2, .invokevirtual 141, 5, [3, 25, 2, 20, 0, 971, 973, 27, 115])]
/-- Taperhall.fault()I -/
def s_c13 : List sN := [(0, .aload_n 0, 1, []), (1, .getfield 19, 4, [19, 1, 297, 0, 0, 0]), (4, .aload_n 0, 5, []), (5, .getfield 12, 8, [19, 0, 296, 0, 0, 0]), (8, .invokevirtual 55, 11, [13, 61, 1, 12, 1, 344, 2, 116, 342]), (11, .invokevirtual 120, 14, [13, 69, 2, 16, 1, 352, 3, 120, 350]), (14, .ireturn, 15, [0])]
/-- Taperhall.felt(II)I -/
def s_c14 : List sN := [(0, .aload_n 0, 1, []), (1, .iload_n 1, 2, []), (2, .invokevirtual 141, 5, [3, 25, 2, 20, 0, 971, 973, 27, 115])]
/-- Taperhall.fit(IIC)J -/
def s_c15 : List sN := [(0, .aload_n 0, 1, []), (1, .iload_n 1, 2, []), (2, .invokevirtual 141, 5, [3, 25, 2, 20, 0, 971, 973, 27, 115])]
/-- Taperhall.fitShare()F -/
def s_c16 : List sN := [(0, .aload_n 0, 1, []), (1, .getfield 26, 4, [19, 2, 298, 0, 0, 0]), (4, .invokevirtual 382, 7, [3, 199, 1, 9, 0, 1509, 1510, 1511, 119]), (7, .ifCond .eq 11, 10, [18]), (10, .new 102, 13, [1, 3, 0, 104, 738, 144])]
/-- Taperhall.forecast(III)J -/
def s_c17 : List sN := [(0, .aload_n 0, 1, []), (1, .iload_n 1, 2, []), (2, .invokevirtual 141, 5, [3, 25, 2, 20, 0, 971, 973, 27, 115])]
/-- Taperhall.goThroughDay()V -/
def s_c18 : List sN := [(0, .iconst 0, 1, []), (1, .istore_n 1, 2, []), (2, .iload_n 1, 3, []), (3, .aload_n 0, 4, []), (4, .getfield 26, 7, [19, 2, 298, 0, 0, 0]), (7, .invokevirtual 127, 10, [3, 201, 1, 9, 0, 399, 347, 348, 119]), (10, .if_icmp .ge 24, 13, [34]), (34, .iconst 0, 35, []), (35, .istore_n 1, 36, []), (36, .iload_n 1, 37, []), (37, .aload_n 0, 38, []), (38, .getfield 26, 41, [19, 2, 298, 0, 0, 0]), (41, .invokevirtual 127, 44, [3, 201, 1, 9, 0, 399, 347, 348, 119]), (44, .if_icmp .ge 24, 47, [68]), (68, .iconst 0, 69, []), (69, .istore_n 1, 70, []), (70, .iload_n 1, 71, []), (71, .aload_n 0, 72, []), (72, .getfield 26, 75, [19, 2, 298, 0, 0, 0]), (75, .invokevirtual 127, 78, [3, 201, 1, 9, 0, 399, 347, 348, 119]), (78, .if_icmp .ge 24, 81, [102]), (102, .aload_n 0, 103, []), (103, .dup, 104, []), (104, .getfield 176, 107, [19, 7, 303, 0, 0, 0]), (107, .iconst 1, 108, []), (108, .iadd, 109, []), (109, .putfield 176, 112, [19, 7, 0, 303, 0, 0, 0]), (112, .return_, 113, [])]
/-- Taperhall.ill(II)I -/
def s_c19 : List sN := [(0, .aload_n 0, 1, []), (1, .iload_n 1, 2, []), (2, .invokevirtual 141, 5, [3, 25, 2, 20, 0, 971, 973, 27, 115])]
/-- Taperhall.isCount(C)Z -/
def s_c20 : List sN := [(0, .iload_n 0, 1, []), (1, .bipush 50, 3, []), (3, .if_icmp .lt 13, 6, [16]), (6, .iload_n 0, 7, []), (7, .bipush 57, 9, []), (9, .if_icmp .gt 7, 12, [16]), (12, .iconst 1, 13, []), (13, .goto 4, 16, [17]), (16, .iconst 0, 17, []), (17, .ireturn, 18, [1])]
/-- Taperhall.isQualified(I)Z -/
def s_c21 : List sN := [(0, .aload_n 0, 1, []), (1, .iload_n 1, 2, []), (2, .invokevirtual 141, 5, [3, 25, 2, 20, 0, 971, 973, 27, 115])]
/-- Taperhall.isSmallLetter(C)Z -/
def s_c22 : List sN := [(0, .iload_n 0, 1, []), (1, .bipush 97, 3, []), (3, .if_icmp .lt 13, 6, [16]), (6, .iload_n 0, 7, []), (7, .bipush 122, 9, []), (9, .if_icmp .gt 7, 12, [16]), (12, .iconst 1, 13, []), (13, .goto 4, 16, [17]), (16, .iconst 0, 17, []), (17, .ireturn, 18, [1])]
/-- Taperhall.isSound()Z -/
def s_c23 : List sN := [(0, .iconst 0, 1, []), (1, .istore_n 1, 2, []), (2, .iload_n 1, 3, []), (3, .aload_n 0, 4, []), (4, .getfield 26, 7, [19, 2, 298, 0, 0, 0]), (7, .invokevirtual 127, 10, [3, 201, 1, 9, 0, 399, 347, 348, 119]), (10, .if_icmp .ge 78, 13, [88]), (88, .iconst 1, 89, []), (89, .ireturn, 90, [1])]
/-- Taperhall.isTypable(C)Z -/
def s_c24 : List sN := [(0, .iload_n 0, 1, []), (1, .invokestatic 398, 4, [1, 22, 1, 0, 0, 753, 362, 115]), (4, .ifCond .ne 28, 7, [32]), (7, .iload_n 0, 8, []), (8, .invokestatic 401, 11, [1, 20, 1, 0, 0, 754, 359, 115]), (11, .ifCond .ne 21, 14, [32]), (14, .iload_n 0, 15, []), (15, .bipush 46, 17, []), (17, .if_icmp .eq 15, 20, [32]), (20, .iload_n 0, 21, []), (21, .bipush 40, 23, []), (23, .if_icmp .eq 9, 26, [32]), (26, .iload_n 0, 27, []), (27, .bipush 41, 29, []), (29, .if_icmp .ne 7, 32, [36]), (32, .iconst 1, 33, []), (33, .goto 4, 36, [37]), (36, .iconst 0, 37, []), (37, .ireturn, 38, [1])]
/-- Taperhall.known(I)LTaperhall$Athlete; -/
def s_c25 : List sN := [(0, .iload_n 1, 1, []), (1, .ifCond .lt 14, 4, [15]), (4, .iload_n 1, 5, []), (5, .aload_n 0, 6, []), (6, .getfield 26, 9, [19, 2, 298, 0, 0, 0]), (9, .invokevirtual 127, 12, [3, 201, 1, 9, 0, 399, 347, 348, 119]), (12, .if_icmp .lt 11, 15, [23]), (15, .new 389, 18, [1, 2, 0, 391, 975, 146])]
/-- Taperhall.knownSession(C)LTaperhall$Session; -/
def s_c26 : List sN := [(0, .aload_n 0, 1, []), (1, .getfield 12, 4, [19, 0, 296, 0, 0, 0]), (4, .iload_n 1, 5, []), (5, .invokevirtual 392, 8, [13, 59, 2, 12, 1, 439, 14, 116, 634]), (8, .astore_n 2, 9, []), (9, .aload_n 2, 10, []), (10, .ifnonnull 11, 13, [21]), (13, .new 108, 16, [1, 1, 0, 110, 635, 140])]
/-- Taperhall.load(CC)I -/
def s_c27 : List sN := [(0, .aload_n 0, 1, []), (1, .iload_n 1, 2, []), (2, .invokevirtual 66, 5, [3, 26, 2, 20, 0, 630, 632, 20, 115])]
/-- Taperhall.meanFelt()D -/
def s_c28 : List sN := [(0, .aload_n 0, 1, []), (1, .getfield 26, 4, [19, 2, 298, 0, 0, 0]), (4, .invokevirtual 382, 7, [3, 199, 1, 9, 0, 1509, 1510, 1511, 119]), (7, .ifCond .ne 10, 10, [17]), (17, .new 102, 20, [1, 3, 0, 104, 738, 144])]
/-- Taperhall.needElement(II)V -/
def s_c29 : List sN := [(0, .iload_n 0, 1, []), (1, .ifCond .lt 8, 4, [9]), (4, .iload_n 0, 5, []), (5, .iload_n 1, 6, []), (6, .if_icmp .lt 11, 9, [17]), (9, .new 224, 12, [1, 5, 0, 226, 1058, 143]), (17, .return_, 18, [])]
/-- Taperhall.needRange(III)V -/
def s_c30 : List sN := [(0, .iload_n 0, 1, []), (1, .iload_n 1, 2, []), (2, .if_icmp .lt 8, 5, [10]), (5, .iload_n 0, 6, []), (6, .iload_n 2, 7, []), (7, .if_icmp .le 11, 10, [18]), (10, .new 108, 13, [1, 1, 0, 110, 635, 140]), (18, .return_, 19, [])]
/-- Taperhall.needUnit(C)V -/
def s_c31 : List sN := [(0, .iload_n 0, 1, []), (1, .bipush 109, 3, []), (3, .if_icmp .eq 23, 6, [26]), (6, .iload_n 0, 7, []), (7, .bipush 114, 9, []), (9, .if_icmp .eq 17, 12, [26]), (12, .iload_n 0, 13, []), (13, .bipush 116, 15, []), (15, .if_icmp .eq 11, 18, [26]), (18, .new 108, 21, [1, 1, 0, 110, 635, 140]), (26, .return_, 27, [])]
/-- Taperhall.pass(I)I -/
def s_c32 : List sN := [(0, .iload_n 1, 1, []), (1, .iconst 1, 2, []), (2, .bipush 30, 4, []), (4, .invokestatic 70, 7, [1, 30, 3, 0, 0, 650, 651, 115]), (7, .aload_n 0, 8, []), (8, .getfield 176, 11, [19, 7, 303, 0, 0, 0]), (11, .iload_n 1, 12, []), (12, .iadd, 13, []), (13, .sipush 239, 16, []), (16, .if_icmp .le 11, 19, [27]), (27, .iconst 0, 28, []), (28, .istore_n 2, 29, []), (29, .iload_n 2, 30, []), (30, .iload_n 1, 31, []), (31, .if_icmp .ge 13, 34, [44]), (34, .aload_n 0, 35, []), (35, .invokevirtual 234, 38, [3, 18, 1, 20, 0, 1116, 1118, 39, 115]), (38, .iinc 2 1, 41, []), (41, .goto (-12), 44, [29]), (44, .aload_n 0, 45, []), (45, .getfield 176, 48, [19, 7, 303, 0, 0, 0]), (48, .ireturn, 49, [0])]
/-- Taperhall.peak(I)I -/
def s_c33 : List sN := [(0, .aload_n 0, 1, []), (1, .aload_n 0, 2, []), (2, .iload_n 1, 3, []), (3, .invokevirtual 141, 6, [3, 25, 2, 20, 0, 971, 973, 27, 115])]
/-- Taperhall.plan(II)I -/
def s_c34 : List sN := [(0, .aload_n 0, 1, []), (1, .iload_n 1, 2, []), (2, .invokevirtual 141, 5, [3, 25, 2, 20, 0, 971, 973, 27, 115])]
/-- Taperhall.planned(II)C -/
def s_c35 : List sN := [(0, .aload_n 0, 1, []), (1, .iload_n 1, 2, []), (2, .invokevirtual 141, 5, [3, 25, 2, 20, 0, 971, 973, 27, 115])]
/-- Taperhall.qualifiedAt(I)I -/
def s_c36 : List sN := [(0, .iconst 0, 1, []), (1, .istore_n 2, 2, []), (2, .iload_n 2, 3, []), (3, .aload_n 0, 4, []), (4, .getfield 26, 7, [19, 2, 298, 0, 0, 0]), (7, .invokevirtual 127, 10, [3, 201, 1, 9, 0, 399, 347, 348, 119]), (10, .if_icmp .ge 39, 13, [49]), (49, .iconst (-1), 50, []), (50, .ireturn, 51, [0])]
/-- Taperhall.race(I)I -/
def s_c37 : List sN := [(0, .aload_n 0, 1, []), (1, .iload_n 1, 2, []), (2, .invokevirtual 141, 5, [3, 25, 2, 20, 0, 971, 973, 27, 115])]
/-- Taperhall.rivals(I)I -/
def s_c38 : List sN := [(0, .aload_n 0, 1, []), (1, .iload_n 1, 2, []), (2, .invokevirtual 141, 5, [3, 25, 2, 20, 0, 971, 973, 27, 115])]
/-- Taperhall.seed(I)I -/
def s_c39 : List sN := [(0, .iload_n 1, 1, []), (1, .iconst 1, 2, []), (2, .ldc_w 373, 5, [0, 2147483646, 1501]), (5, .invokestatic 70, 8, [1, 30, 3, 0, 0, 650, 651, 115]), (8, .aload_n 0, 9, []), (9, .getfield 52, 12, [19, 8, 304, 0, 0, 0]), (12, .istore_n 2, 13, []), (13, .aload_n 0, 14, []), (14, .iload_n 1, 15, []), (15, .putfield 52, 18, [19, 8, 0, 304, 0, 0, 0]), (18, .iload_n 2, 19, []), (19, .ireturn, 20, [0])]
/-- Taperhall.selected(II)I -/
def s_c40 : List sN := [(0, .iload_n 1, 1, []), (1, .iconst 1, 2, []), (2, .bipush 8, 4, []), (4, .invokestatic 70, 7, [1, 30, 3, 0, 0, 650, 651, 115]), (7, .iload_n 2, 8, []), (8, .iload_n 1, 9, []), (9, .invokestatic 274, 12, [1, 29, 2, 0, 0, 1247, 1248, 115]), (12, .aload_n 0, 13, []), (13, .iload_n 2, 14, []), (14, .invokevirtual 354, 17, [3, 36, 2, 20, 0, 1429, 1431, 78, 115]), (17, .istore_n 3, 18, []), (18, .iload_n 3, 19, []), (19, .ifCond .ge 11, 22, [30]), (22, .new 224, 25, [1, 5, 0, 226, 1058, 143])]
/-- Taperhall.session()C -/
def s_c41 : List sN := [(0, .aload_n 0, 1, []), (1, .getfield 12, 4, [19, 0, 296, 0, 0, 0]), (4, .invokevirtual 55, 7, [13, 61, 1, 12, 1, 344, 2, 116, 342]), (7, .bipush 10, 9, []), (9, .if_icmp .lt 11, 12, [20]), (20, .aload_n 0, 21, []), (21, .getfield 12, 24, [19, 0, 296, 0, 0, 0]), (24, .invokevirtual 62, 27, [13, 60, 1, 12, 1, 523, 16, 116, 521]), (27, .ireturn, 28, [2])]
/-- Taperhall.set(CIII)I -/
def s_c42 : List sN := [(0, .aload_n 0, 1, []), (1, .iload_n 1, 2, []), (2, .invokevirtual 66, 5, [3, 26, 2, 20, 0, 630, 632, 20, 115])]
/-- Taperhall.setCeiling(II)I -/
def s_c43 : List sN := [(0, .aload_n 0, 1, []), (1, .iload_n 1, 2, []), (2, .invokevirtual 141, 5, [3, 25, 2, 20, 0, 971, 973, 27, 115])]
/-- Taperhall.setError(I)I -/
def s_c44 : List sN := [(0, .iload_n 1, 1, []), (1, .iconst 0, 2, []), (2, .bipush 99, 4, []), (4, .invokestatic 70, 7, [1, 30, 3, 0, 0, 650, 651, 115]), (7, .aload_n 0, 8, []), (8, .getfield 286, 11, [19, 9, 305, 0, 0, 0]), (11, .istore_n 2, 12, []), (12, .aload_n 0, 13, []), (13, .iload_n 1, 14, []), (14, .putfield 286, 17, [19, 9, 0, 305, 0, 0, 0]), (17, .iload_n 2, 18, []), (18, .ireturn, 19, [0])]
/-- Taperhall.setLanes(I)I -/
def s_c45 : List sN := [(0, .iload_n 1, 1, []), (1, .iconst 0, 2, []), (2, .bipush 8, 4, []), (4, .invokestatic 70, 7, [1, 30, 3, 0, 0, 650, 651, 115]), (7, .aload_n 0, 8, []), (8, .getfield 48, 11, [19, 6, 302, 0, 0, 0]), (11, .istore_n 2, 12, []), (12, .aload_n 0, 13, []), (13, .iload_n 1, 14, []), (14, .putfield 48, 17, [19, 6, 0, 302, 0, 0, 0]), (17, .iload_n 2, 18, []), (18, .ireturn, 19, [0])]
/-- Taperhall.setStandard(I)I -/
def s_c46 : List sN := [(0, .iload_n 1, 1, []), (1, .sipush (-9999), 4, []), (4, .ldc 98, 6, [0, 99999, 732]), (6, .invokestatic 70, 9, [1, 30, 3, 0, 0, 650, 651, 115]), (9, .aload_n 0, 10, []), (10, .getfield 335, 13, [19, 10, 306, 0, 0, 0]), (13, .istore_n 2, 14, []), (14, .aload_n 0, 15, []), (15, .iload_n 1, 16, []), (16, .putfield 335, 19, [19, 10, 0, 306, 0, 0, 0]), (19, .iload_n 2, 20, []), (20, .ireturn, 21, [0])]
/-- Taperhall.shift(III)I -/
def s_c47 : List sN := [(0, .aload_n 0, 1, []), (1, .iload_n 1, 2, []), (2, .invokevirtual 141, 5, [3, 25, 2, 20, 0, 971, 973, 27, 115])]
/-- Taperhall.taper(III)J -/
def s_c48 : List sN := [(0, .aload_n 0, 1, []), (1, .iload_n 1, 2, []), (2, .invokevirtual 141, 5, [3, 25, 2, 20, 0, 971, 973, 27, 115])]
/-- Taperhall.taperAt(IIII)C -/
def s_c49 : List sN := [(0, .aload_n 0, 1, []), (1, .iload_n 1, 2, []), (2, .invokevirtual 141, 5, [3, 25, 2, 20, 0, 971, 973, 27, 115])]
/-- Taperhall.test(I)I -/
def s_c50 : List sN := [(0, .aload_n 0, 1, []), (1, .iload_n 1, 2, []), (2, .invokevirtual 141, 5, [3, 25, 2, 20, 0, 971, 973, 27, 115])]
/-- Taperhall.today()I -/
def s_c51 : List sN := [(0, .aload_n 0, 1, []), (1, .getfield 176, 4, [19, 7, 303, 0, 0, 0]), (4, .ireturn, 5, [0])]
/-- Taperhall.turn(ICC)J -/
def s_c52 : List sN := [(0, .iload_n 2, 1, []), (1, .invokestatic 90, 4, [1, 31, 1, 0, 0, 690, 691, 115]), (4, .iload_n 3, 5, []), (5, .invokestatic 90, 8, [1, 31, 1, 0, 0, 690, 691, 115]), (8, .iload_n 1, 9, []), (9, .iconst 0, 10, []), (10, .ldc 98, 12, [0, 99999, 732]), (12, .invokestatic 70, 15, [1, 30, 3, 0, 0, 650, 651, 115]), (15, .aload_n 0, 16, []), (16, .getfield 12, 19, [19, 0, 296, 0, 0, 0]), (19, .iload_n 2, 20, []), (20, .invokevirtual 99, 23, [13, 62, 2, 12, 1, 735, 25, 116, 733]), (23, .lstore 4, 25, []), (25, .lload 4, 27, []), (27, .lconst 0, 28, []), (28, .lcmp, 29, []), (29, .ifCond .ne 11, 32, [40]), (32, .new 102, 35, [1, 3, 0, 104, 738, 144])]
/-- Taperhall.type(C)I -/
def s_c53 : List sN := [(0, .iload_n 1, 1, []), (1, .invokestatic 105, 4, [1, 24, 1, 0, 0, 750, 751, 115]), (4, .ifCond .ne 11, 7, [15]), (7, .new 108, 10, [1, 1, 0, 110, 635, 140]), (15, .aload_n 0, 16, []), (16, .getfield 19, 19, [19, 1, 297, 0, 0, 0]), (19, .getfield 111, 22, [15, 4, 220, 1, 0, 0]), (22, .bipush 24, 24, []), (24, .if_icmp .lt 11, 27, [35]), (35, .aload_n 0, 36, []), (36, .getfield 19, 39, [19, 1, 297, 0, 0, 0]), (39, .iload_n 1, 40, []), (40, .invokevirtual 114, 43, [13, 67, 2, 16, 1, 757, 26, 120, 755]), (43, .ireturn, 44, [0])]
/-- Taperhall.unfolds()I -/
def s_c54 : List sN := [(0, .aload_n 0, 1, []), (1, .getfield 19, 4, [19, 1, 297, 0, 0, 0]), (4, .aload_n 0, 5, []), (5, .getfield 12, 8, [19, 0, 296, 0, 0, 0]), (8, .invokevirtual 55, 11, [13, 61, 1, 12, 1, 344, 2, 116, 342]), (11, .invokevirtual 120, 14, [13, 69, 2, 16, 1, 352, 3, 120, 350]), (14, .iconst (-1), 15, []), (15, .if_icmp .eq 11, 18, [26]), (18, .new 59, 21, [1, 0, 0, 61, 452, 131])]
/-- Taperhall.wipe()I -/
def s_c55 : List sN := [(0, .aload_n 0, 1, []), (1, .getfield 19, 4, [19, 1, 297, 0, 0, 0]), (4, .invokevirtual 117, 7, [13, 68, 1, 16, 1, 336, 1, 120, 334]), (7, .ireturn, 8, [0])]
/-- Taperhall$Athlete.<init>(IIILTaperhall$Body;)V -/
def s_c56 : List sN := [(0, .aload_n 0, 1, []), (1, .invokespecial 1, 4, [0, 826, 168, 169]), (4, .aload_n 0, 5, []), (5, .new 7, 8, [0, 12, 827, 427, 156]), (8, .dup, 9, []), (9, .invokespecial 9, 12, [12, 63, 1, 1000, 1, 829, 156, 828]), (12, .putfield 10, 15, [9, 4, 4, 907, 0, 1, 0]), (15, .aload_n 0, 16, []), (16, .new 16, 19, [0, 14, 843, 844, 157]), (19, .dup, 20, []), (20, .invokespecial 18, 23, [12, 65, 1, 1000, 1, 846, 157, 845]), (23, .putfield 19, 26, [9, 5, 4, 909, 0, 1, 0]), (26, .aload_n 0, 27, []), (27, .new 23, 30, [0, 13, 860, 861, 158]), (30, .dup, 31, []), (31, .invokespecial 25, 34, [12, 64, 1, 1000, 1, 863, 158, 862]), (34, .putfield 26, 37, [9, 6, 4, 911, 0, 1, 0]), (37, .aload_n 0, 38, []), (38, .sipush 9999, 41, []), (41, .putfield 30, 44, [9, 7, 0, 913, 0, 0, 0]), (44, .aload_n 0, 45, []), (45, .iload_n 1, 46, []), (46, .putfield 34, 49, [9, 0, 0, 899, 0, 1, 0]), (49, .aload_n 0, 50, []), (50, .iload_n 2, 51, []), (51, .putfield 37, 54, [9, 1, 0, 901, 0, 1, 0]), (54, .aload_n 0, 55, []), (55, .iload_n 3, 56, []), (56, .putfield 40, 59, [9, 2, 0, 903, 0, 1, 0]), (59, .aload_n 0, 60, []), (60, .aload 4, 62, []), (62, .putfield 43, 65, [9, 3, 4, 905, 0, 1, 0]), (65, .return_, 66, [])]
/-- Taperhall$Body.<init>(III)V -/
def s_c57 : List sN := [(0, .aload_n 0, 1, []), (1, .invokespecial 3, 4, [0, 780, 168, 169]), (4, .aload_n 0, 5, []), (5, .sipush 200, 8, []), (8, .putfield 9, 11, [10, 2, 0, 787, 0, 0, 0]), (11, .aload_n 0, 12, []), (12, .iconst (-1), 13, []), (13, .putfield 15, 16, [10, 7, 0, 795, 0, 0, 0]), (16, .aload_n 0, 17, []), (17, .iload_n 1, 18, []), (18, .putfield 18, 21, [10, 0, 0, 783, 0, 1, 0]), (21, .aload_n 0, 22, []), (22, .new 21, 25, [0, 18, 781, 240, 121]), (25, .dup, 26, []), (26, .invokespecial 23, 29, [12, 73, 1, 1000, 1, 242, 121, 782]), (29, .putfield 24, 32, [10, 1, 4, 785, 0, 1, 0]), (32, .aload_n 0, 33, []), (33, .getfield 24, 36, [10, 1, 785, 0, 0, 0]), (36, .iload_n 2, 37, []), (37, .putfield 28, 40, [18, 0, 0, 245, 1, 0, 0]), (40, .aload_n 0, 41, []), (41, .getfield 24, 44, [10, 1, 785, 0, 0, 0]), (44, .iload_n 3, 45, []), (45, .putfield 31, 48, [18, 1, 0, 247, 1, 0, 0]), (48, .return_, 49, [])]
/-- Taperhall$Book.<init>()V -/
def s_c58 : List sN := [(0, .aload_n 0, 1, []), (1, .invokespecial 1, 4, [0, 175, 168, 169]), (4, .aload_n 0, 5, []), (5, .new 7, 8, [0, 8, 176, 177, 119]), (8, .dup, 9, []), (9, .invokespecial 9, 12, [2, 194, 1, 1000, 0, 178, 179, 119]), (12, .putfield 10, 15, [11, 0, 4, 205, 0, 1, 0]), (15, .return_, 16, [])]
/-- Taperhall$Book.find(C)LTaperhall$Session; -/
def s_c59 : List sN := [(0, .iload_n 1, 1, []), (1, .bipush 97, 3, []), (3, .isub, 4, []), (4, .istore_n 2, 5, []), (5, .iload_n 2, 6, []), (6, .ifCond .lt 28, 9, [34]), (9, .iload_n 2, 10, []), (10, .aload_n 0, 11, []), (11, .getfield 10, 14, [11, 0, 205, 0, 0, 0]), (14, .invokevirtual 16, 17, [3, 201, 1, 9, 0, 346, 347, 348, 119]), (17, .if_icmp .ge 17, 20, [34]), (34, .aconst_null, 35, []), (35, .areturn, 36, [])]
/-- Taperhall$Book.open()C -/
def s_c60 : List sN := [(0, .bipush 97, 2, []), (2, .aload_n 0, 3, []), (3, .getfield 10, 6, [11, 0, 205, 0, 0, 0]), (6, .invokevirtual 16, 9, [3, 201, 1, 9, 0, 346, 347, 348, 119]), (9, .iadd, 10, []), (10, .i2c, 11, []), (11, .istore_n 1, 12, []), (12, .aload_n 0, 13, []), (13, .getfield 10, 16, [11, 0, 205, 0, 0, 0]), (16, .new 20, 19, [0, 16, 442, 525, 132]), (19, .dup, 20, []), (20, .invokespecial 22, 23, [12, 71, 1, 1000, 1, 527, 132, 526]), (23, .invokevirtual 23, 26, [3, 195, 2, 9, 0, 549, 550, 551, 119]), (26, .pop, 27, []), (27, .iload_n 1, 28, []), (28, .ireturn, 29, [2])]
/-- Taperhall$Book.size()I -/
def s_c61 : List sN := [(0, .aload_n 0, 1, []), (1, .getfield 10, 4, [11, 0, 205, 0, 0, 0]), (4, .invokevirtual 16, 7, [3, 201, 1, 9, 0, 346, 347, 348, 119]), (7, .ireturn, 8, [0])]
/-- Taperhall$Book.sumIn(C)J -/
def s_c62 : List sN := [(0, .lconst 0, 1, []), (1, .lstore_n 2, 2, []), (2, .iconst 0, 3, []), (3, .istore 4, 5, []), (5, .iload 4, 7, []), (7, .aload_n 0, 8, []), (8, .getfield 10, 11, [11, 0, 205, 0, 0, 0]), (11, .invokevirtual 16, 14, [3, 201, 1, 9, 0, 346, 347, 348, 119]), (14, .if_icmp .ge 29, 17, [43]), (43, .lload_n 2, 44, []), (44, .lreturn, 45, [])]
/-- Taperhall$Diary.<init>()V -/
def s_c63 : List sN := [(0, .aload_n 0, 1, []), (1, .invokespecial 3, 4, [0, 831, 168, 169]), (4, .aload_n 0, 5, []), (5, .sipush 240, 8, []), (8, .newarray .char, 10, [235]), (10, .putfield 9, 13, [12, 0, 4, 832, 0, 1, 0]), (13, .aload_n 0, 14, []), (14, .sipush 240, 17, []), (17, .newarray .int, 19, [236]), (19, .putfield 15, 22, [12, 1, 4, 834, 0, 1, 0]), (22, .aload_n 0, 23, []), (23, .sipush 240, 26, []), (26, .newarray .int, 28, [236]), (28, .putfield 19, 31, [12, 2, 4, 835, 0, 1, 0]), (31, .iconst 0, 32, []), (32, .istore_n 1, 33, []), (33, .iload_n 1, 34, []), (34, .aload_n 0, 35, []), (35, .getfield 9, 38, [12, 0, 832, 0, 0, 0]), (38, .arraylength, 39, []), (39, .if_icmp .ge 17, 42, [56]), (42, .aload_n 0, 43, []), (43, .getfield 9, 46, [12, 0, 832, 0, 0, 0]), (46, .iload_n 1, 47, []), (47, .bipush 46, 49, []), (49, .castore, 50, []), (50, .iinc 1 1, 53, []), (53, .goto (-20), 56, [33]), (56, .return_, 57, [])]
/-- Taperhall$Fits.<init>()V -/
def s_c64 : List sN := [(0, .aload_n 0, 1, []), (1, .invokespecial 3, 4, [0, 865, 168, 169]), (4, .aload_n 0, 5, []), (5, .bipush 12, 7, []), (7, .newarray .int, 9, [236]), (9, .putfield 9, 12, [13, 0, 4, 868, 0, 1, 0]), (12, .aload_n 0, 13, []), (13, .bipush 12, 15, []), (15, .newarray .int, 17, [236]), (17, .putfield 15, 20, [13, 1, 4, 869, 0, 1, 0]), (20, .aload_n 0, 21, []), (21, .bipush 12, 23, []), (23, .newarray .int, 25, [236]), (25, .putfield 18, 28, [13, 2, 4, 870, 0, 1, 0]), (28, .aload_n 0, 29, []), (29, .sipush 143, 32, []), (32, .newarray .long, 34, [898]), (34, .putfield 21, 37, [13, 3, 4, 871, 0, 1, 0]), (37, .aload_n 0, 38, []), (38, .sipush 143, 41, []), (41, .newarray .long, 43, [898]), (43, .putfield 25, 46, [13, 4, 4, 872, 0, 1, 0]), (46, .aload_n 0, 47, []), (47, .new 28, 50, [0, 18, 866, 240, 121]), (50, .dup, 51, []), (51, .invokespecial 30, 54, [12, 73, 1, 1000, 1, 242, 121, 867]), (54, .putfield 31, 57, [13, 5, 4, 873, 0, 1, 0]), (57, .return_, 58, [])]
/-- Taperhall$Log.<init>()V -/
def s_c65 : List sN := [(0, .aload_n 0, 1, []), (1, .invokespecial 3, 4, [0, 848, 168, 169]), (4, .aload_n 0, 5, []), (5, .bipush 40, 7, []), (7, .newarray .char, 9, [235]), (9, .putfield 9, 12, [14, 0, 4, 849, 0, 1, 0]), (12, .aload_n 0, 13, []), (13, .bipush 40, 15, []), (15, .newarray .int, 17, [236]), (17, .putfield 15, 20, [14, 1, 4, 850, 0, 1, 0]), (20, .return_, 21, [])]
/-- Taperhall$Script.<init>()V -/
def s_c66 : List sN := [(0, .aload_n 0, 1, []), (1, .invokespecial 3, 4, [0, 214, 168, 169]), (4, .aload_n 0, 5, []), (5, .bipush 24, 7, []), (7, .newarray .char, 9, [235]), (9, .putfield 9, 12, [15, 0, 4, 215, 0, 1, 0]), (12, .aload_n 0, 13, []), (13, .bipush 60, 15, []), (15, .newarray .char, 17, [235]), (17, .putfield 15, 20, [15, 1, 4, 216, 0, 1, 0]), (20, .aload_n 0, 21, []), (21, .iconst 4, 22, []), (22, .newarray .int, 24, [236]), (24, .putfield 18, 27, [15, 2, 4, 217, 0, 1, 0]), (27, .aload_n 0, 28, []), (28, .iconst 4, 29, []), (29, .newarray .int, 31, [236]), (31, .putfield 22, 34, [15, 3, 4, 218, 0, 1, 0]), (34, .return_, 35, [])]
/-- Taperhall$Script.append(C)I -/
def s_c67 : List sN := [(0, .aload_n 0, 1, []), (1, .getfield 25, 4, [15, 4, 219, 0, 0, 0]), (4, .ifCond .lt 35, 7, [39]), (7, .aload_n 0, 8, []), (8, .getfield 25, 11, [15, 4, 219, 0, 0, 0]), (11, .aload_n 0, 12, []), (12, .getfield 9, 15, [15, 0, 215, 0, 0, 0]), (15, .arraylength, 16, []), (16, .if_icmp .ge 23, 19, [39]), (19, .aload_n 0, 20, []), (20, .getfield 9, 23, [15, 0, 215, 0, 0, 0]), (23, .aload_n 0, 24, []), (24, .getfield 25, 27, [15, 4, 219, 0, 0, 0]), (27, .iload_n 1, 28, []), (28, .castore, 29, []), (29, .aload_n 0, 30, []), (30, .dup, 31, []), (31, .getfield 25, 34, [15, 4, 219, 0, 0, 0]), (34, .iconst 1, 35, []), (35, .iadd, 36, []), (36, .putfield 25, 39, [15, 4, 0, 219, 0, 0, 0]), (39, .aload_n 0, 40, []), (40, .getfield 25, 43, [15, 4, 219, 0, 0, 0]), (43, .ireturn, 44, [0])]
/-- Taperhall$Script.clear()I -/
def s_c68 : List sN := [(0, .aload_n 0, 1, []), (1, .getfield 25, 4, [15, 4, 219, 0, 0, 0]), (4, .istore_n 1, 5, []), (5, .aload_n 0, 6, []), (6, .iconst 0, 7, []), (7, .putfield 25, 10, [15, 4, 0, 219, 0, 0, 0]), (10, .iload_n 1, 11, []), (11, .ireturn, 12, [0])]
/-- Taperhall$Script.faultPlace(I)I -/
def s_c69 : List sN := [(0, .aload_n 0, 1, []), (1, .iload_n 1, 2, []), (2, .invokevirtual 29, 5, [3, 70, 2, 16, 0, 354, 356, 4, 120]), (5, .istore_n 2, 6, []), (6, .iload_n 2, 7, []), (7, .iconst (-1), 8, []), (8, .if_icmp .ne 17, 11, [25]), (25, .iload_n 2, 26, []), (26, .ireturn, 27, [0])]
/-- Taperhall$Script.misfit(I)I -/
def s_c70 : List sN := [(0, .iconst 0, 1, []), (1, .istore_n 2, 2, []), (2, .iconst 0, 3, []), (3, .istore_n 3, 4, []), (4, .iconst 0, 5, []), (5, .istore 4, 7, []), (7, .iconst 0, 8, []), (8, .istore 5, 10, []), (10, .iload 5, 12, []), (12, .aload_n 0, 13, []), (13, .getfield 25, 16, [15, 4, 219, 0, 0, 0]), (16, .if_icmp .ge 129, 19, [145]), (145, .iload_n 3, 146, []), (146, .ifCond .ne 12, 149, [158]), (149, .iload_n 2, 150, []), (150, .ifCond .gt 8, 153, [158]), (153, .iload 4, 155, []), (155, .ifCond .ne 10, 158, [165]), (158, .aload_n 0, 159, []), (159, .getfield 25, 162, [15, 4, 219, 0, 0, 0]), (162, .goto 4, 165, [166]), (166, .ireturn, 167, [0])]
/-- Taperhall$Session.<init>()V -/
def s_c71 : List sN := [(0, .aload_n 0, 1, []), (1, .invokespecial 3, 4, [0, 529, 168, 169]), (4, .return_, 5, [])]
/-- Taperhall$Tapering.<init>()V -/
def s_c72 : List sN := [(0, .aload_n 0, 1, []), (1, .invokespecial 3, 4, [0, 273, 168, 169]), (4, .aload_n 0, 5, []), (5, .bipush 6, 7, []), (7, .newarray .int, 9, [236]), (9, .putfield 9, 12, [17, 0, 4, 276, 0, 1, 0]), (12, .aload_n 0, 13, []), (13, .new 15, 16, [0, 18, 274, 240, 121]), (16, .dup, 17, []), (17, .invokespecial 17, 20, [12, 73, 1, 1000, 1, 242, 121, 275]), (20, .putfield 18, 23, [17, 1, 4, 277, 0, 1, 0]), (23, .aload_n 0, 24, []), (24, .new 15, 27, [0, 18, 274, 240, 121]), (27, .dup, 28, []), (28, .invokespecial 17, 31, [12, 73, 1, 1000, 1, 242, 121, 275]), (31, .putfield 22, 34, [17, 2, 4, 278, 0, 1, 0]), (34, .return_, 35, [])]
/-- Taperhall$Trace.<init>()V -/
def s_c73 : List sN := [(0, .aload_n 0, 1, []), (1, .invokespecial 1, 4, [0, 244, 168, 169]), (4, .aload_n 0, 5, []), (5, .iconst 1, 6, []), (6, .putfield 7, 9, [18, 2, 0, 249, 0, 0, 0]), (9, .aload_n 0, 10, []), (10, .iconst 1, 11, []), (11, .putfield 13, 14, [18, 3, 0, 250, 0, 0, 0]), (14, .return_, 15, [])]
/-- TaperhallLaw.answers(LTaperhall;IIII[J)I -/
def s_c74 : List sN := [(0, .aload 5, 2, []), (2, .iconst 0, 3, []), (3, .aload_n 0, 4, []), (4, .iload_n 1, 5, []), (5, .iload_n 2, 6, []), (6, .iload_n 3, 7, []), (7, .iload 4, 9, []), (9, .invokevirtual 45, 12, [3, 2, 5, 20, 0, 967, 968, 969, 115]), (17, .astore 6, 19, []), (19, .iconst 1, 20, []), (20, .ireturn, 21, [0])]
/-- TaperhallLaw.athlete(LTaperhall;IIIII[J)I -/
def s_c75 : List sN := [(0, .aload 6, 2, []), (2, .iconst 0, 3, []), (3, .aload_n 0, 4, []), (4, .iload_n 1, 5, []), (5, .iload_n 2, 6, []), (6, .iload_n 3, 7, []), (7, .iload 4, 9, []), (9, .iload 5, 11, []), (11, .invokevirtual 41, 14, [3, 3, 6, 20, 0, 770, 771, 772, 115]), (14, .i2l, 15, []), (15, .lastore, 16, []), (16, .goto 11, 19, [27]), (19, .astore 7, 21, []), (21, .iconst 1, 22, []), (22, .ireturn, 23, [0]), (27, .iconst 0, 28, []), (28, .ireturn, 29, [0])]
/-- TaperhallLaw.best(LTaperhall;I[J)I -/
def s_c76 : List sN := [(0, .aload_n 2, 1, []), (1, .iconst 0, 2, []), (2, .aload_n 0, 3, []), (3, .iload_n 1, 4, []), (4, .invokevirtual 133, 7, [3, 4, 2, 20, 0, 1418, 1419, 1420, 115]), (12, .astore_n 3, 13, []), (13, .iconst 1, 14, []), (14, .ireturn, 15, [0])]
/-- TaperhallLaw.body(LTaperhall;IC[J)I -/
def s_c77 : List sN := [(0, .aload_n 3, 1, []), (1, .iconst 0, 2, []), (2, .aload_n 0, 3, []), (3, .iload_n 1, 4, []), (4, .iload_n 2, 5, []), (5, .invokevirtual 84, 8, [3, 5, 3, 20, 0, 1194, 1195, 1196, 115]), (12, .astore 4, 14, []), (14, .iconst 1, 15, []), (15, .ireturn, 16, [0])]
/-- TaperhallLaw.camp(LTaperhall;II[J)I -/
def s_c78 : List sN := [(0, .aload_n 3, 1, []), (1, .iconst 0, 2, []), (2, .aload_n 0, 3, []), (3, .iload_n 1, 4, []), (4, .iload_n 2, 5, []), (5, .invokevirtual 103, 8, [3, 6, 3, 20, 0, 1268, 1269, 1270, 115]), (13, .astore 4, 15, []), (15, .iconst 1, 16, []), (16, .ireturn, 17, [0])]
/-- TaperhallLaw.cause(LTaperhall;II[J)I -/
def s_c79 : List sN := [(0, .aload_n 3, 1, []), (1, .iconst 0, 2, []), (2, .aload_n 0, 3, []), (3, .iload_n 1, 4, []), (4, .iload_n 2, 5, []), (5, .invokevirtual 97, 8, [3, 7, 3, 20, 0, 1243, 1244, 1245, 115]), (13, .astore 4, 15, []), (15, .iconst 1, 16, []), (16, .ireturn, 17, [0])]
/-- TaperhallLaw.changeDay(LTaperhall;II[J)I -/
def s_c80 : List sN := [(0, .aload_n 3, 1, []), (1, .iconst 0, 2, []), (2, .aload_n 0, 3, []), (3, .iload_n 1, 4, []), (4, .iload_n 2, 5, []), (5, .invokevirtual 100, 8, [3, 8, 3, 20, 0, 1257, 1258, 1259, 115]), (13, .astore 4, 15, []), (15, .iconst 1, 16, []), (16, .ireturn, 17, [0])]
/-- TaperhallLaw.changes(LTaperhall;I[J)I -/
def s_c81 : List sN := [(0, .aload_n 2, 1, []), (1, .iconst 0, 2, []), (2, .aload_n 0, 3, []), (3, .iload_n 1, 4, []), (4, .invokevirtual 94, 7, [3, 9, 2, 20, 0, 1236, 1237, 1238, 115]), (12, .astore_n 3, 13, []), (13, .iconst 1, 14, []), (14, .ireturn, 15, [0])]
/-- TaperhallLaw.comeBack(LTaperhall;II[J)I -/
def s_c82 : List sN := [(0, .aload_n 3, 1, []), (1, .iconst 0, 2, []), (2, .aload_n 0, 3, []), (3, .iload_n 1, 4, []), (4, .iload_n 2, 5, []), (5, .invokevirtual 91, 8, [3, 11, 3, 20, 0, 1225, 1226, 1227, 115]), (13, .astore 4, 15, []), (15, .iconst 1, 16, []), (16, .ireturn, 17, [0])]
/-- TaperhallLaw.drop(LTaperhall;II[J)I -/
def s_c83 : List sN := [(0, .aload_n 3, 1, []), (1, .iconst 0, 2, []), (2, .aload_n 0, 3, []), (3, .iload_n 1, 4, []), (4, .iload_n 2, 5, []), (5, .invokevirtual 62, 8, [3, 12, 3, 20, 0, 1053, 1054, 1055, 115]), (13, .astore 4, 15, []), (15, .iconst 1, 16, []), (16, .ireturn, 17, [0])]
/-- TaperhallLaw.felt(LTaperhall;II[J)I -/
def s_c84 : List sN := [(0, .aload_n 3, 1, []), (1, .iconst 0, 2, []), (2, .aload_n 0, 3, []), (3, .iload_n 1, 4, []), (4, .iload_n 2, 5, []), (5, .invokevirtual 71, 8, [3, 14, 3, 20, 0, 1087, 1088, 1089, 115]), (13, .astore 4, 15, []), (15, .iconst 1, 16, []), (16, .ireturn, 17, [0])]
/-- TaperhallLaw.fit(LTaperhall;IIC[J)I -/
def s_c85 : List sN := [(0, .aload 4, 2, []), (2, .iconst 0, 3, []), (3, .aload_n 0, 4, []), (4, .iload_n 1, 5, []), (5, .iload_n 2, 6, []), (6, .iload_n 3, 7, []), (7, .invokevirtual 115, 10, [3, 15, 4, 20, 0, 1353, 1354, 1355, 115]), (14, .astore 5, 16, []), (16, .iconst 1, 17, []), (17, .ireturn, 18, [0])]
/-- TaperhallLaw.fitShare(LTaperhall;[D)I -/
def s_c86 : List sN := [(0, .aload_n 1, 1, []), (1, .iconst 0, 2, []), (2, .aload_n 0, 3, []), (3, .invokevirtual 149, 6, [3, 16, 1, 20, 0, 1505, 1506, 1507, 115]), (11, .astore_n 2, 12, []), (12, .iconst 1, 13, []), (13, .ireturn, 14, [0])]
/-- TaperhallLaw.forecast(LTaperhall;III[J)I -/
def s_c87 : List sN := [(0, .aload 4, 2, []), (2, .iconst 0, 3, []), (3, .aload_n 0, 4, []), (4, .iload_n 1, 5, []), (5, .iload_n 2, 6, []), (6, .iload_n 3, 7, []), (7, .invokevirtual 119, 10, [3, 17, 4, 20, 0, 1374, 1375, 1376, 115]), (14, .astore 5, 16, []), (16, .iconst 1, 17, []), (17, .ireturn, 18, [0])]
/-- TaperhallLaw.ill(LTaperhall;II[J)I -/
def s_c88 : List sN := [(0, .aload_n 3, 1, []), (1, .iconst 0, 2, []), (2, .aload_n 0, 3, []), (3, .iload_n 1, 4, []), (4, .iload_n 2, 5, []), (5, .invokevirtual 88, 8, [3, 19, 3, 20, 0, 1218, 1219, 1220, 115]), (13, .astore 4, 15, []), (15, .iconst 1, 16, []), (16, .ireturn, 17, [0])]
/-- TaperhallLaw.isQualified(LTaperhall;I[J)I -/
def s_c89 : List sN := [(0, .aload_n 2, 1, []), (1, .iconst 0, 2, []), (2, .aload_n 0, 3, []), (3, .iload_n 1, 4, []), (4, .invokevirtual 129, 7, [3, 21, 2, 20, 0, 1411, 1412, 1413, 115]), (19, .astore_n 3, 20, []), (20, .iconst 1, 21, []), (21, .ireturn, 22, [0])]
/-- TaperhallLaw.load(LTaperhall;CC[J)I -/
def s_c90 : List sN := [(0, .aload_n 3, 1, []), (1, .iconst 0, 2, []), (2, .aload_n 0, 3, []), (3, .iload_n 1, 4, []), (4, .iload_n 2, 5, []), (5, .invokevirtual 23, 8, [3, 27, 3, 20, 0, 686, 687, 688, 115]), (13, .astore 4, 15, []), (15, .iconst 1, 16, []), (16, .ireturn, 17, [0])]
/-- TaperhallLaw.meanFelt(LTaperhall;[D)I -/
def s_c91 : List sN := [(0, .aload_n 1, 1, []), (1, .iconst 0, 2, []), (2, .aload_n 0, 3, []), (3, .invokevirtual 153, 6, [3, 28, 1, 20, 0, 1516, 1517, 1518, 115]), (10, .astore_n 2, 11, []), (11, .iconst 1, 12, []), (12, .ireturn, 13, [0])]
/-- TaperhallLaw.pass(LTaperhall;I[J)I -/
def s_c92 : List sN := [(0, .aload_n 2, 1, []), (1, .iconst 0, 2, []), (2, .aload_n 0, 3, []), (3, .iload_n 1, 4, []), (4, .invokevirtual 81, 7, [3, 32, 2, 20, 0, 1112, 1113, 1114, 115]), (7, .i2l, 8, []), (8, .lastore, 9, []), (9, .goto 9, 12, [18]), (12, .astore_n 3, 13, []), (13, .iconst 1, 14, []), (14, .ireturn, 15, [0]), (18, .iconst 0, 19, []), (19, .ireturn, 20, [0])]
/-- TaperhallLaw.peak(LTaperhall;I[J)I -/
def s_c93 : List sN := [(0, .aload_n 2, 1, []), (1, .iconst 0, 2, []), (2, .aload_n 0, 3, []), (3, .iload_n 1, 4, []), (4, .invokevirtual 74, 7, [3, 33, 2, 20, 0, 1098, 1099, 1100, 115]), (12, .astore_n 3, 13, []), (13, .iconst 1, 14, []), (14, .ireturn, 15, [0])]
/-- TaperhallLaw.plan(LTaperhall;II[J)I -/
def s_c94 : List sN := [(0, .aload_n 3, 1, []), (1, .iconst 0, 2, []), (2, .aload_n 0, 3, []), (3, .iload_n 1, 4, []), (4, .iload_n 2, 5, []), (5, .invokevirtual 55, 8, [3, 34, 3, 20, 0, 1004, 1005, 1006, 115]), (13, .astore 4, 15, []), (15, .iconst 1, 16, []), (16, .ireturn, 17, [0])]
/-- TaperhallLaw.planned(LTaperhall;II[J)I -/
def s_c95 : List sN := [(0, .aload_n 3, 1, []), (1, .iconst 0, 2, []), (2, .aload_n 0, 3, []), (3, .iload_n 1, 4, []), (4, .iload_n 2, 5, []), (5, .invokevirtual 68, 8, [3, 35, 3, 20, 0, 1080, 1081, 1082, 115]), (13, .astore 4, 15, []), (15, .iconst 1, 16, []), (16, .ireturn, 17, [0])]
/-- TaperhallLaw.race(LTaperhall;I[J)I -/
def s_c96 : List sN := [(0, .aload_n 2, 1, []), (1, .iconst 0, 2, []), (2, .aload_n 0, 3, []), (3, .iload_n 1, 4, []), (4, .invokevirtual 126, 7, [3, 37, 2, 20, 0, 1395, 1396, 1397, 115]), (12, .astore_n 3, 13, []), (13, .iconst 1, 14, []), (14, .ireturn, 15, [0])]
/-- TaperhallLaw.rivals(LTaperhall;I[J)I -/
def s_c97 : List sN := [(0, .aload_n 2, 1, []), (1, .iconst 0, 2, []), (2, .aload_n 0, 3, []), (3, .iload_n 1, 4, []), (4, .invokevirtual 112, 7, [3, 38, 2, 20, 0, 1297, 1298, 1299, 115]), (12, .astore_n 3, 13, []), (13, .iconst 1, 14, []), (14, .ireturn, 15, [0])]
/-- TaperhallLaw.seed(LTaperhall;I[J)I -/
def s_c98 : List sN := [(0, .aload_n 2, 1, []), (1, .iconst 0, 2, []), (2, .aload_n 0, 3, []), (3, .iload_n 1, 4, []), (4, .invokevirtual 146, 7, [3, 39, 2, 20, 0, 1497, 1498, 1499, 115]), (7, .i2l, 8, []), (8, .lastore, 9, []), (9, .goto 6, 12, [15]), (12, .astore_n 3, 13, []), (13, .iconst 1, 14, []), (14, .ireturn, 15, [0]), (15, .iconst 0, 16, []), (16, .ireturn, 17, [0])]
/-- TaperhallLaw.selected(LTaperhall;II[J)I -/
def s_c99 : List sN := [(0, .aload_n 3, 1, []), (1, .iconst 0, 2, []), (2, .aload_n 0, 3, []), (3, .iload_n 1, 4, []), (4, .iload_n 2, 5, []), (5, .invokevirtual 136, 8, [3, 40, 3, 20, 0, 1425, 1426, 1427, 115]), (13, .astore 4, 15, []), (15, .iconst 1, 16, []), (16, .ireturn, 17, [0]), (17, .astore 4, 19, []), (19, .iconst 2, 20, []), (20, .ireturn, 21, [0])]
/-- TaperhallLaw.session(LTaperhall;[J)I -/
def s_c100 : List sN := [(0, .aload_n 1, 1, []), (1, .iconst 0, 2, []), (2, .aload_n 0, 3, []), (3, .invokevirtual 7, 6, [3, 41, 1, 20, 0, 448, 449, 450, 115]), (6, .i2l, 7, []), (7, .lastore, 8, []), (8, .goto 6, 11, [14]), (14, .iconst 0, 15, []), (15, .ireturn, 16, [0])]
/-- TaperhallLaw.set(LTaperhall;CIII[J)I -/
def s_c101 : List sN := [(0, .aload 5, 2, []), (2, .iconst 0, 3, []), (3, .aload_n 0, 4, []), (4, .iload_n 1, 5, []), (5, .iload_n 2, 6, []), (6, .iload_n 3, 7, []), (7, .iload 4, 9, []), (9, .invokevirtual 15, 12, [3, 42, 5, 20, 0, 626, 627, 628, 115]), (17, .astore 6, 19, []), (19, .iconst 1, 20, []), (20, .ireturn, 21, [0])]
/-- TaperhallLaw.setCeiling(LTaperhall;II[J)I -/
def s_c102 : List sN := [(0, .aload_n 3, 1, []), (1, .iconst 0, 2, []), (2, .aload_n 0, 3, []), (3, .iload_n 1, 4, []), (4, .iload_n 2, 5, []), (5, .invokevirtual 51, 8, [3, 43, 3, 20, 0, 997, 998, 999, 115]), (13, .astore 4, 15, []), (15, .iconst 1, 16, []), (16, .ireturn, 17, [0])]
/-- TaperhallLaw.setError(LTaperhall;I[J)I -/
def s_c103 : List sN := [(0, .aload_n 2, 1, []), (1, .iconst 0, 2, []), (2, .aload_n 0, 3, []), (3, .iload_n 1, 4, []), (4, .invokevirtual 106, 7, [3, 44, 2, 20, 0, 1279, 1280, 1281, 115]), (7, .i2l, 8, []), (8, .lastore, 9, []), (9, .goto 6, 12, [15]), (12, .astore_n 3, 13, []), (13, .iconst 1, 14, []), (14, .ireturn, 15, [0]), (15, .iconst 0, 16, []), (16, .ireturn, 17, [0])]
/-- TaperhallLaw.setLanes(LTaperhall;I[J)I -/
def s_c104 : List sN := [(0, .aload_n 2, 1, []), (1, .iconst 0, 2, []), (2, .aload_n 0, 3, []), (3, .iload_n 1, 4, []), (4, .invokevirtual 78, 7, [3, 45, 2, 20, 0, 1105, 1106, 1107, 115]), (7, .i2l, 8, []), (8, .lastore, 9, []), (9, .goto 6, 12, [15]), (12, .astore_n 3, 13, []), (13, .iconst 1, 14, []), (14, .ireturn, 15, [0]), (15, .iconst 0, 16, []), (16, .ireturn, 17, [0])]
/-- TaperhallLaw.setStandard(LTaperhall;I[J)I -/
def s_c105 : List sN := [(0, .aload_n 2, 1, []), (1, .iconst 0, 2, []), (2, .aload_n 0, 3, []), (3, .iload_n 1, 4, []), (4, .invokevirtual 123, 7, [3, 46, 2, 20, 0, 1388, 1389, 1390, 115]), (7, .i2l, 8, []), (8, .lastore, 9, []), (9, .goto 6, 12, [15]), (12, .astore_n 3, 13, []), (13, .iconst 1, 14, []), (14, .ireturn, 15, [0]), (15, .iconst 0, 16, []), (16, .ireturn, 17, [0])]
/-- TaperhallLaw.shift(LTaperhall;III[J)I -/
def s_c106 : List sN := [(0, .aload 4, 2, []), (2, .iconst 0, 3, []), (3, .aload_n 0, 4, []), (4, .iload_n 1, 5, []), (5, .iload_n 2, 6, []), (6, .iload_n 3, 7, []), (7, .invokevirtual 58, 10, [3, 47, 4, 20, 0, 1031, 1032, 1033, 115]), (15, .astore 5, 17, []), (17, .iconst 1, 18, []), (18, .ireturn, 19, [0])]
/-- TaperhallLaw.taper(LTaperhall;III[J)I -/
def s_c107 : List sN := [(0, .aload 4, 2, []), (2, .iconst 0, 3, []), (3, .aload_n 0, 4, []), (4, .iload_n 1, 5, []), (5, .iload_n 2, 6, []), (6, .iload_n 3, 7, []), (7, .invokevirtual 139, 10, [3, 48, 4, 20, 0, 1443, 1444, 1445, 115]), (14, .astore 5, 16, []), (16, .iconst 1, 17, []), (17, .ireturn, 18, [0])]
/-- TaperhallLaw.taperAt(LTaperhall;IIII[J)I -/
def s_c108 : List sN := [(0, .aload 5, 2, []), (2, .iconst 0, 3, []), (3, .aload_n 0, 4, []), (4, .iload_n 1, 5, []), (5, .iload_n 2, 6, []), (6, .iload_n 3, 7, []), (7, .iload 4, 9, []), (9, .invokevirtual 142, 12, [3, 49, 5, 20, 0, 1486, 1487, 1488, 115]), (17, .astore 6, 19, []), (19, .iconst 1, 20, []), (20, .ireturn, 21, [0])]
/-- TaperhallLaw.test(LTaperhall;I[J)I -/
def s_c109 : List sN := [(0, .aload_n 2, 1, []), (1, .iconst 0, 2, []), (2, .aload_n 0, 3, []), (3, .iload_n 1, 4, []), (4, .invokevirtual 109, 7, [3, 50, 2, 20, 0, 1286, 1287, 1288, 115]), (12, .astore_n 3, 13, []), (13, .iconst 1, 14, []), (14, .ireturn, 15, [0])]
/-- TaperhallLaw.turn(LTaperhall;ICC[J)I -/
def s_c110 : List sN := [(0, .aload 4, 2, []), (2, .iconst 0, 3, []), (3, .aload_n 0, 4, []), (4, .iload_n 1, 5, []), (5, .iload_n 2, 6, []), (6, .iload_n 3, 7, []), (7, .invokevirtual 27, 10, [3, 52, 4, 20, 0, 728, 729, 730, 115]), (14, .astore 5, 16, []), (16, .iconst 1, 17, []), (17, .ireturn, 18, [0]), (18, .astore 5, 20, []), (20, .iconst 2, 21, []), (21, .ireturn, 22, [0])]
/-- TaperhallLaw.type(LTaperhall;C[J)I -/
def s_c111 : List sN := [(0, .aload_n 2, 1, []), (1, .iconst 0, 2, []), (2, .aload_n 0, 3, []), (3, .iload_n 1, 4, []), (4, .invokevirtual 33, 7, [3, 53, 2, 20, 0, 746, 747, 748, 115]), (7, .i2l, 8, []), (8, .lastore, 9, []), (9, .goto 9, 12, [18]), (12, .astore_n 3, 13, []), (13, .iconst 1, 14, []), (14, .ireturn, 15, [0]), (18, .iconst 0, 19, []), (19, .ireturn, 20, [0])]
/-- TaperhallLaw.unfolds(LTaperhall;[J)I -/
def s_c112 : List sN := [(0, .aload_n 1, 1, []), (1, .iconst 0, 2, []), (2, .aload_n 0, 3, []), (3, .invokevirtual 37, 6, [3, 54, 1, 20, 0, 762, 763, 764, 115]), (11, .astore_n 2, 12, []), (12, .iconst 1, 13, []), (13, .ireturn, 14, [0])]
/-- TaperhallModel.<init>()V -/
def s_c113 : List sN := [(0, .aload_n 0, 1, []), (1, .invokespecial 1, 4, [0, 1530, 168, 169]), (4, .aload_n 0, 5, []), (5, .new 7, 8, [0, 8, 1531, 177, 119]), (8, .dup, 9, []), (9, .invokespecial 9, 12, [2, 194, 1, 1000, 0, 1532, 179, 119]), (12, .putfield 10, 15, [22, 1, 4, 1566, 0, 1, 0]), (15, .aload_n 0, 16, []), (16, .new 7, 19, [0, 8, 1531, 177, 119]), (19, .dup, 20, []), (20, .invokespecial 9, 23, [2, 194, 1, 1000, 0, 1532, 179, 119]), (23, .putfield 16, 26, [22, 2, 4, 1567, 0, 1, 0]), (26, .aload_n 0, 27, []), (27, .new 19, 30, [0, 1, 1533, 1534, 125]), (30, .dup, 31, []), (31, .invokespecial 21, 34, [2, 184, 1, 1000, 0, 1535, 1536, 125]), (34, .putfield 22, 37, [22, 3, 4, 1568, 0, 1, 0]), (37, .aload_n 0, 38, []), (38, .bipush 8, 40, []), (40, .putfield 26, 43, [22, 5, 0, 1570, 0, 0, 0]), (43, .aload_n 0, 44, []), (44, .lconst 1, 45, []), (45, .putfield 30, 48, [22, 8, 3, 1573, 0, 0, 0]), (48, .aload_n 0, 49, []), (49, .iconst 0, 50, []), (50, .putfield 34, 53, [22, 0, 0, 1565, 0, 0, 0]), (53, .return_, 54, [])]
/-- TaperhallModel.answers(IIII)I -/
def s_c114 : List sN := [(0, .aload_n 0, 1, []), (1, .iload_n 1, 2, []), (2, .invokevirtual 172, 5, [3, 141, 2, 23, 0, 2197, 2199, 96, 123]), (5, .ifCond .eq 5, 8, [10]), (8, .iconst 0, 9, []), (9, .ireturn, 10, [0])]
/-- TaperhallModel.athlete(IIIII)I -/
def s_c115 : List sN := [(0, .iload_n 1, 1, []), (1, .i2l, 2, []), (2, .lconst 0, 3, []), (3, .ldc2_w 159, 6, [0, 3, 2077]), (6, .invokestatic 88, 9, [1, 134, 3, 0, 0, 1626, 1627, 123]), (9, .ifCond .eq 61, 12, [70]), (12, .iload_n 2, 13, []), (13, .i2l, 14, []), (14, .lconst 0, 15, []), (15, .ldc2_w 161, 18, [0, 9, 2078]), (18, .invokestatic 88, 21, [1, 134, 3, 0, 0, 1626, 1627, 123]), (21, .ifCond .eq 49, 24, [70]), (24, .iload_n 3, 25, []), (25, .i2l, 26, []), (26, .lconst 0, 27, []), (27, .ldc2_w 163, 30, [0, 9999, 2079]), (30, .invokestatic 88, 33, [1, 134, 3, 0, 0, 1626, 1627, 123]), (33, .ifCond .eq 37, 36, [70]), (36, .iload 4, 38, []), (38, .i2l, 39, []), (39, .ldc2_w 165, 42, [0, 20, 2080]), (42, .ldc2_w 92, 45, [0, 60, 1629]), (45, .invokestatic 88, 48, [1, 134, 3, 0, 0, 1626, 1627, 123]), (48, .ifCond .eq 22, 51, [70]), (51, .iload 5, 53, []), (53, .i2l, 54, []), (54, .ldc2_w 159, 57, [0, 3, 2077]), (57, .ldc2_w 167, 60, [0, 15, 2081]), (60, .invokestatic 88, 63, [1, 134, 3, 0, 0, 1626, 1627, 123]), (63, .ifCond .eq 7, 66, [70]), (66, .iconst 1, 67, []), (67, .goto 4, 70, [71]), (70, .iconst 0, 71, []), (71, .istore 6, 73, []), (73, .aload_n 0, 74, []), (74, .iload 6, 76, []), (76, .ifCond .ne 7, 79, [83]), (79, .iconst 1, 80, []), (80, .goto 20, 83, [100]), (83, .aload_n 0, 84, []), (84, .getfield 16, 87, [22, 2, 1567, 0, 0, 0]), (87, .invokevirtual 41, 90, [3, 201, 1, 9, 0, 1601, 347, 348, 119]), (90, .bipush 8, 92, []), (92, .if_icmp .ne 7, 95, [99]), (99, .iconst 0, 100, []), (100, .putfield 34, 103, [22, 0, 0, 1565, 0, 0, 0]), (103, .aload_n 0, 104, []), (104, .getfield 34, 107, [22, 0, 1565, 0, 0, 0]), (107, .ifCond .le 5, 110, [112]), (110, .iconst 0, 111, []), (111, .ireturn, 112, [0]), (112, .aload_n 0, 113, []), (113, .getfield 16, 116, [22, 2, 1567, 0, 0, 0]), (116, .new 77, 119, [0, 20, 1683, 2082, 159]), (119, .dup, 120, []), (120, .iload_n 1, 121, []), (121, .iload_n 2, 122, []), (122, .iload_n 3, 123, []), (123, .iload 4, 125, []), (125, .iload 5, 127, []), (127, .invokespecial 169, 130, [2, 169, 6, 1000, 0, 2083, 2084, 159]), (130, .invokevirtual 59, 133, [3, 195, 2, 9, 0, 1615, 550, 551, 119]), (133, .pop, 134, []), (134, .aload_n 0, 135, []), (135, .getfield 16, 138, [22, 2, 1567, 0, 0, 0]), (138, .invokevirtual 41, 141, [3, 201, 1, 9, 0, 1601, 347, 348, 119]), (141, .iconst 1, 142, []), (142, .isub, 143, []), (143, .ireturn, 144, [0])]
/-- TaperhallModel.best(I)I -/
def s_c116 : List sN := [(0, .aload_n 0, 1, []), (1, .iload_n 1, 2, []), (2, .invokevirtual 172, 5, [3, 141, 2, 23, 0, 2197, 2199, 96, 123]), (5, .ifCond .eq 5, 8, [10]), (8, .iconst 0, 9, []), (9, .ireturn, 10, [0])]
/-- TaperhallModel.body(IC)J -/
def s_c117 : List sN := [(0, .aload_n 0, 1, []), (1, .iload_n 1, 2, []), (2, .invokevirtual 172, 5, [3, 141, 2, 23, 0, 2197, 2199, 96, 123]), (5, .ifCond .eq 5, 8, [10]), (8, .lconst 0, 9, []), (9, .lreturn, 10, [])]
/-- TaperhallModel.camp(II)I -/
def s_c118 : List sN := [(0, .aload_n 0, 1, []), (1, .iload_n 1, 2, []), (2, .invokevirtual 172, 5, [3, 141, 2, 23, 0, 2197, 2199, 96, 123]), (5, .ifCond .eq 5, 8, [10]), (8, .iconst 0, 9, []), (9, .ireturn, 10, [0])]
/-- TaperhallModel.cause(II)C -/
def s_c119 : List sN := [(0, .aload_n 0, 1, []), (1, .iload_n 1, 2, []), (2, .iload_n 2, 3, []), (3, .invokevirtual 300, 6, [3, 142, 3, 23, 0, 2385, 2387, 104, 123]), (6, .ifCond .eq 8, 9, [14]), (9, .bipush 32, 11, []), (11, .goto 27, 14, [38]), (38, .ireturn, 39, [2])]
/-- TaperhallModel.changeDay(II)I -/
def s_c120 : List sN := [(0, .aload_n 0, 1, []), (1, .iload_n 1, 2, []), (2, .iload_n 2, 3, []), (3, .invokevirtual 300, 6, [3, 142, 3, 23, 0, 2385, 2387, 104, 123]), (6, .ifCond .eq 7, 9, [13]), (9, .iconst 0, 10, []), (10, .goto 27, 13, [37]), (37, .ireturn, 38, [0])]
/-- TaperhallModel.changes(I)I -/
def s_c121 : List sN := [(0, .aload_n 0, 1, []), (1, .iload_n 1, 2, []), (2, .invokevirtual 172, 5, [3, 141, 2, 23, 0, 2197, 2199, 96, 123]), (5, .ifCond .eq 7, 8, [12]), (8, .iconst 0, 9, []), (9, .goto 20, 12, [29]), (29, .ireturn, 30, [0])]
/-- TaperhallModel.checksum()J -/
def s_c122 : List sN := [(0, .aload_n 0, 1, []), (1, .iconst 0, 2, []), (2, .putfield 34, 5, [22, 0, 0, 1565, 0, 0, 0]), (5, .ldc2_w 406, 8, [0, 7, 2555]), (8, .lstore_n 1, 9, []), (9, .aload_n 0, 10, []), (10, .getfield 16, 13, [22, 2, 1567, 0, 0, 0]), (13, .invokevirtual 63, 16, [3, 200, 1, 9, 0, 1635, 1636, 1637, 119]), (16, .astore_n 3, 17, []), (17, .aload_n 3, 18, []), (18, .invokeinterface 67 1, 23, [4, 203, 1, 8, 0, 1659, 1663, 1665, 142]), (23, .ifCond .eq 98, 26, [121]), (121, .ldc2_w 408, 124, [0, 31, 2556]), (124, .lload_n 1, 125, []), (125, .lmul, 126, []), (126, .aload_n 0, 127, []), (127, .getfield 79, 130, [22, 4, 1569, 0, 0, 0]), (130, .i2l, 131, []), (131, .ladd, 132, []), (132, .lstore_n 1, 133, []), (133, .ldc2_w 408, 136, [0, 31, 2556]), (136, .lload_n 1, 137, []), (137, .lmul, 138, []), (138, .aload_n 0, 139, []), (139, .getfield 30, 142, [22, 8, 1573, 0, 0, 0]), (142, .ladd, 143, []), (143, .lreturn, 144, [])]
/-- TaperhallModel.comeBack(II)I -/
def s_c123 : List sN := [(0, .aload_n 0, 1, []), (1, .iload_n 1, 2, []), (2, .invokevirtual 172, 5, [3, 141, 2, 23, 0, 2197, 2199, 96, 123]), (5, .ifCond .eq 5, 8, [10]), (8, .iconst 0, 9, []), (9, .ireturn, 10, [0])]
/-- TaperhallModel.day()V -/
def s_c124 : List sN := [(0, .iconst 0, 1, []), (1, .istore_n 1, 2, []), (2, .iload_n 1, 3, []), (3, .aload_n 0, 4, []), (4, .getfield 16, 7, [22, 2, 1567, 0, 0, 0]), (7, .invokevirtual 41, 10, [3, 201, 1, 9, 0, 1601, 347, 348, 119]), (10, .if_icmp .ge 141, 13, [151]), (151, .aload_n 0, 152, []), (152, .getfield 16, 155, [22, 2, 1567, 0, 0, 0]), (155, .invokevirtual 63, 158, [3, 200, 1, 9, 0, 1635, 1636, 1637, 119]), (158, .astore_n 1, 159, []), (159, .aload_n 1, 160, []), (160, .invokeinterface 67 1, 165, [4, 203, 1, 8, 0, 1659, 1663, 1665, 142]), (165, .ifCond .eq 187, 168, [352]), (352, .bipush 8, 354, []), (354, .newarray .boolean, 356, [2299]), (356, .astore_n 1, 357, []), (357, .iconst 0, 358, []), (358, .istore_n 2, 359, []), (359, .iload_n 2, 360, []), (360, .aload_n 0, 361, []), (361, .getfield 16, 364, [22, 2, 1567, 0, 0, 0]), (364, .invokevirtual 41, 367, [3, 201, 1, 9, 0, 1601, 347, 348, 119]), (367, .if_icmp .ge 38, 370, [405]), (405, .iconst 0, 406, []), (406, .istore_n 2, 407, []), (407, .iload_n 2, 408, []), (408, .aload_n 0, 409, []), (409, .getfield 16, 412, [22, 2, 1567, 0, 0, 0]), (412, .invokevirtual 41, 415, [3, 201, 1, 9, 0, 1601, 347, 348, 119]), (415, .if_icmp .ge 126, 418, [541]), (541, .aload_n 0, 542, []), (542, .dup, 543, []), (543, .getfield 79, 546, [22, 4, 1569, 0, 0, 0]), (546, .iconst 1, 547, []), (547, .iadd, 548, []), (548, .putfield 79, 551, [22, 4, 0, 1569, 0, 0, 0]), (551, .return_, 552, [])]
/-- TaperhallModel.drop(II)C -/
def s_c125 : List sN := [(0, .aload_n 0, 1, []), (1, .iload_n 1, 2, []), (2, .invokevirtual 172, 5, [3, 141, 2, 23, 0, 2197, 2199, 96, 123]), (5, .ifCond .eq 6, 8, [11]), (8, .bipush 32, 10, []), (10, .ireturn, 11, [2])]
/-- TaperhallModel.fault()I -/
def s_c126 : List sN := [(0, .aload_n 0, 1, []), (1, .iconst 0, 2, []), (2, .putfield 34, 5, [22, 0, 0, 1565, 0, 0, 0]), (5, .aload_n 0, 6, []), (6, .invokevirtual 156, 9, [3, 127, 1, 23, 0, 1988, 1990, 93, 123]), (9, .ireturn, 10, [0])]
/-- TaperhallModel.faultOf()I -/
def s_c127 : List sN := [(0, .iconst 0, 1, []), (1, .istore_n 1, 2, []), (2, .bipush 40, 4, []), (4, .istore_n 2, 5, []), (5, .iconst 0, 6, []), (6, .istore_n 3, 7, []), (7, .iload_n 3, 8, []), (8, .aload_n 0, 9, []), (9, .getfield 22, 12, [22, 3, 1568, 0, 0, 0]), (12, .invokevirtual 116, 15, [3, 186, 1, 2, 0, 1715, 1716, 1717, 125]), (15, .if_icmp .ge 163, 18, [178]), (178, .aload_n 0, 179, []), (179, .getfield 22, 182, [22, 3, 1568, 0, 0, 0]), (182, .invokevirtual 116, 185, [3, 186, 1, 2, 0, 1715, 1716, 1717, 125]), (185, .ifCond .le 23, 188, [208]), (208, .iconst 0, 209, []), (209, .istore_n 3, 210, []), (210, .iload_n 3, 211, []), (211, .ifCond .eq 19, 214, [230]), (230, .aload_n 0, 231, []), (231, .getfield 22, 234, [22, 3, 1568, 0, 0, 0]), (234, .invokevirtual 116, 237, [3, 186, 1, 2, 0, 1715, 1716, 1717, 125]), (237, .ireturn, 238, [0])]
/-- TaperhallModel.felt(II)I -/
def s_c128 : List sN := [(0, .aload_n 0, 1, []), (1, .iload_n 1, 2, []), (2, .invokevirtual 172, 5, [3, 141, 2, 23, 0, 2197, 2199, 96, 123]), (5, .ifCond .eq 5, 8, [10]), (8, .iconst 0, 9, []), (9, .ireturn, 10, [0])]
/-- TaperhallModel.fit(IIC)J -/
def s_c129 : List sN := [(0, .aload_n 0, 1, []), (1, .iload_n 1, 2, []), (2, .iload_n 2, 3, []), (3, .ldc_w 361, 6, [2, 0, 0]), (6, .iload_n 3, 7, []), (7, .invokevirtual 283, 10, [3, 180, 2, 1001, 0, 2305, 2306, 2307, 126]), (10, .ifCond .lt 7, 13, [17]), (13, .iconst 1, 14, []), (14, .goto 4, 17, [18]), (17, .iconst 0, 18, []), (18, .invokevirtual 363, 21, [3, 132, 4, 23, 0, 2458, 2460, 108, 123]), (21, .astore 4, 23, []), (23, .aload 4, 25, []), (25, .ifnonnull 7, 28, [32]), (28, .lconst 0, 29, []), (29, .goto 13, 32, [42]), (42, .lreturn, 43, [])]
/-- TaperhallModel.fitShare()F -/
def s_c130 : List sN := [(0, .aload_n 0, 1, []), (1, .aload_n 0, 2, []), (2, .getfield 16, 5, [22, 2, 1567, 0, 0, 0]), (5, .invokevirtual 410, 8, [3, 199, 1, 9, 0, 2561, 1510, 1511, 119]), (8, .ifCond .eq 7, 11, [15]), (11, .iconst 1, 12, []), (12, .goto 4, 15, [16]), (16, .putfield 34, 19, [22, 0, 0, 1565, 0, 0, 0]), (19, .iconst 0, 20, []), (20, .istore_n 1, 21, []), (21, .aload_n 0, 22, []), (22, .getfield 16, 25, [22, 2, 1567, 0, 0, 0]), (25, .invokevirtual 63, 28, [3, 200, 1, 9, 0, 1635, 1636, 1637, 119]), (28, .astore_n 2, 29, []), (29, .aload_n 2, 30, []), (30, .invokeinterface 67 1, 35, [4, 203, 1, 8, 0, 1659, 1663, 1665, 142]), (35, .ifCond .eq 42, 38, [77]), (77, .aload_n 0, 78, []), (78, .getfield 34, 81, [22, 0, 1565, 0, 0, 0]), (81, .ifCond .le 7, 84, [88]), (84, .fconst 0, 85, []), (85, .goto 14, 88, [99]), (99, .freturn, 100, [])]
/-- TaperhallModel.forecast(III)J -/
def s_c131 : List sN := [(0, .aload_n 0, 1, []), (1, .iload_n 1, 2, []), (2, .iload_n 2, 3, []), (3, .iload_n 3, 4, []), (4, .i2l, 5, []), (5, .aload_n 0, 6, []), (6, .getfield 79, 9, [22, 4, 1569, 0, 0, 0]), (9, .i2l, 10, []), (10, .ldc2_w 209, 13, [0, 239, 2225]), (13, .invokestatic 88, 16, [1, 134, 3, 0, 0, 1626, 1627, 123]), (16, .invokevirtual 363, 19, [3, 132, 4, 23, 0, 2458, 2460, 108, 123]), (19, .astore 4, 21, []), (21, .aload 4, 23, []), (23, .ifnonnull 7, 26, [30]), (26, .lconst 0, 27, []), (27, .goto 34, 30, [61]), (61, .lreturn, 62, [])]
/-- TaperhallModel.found(IIZ)[J -/
def s_c132 : List sN := [(0, .aload_n 0, 1, []), (1, .iload_n 1, 2, []), (2, .invokevirtual 172, 5, [3, 141, 2, 23, 0, 2197, 2199, 96, 123]), (5, .ifCond .eq 5, 8, [10]), (8, .aconst_null, 9, []), (9, .areturn, 10, [])]
/-- TaperhallModel.ill(II)I -/
def s_c133 : List sN := [(0, .aload_n 0, 1, []), (1, .iload_n 1, 2, []), (2, .invokevirtual 172, 5, [3, 141, 2, 23, 0, 2197, 2199, 96, 123]), (5, .ifCond .eq 5, 8, [10]), (8, .iconst 0, 9, []), (9, .ireturn, 10, [0])]
/-- TaperhallModel.in(JJJ)Z -/
def s_c134 : List sN := [(0, .lload_n 0, 1, []), (1, .lload_n 2, 2, []), (2, .lcmp, 3, []), (3, .ifCond .lt 14, 6, [17]), (6, .lload_n 0, 7, []), (7, .lload 4, 9, []), (9, .lcmp, 10, []), (10, .ifCond .gt 7, 13, [17]), (13, .iconst 1, 14, []), (14, .goto 4, 17, [18]), (17, .iconst 0, 18, []), (18, .ireturn, 19, [1])]
/-- TaperhallModel.isQualified(I)Z -/
def s_c135 : List sN := [(0, .aload_n 0, 1, []), (1, .iload_n 1, 2, []), (2, .invokevirtual 172, 5, [3, 141, 2, 23, 0, 2197, 2199, 96, 123]), (5, .ifCond .ne 24, 8, [29]), (29, .iconst 0, 30, []), (30, .ireturn, 31, [1])]
/-- TaperhallModel.isSound()Z -/
def s_c136 : List sN := [(0, .aload_n 0, 1, []), (1, .iconst 0, 2, []), (2, .putfield 34, 5, [22, 0, 0, 1565, 0, 0, 0]), (5, .iconst 1, 6, []), (6, .ireturn, 7, [1])]
/-- TaperhallModel.isUnit(C)Z -/
def s_c137 : List sN := [(0, .iload_n 0, 1, []), (1, .bipush 109, 3, []), (3, .if_icmp .eq 15, 6, [18]), (6, .iload_n 0, 7, []), (7, .bipush 114, 9, []), (9, .if_icmp .eq 9, 12, [18]), (12, .iload_n 0, 13, []), (13, .bipush 116, 15, []), (15, .if_icmp .ne 7, 18, [22]), (18, .iconst 1, 19, []), (19, .goto 4, 22, [23]), (22, .iconst 0, 23, []), (23, .ireturn, 24, [1])]
/-- TaperhallModel.load(CC)I -/
def s_c138 : List sN := [(0, .aload_n 0, 1, []), (1, .aload_n 0, 2, []), (2, .iload_n 1, 3, []), (3, .invokevirtual 51, 6, [3, 140, 2, 23, 0, 1620, 1622, 90, 123]), (6, .ifnull 10, 9, [16]), (16, .iconst 1, 17, []), (17, .goto 4, 20, [21]), (21, .putfield 34, 24, [22, 0, 0, 1565, 0, 0, 0]), (24, .aload_n 0, 25, []), (25, .getfield 34, 28, [22, 0, 1565, 0, 0, 0]), (28, .ifCond .le 7, 31, [35]), (31, .iconst 0, 32, []), (32, .goto 12, 35, [44]), (44, .ireturn, 45, [0])]
/-- TaperhallModel.meanFelt()D -/
def s_c139 : List sN := [(0, .aload_n 0, 1, []), (1, .aload_n 0, 2, []), (2, .getfield 16, 5, [22, 2, 1567, 0, 0, 0]), (5, .invokevirtual 410, 8, [3, 199, 1, 9, 0, 2561, 1510, 1511, 119]), (8, .ifCond .ne 10, 11, [18]), (18, .iconst 1, 19, []), (19, .goto 4, 22, [23]), (23, .putfield 34, 26, [22, 0, 0, 1565, 0, 0, 0]), (26, .lconst 0, 27, []), (27, .lstore_n 1, 28, []), (28, .aload_n 0, 29, []), (29, .getfield 16, 32, [22, 2, 1567, 0, 0, 0]), (32, .invokevirtual 63, 35, [3, 200, 1, 9, 0, 1635, 1636, 1637, 119]), (35, .astore_n 3, 36, []), (36, .aload_n 3, 37, []), (37, .invokeinterface 67 1, 42, [4, 203, 1, 8, 0, 1659, 1663, 1665, 142]), (42, .ifCond .eq 47, 45, [89]), (89, .aload_n 0, 90, []), (90, .getfield 34, 93, [22, 0, 1565, 0, 0, 0]), (93, .ifCond .le 7, 96, [100]), (96, .dconst 0, 97, []), (97, .goto 19, 100, [116]), (116, .dreturn, 117, [])]
/-- TaperhallModel.named(C)LTaperhallModel$Session; -/
def s_c140 : List sN := [(0, .iload_n 1, 1, []), (1, .bipush 97, 3, []), (3, .if_icmp .lt 34, 6, [37]), (6, .iload_n 1, 7, []), (7, .bipush 97, 9, []), (9, .aload_n 0, 10, []), (10, .getfield 10, 13, [22, 1, 1566, 0, 0, 0]), (13, .invokevirtual 41, 16, [3, 201, 1, 9, 0, 1601, 347, 348, 119]), (16, .iadd, 17, []), (17, .if_icmp .ge 20, 20, [37]), (37, .aconst_null, 38, []), (38, .areturn, 39, [])]
/-- TaperhallModel.noAthlete(I)Z -/
def s_c141 : List sN := [(0, .aload_n 0, 1, []), (1, .iload_n 1, 2, []), (2, .i2l, 3, []), (3, .lconst 0, 4, []), (4, .aload_n 0, 5, []), (5, .getfield 16, 8, [22, 2, 1567, 0, 0, 0]), (8, .invokevirtual 41, 11, [3, 201, 1, 9, 0, 1601, 347, 348, 119]), (11, .iconst 1, 12, []), (12, .isub, 13, []), (13, .i2l, 14, []), (14, .invokestatic 88, 17, [1, 134, 3, 0, 0, 1626, 1627, 123]), (17, .ifCond .eq 7, 20, [24]), (24, .iconst 1, 25, []), (25, .putfield 34, 28, [22, 0, 0, 1565, 0, 0, 0]), (28, .aload_n 0, 29, []), (29, .getfield 34, 32, [22, 0, 1565, 0, 0, 0]), (32, .ifCond .le 7, 35, [39]), (35, .iconst 1, 36, []), (36, .goto 4, 39, [40]), (40, .ireturn, 41, [1])]
/-- TaperhallModel.noChange(II)Z -/
def s_c142 : List sN := [(0, .aload_n 0, 1, []), (1, .iload_n 1, 2, []), (2, .invokevirtual 172, 5, [3, 141, 2, 23, 0, 2197, 2199, 96, 123]), (5, .ifCond .ne 41, 8, [46]), (46, .aload_n 0, 47, []), (47, .getfield 34, 50, [22, 0, 1565, 0, 0, 0]), (50, .ifCond .le 7, 53, [57]), (53, .iconst 1, 54, []), (54, .goto 4, 57, [58]), (58, .ireturn, 59, [1])]
/-- TaperhallModel.noTaper(III)Z -/
def s_c143 : List sN := [(0, .aload_n 0, 1, []), (1, .iload_n 1, 2, []), (2, .invokevirtual 172, 5, [3, 141, 2, 23, 0, 2197, 2199, 96, 123]), (5, .ifCond .ne 46, 8, [51]), (51, .aload_n 0, 52, []), (52, .getfield 34, 55, [22, 0, 1565, 0, 0, 0]), (55, .ifCond .le 7, 58, [62]), (58, .iconst 1, 59, []), (59, .goto 4, 62, [63]), (63, .ireturn, 64, [1])]
/-- TaperhallModel.pass(I)I -/
def s_c144 : List sN := [(0, .aload_n 0, 1, []), (1, .iload_n 1, 2, []), (2, .i2l, 3, []), (3, .lconst 1, 4, []), (4, .ldc2_w 94, 7, [0, 30, 1630]), (7, .invokestatic 88, 10, [1, 134, 3, 0, 0, 1626, 1627, 123]), (10, .ifCond .ne 7, 13, [17]), (13, .iconst 1, 14, []), (14, .goto 20, 17, [34]), (17, .aload_n 0, 18, []), (18, .getfield 79, 21, [22, 4, 1569, 0, 0, 0]), (21, .iload_n 1, 22, []), (22, .iadd, 23, []), (23, .sipush 239, 26, []), (26, .if_icmp .le 7, 29, [33]), (33, .iconst 0, 34, []), (34, .putfield 34, 37, [22, 0, 0, 1565, 0, 0, 0]), (37, .iconst 0, 38, []), (38, .istore_n 2, 39, []), (39, .iload_n 2, 40, []), (40, .iload_n 1, 41, []), (41, .if_icmp .ge 20, 44, [61]), (44, .aload_n 0, 45, []), (45, .getfield 34, 48, [22, 0, 1565, 0, 0, 0]), (48, .ifCond .ne 13, 51, [61]), (51, .aload_n 0, 52, []), (52, .invokevirtual 278, 55, [3, 124, 1, 23, 0, 2272, 2274, 99, 123]), (55, .iinc 2 1, 58, []), (58, .goto (-19), 61, [39]), (61, .aload_n 0, 62, []), (62, .getfield 34, 65, [22, 0, 1565, 0, 0, 0]), (65, .ifCond .le 7, 68, [72]), (68, .iconst 0, 69, []), (69, .goto 7, 72, [76]), (72, .aload_n 0, 73, []), (73, .getfield 79, 76, [22, 4, 1569, 0, 0, 0]), (76, .ireturn, 77, [0])]
/-- TaperhallModel.peak(I)I -/
def s_c145 : List sN := [(0, .aload_n 0, 1, []), (1, .iload_n 1, 2, []), (2, .invokevirtual 172, 5, [3, 141, 2, 23, 0, 2197, 2199, 96, 123]), (5, .ifCond .eq 7, 8, [12]), (8, .iconst 0, 9, []), (9, .goto 32, 12, [41]), (41, .ireturn, 42, [0])]
/-- TaperhallModel.plan(II)I -/
def s_c146 : List sN := [(0, .aload_n 0, 1, []), (1, .iload_n 1, 2, []), (2, .invokevirtual 172, 5, [3, 141, 2, 23, 0, 2197, 2199, 96, 123]), (5, .ifCond .eq 5, 8, [10]), (8, .iconst 0, 9, []), (9, .ireturn, 10, [0])]
/-- TaperhallModel.planned(II)C -/
def s_c147 : List sN := [(0, .aload_n 0, 1, []), (1, .iload_n 1, 2, []), (2, .invokevirtual 172, 5, [3, 141, 2, 23, 0, 2197, 2199, 96, 123]), (5, .ifCond .eq 6, 8, [11]), (8, .bipush 32, 10, []), (10, .ireturn, 11, [2])]
/-- TaperhallModel.race(I)I -/
def s_c148 : List sN := [(0, .aload_n 0, 1, []), (1, .iload_n 1, 2, []), (2, .invokevirtual 172, 5, [3, 141, 2, 23, 0, 2197, 2199, 96, 123]), (5, .ifCond .eq 5, 8, [10]), (8, .iconst 0, 9, []), (9, .ireturn, 10, [0])]
/-- TaperhallModel.rivals(I)I -/
def s_c149 : List sN := [(0, .aload_n 0, 1, []), (1, .iload_n 1, 2, []), (2, .invokevirtual 172, 5, [3, 141, 2, 23, 0, 2197, 2199, 96, 123]), (5, .ifCond .eq 5, 8, [10]), (8, .iconst 0, 9, []), (9, .ireturn, 10, [0])]
/-- TaperhallModel.seed(I)I -/
def s_c150 : List sN := [(0, .aload_n 0, 1, []), (1, .iload_n 1, 2, []), (2, .i2l, 3, []), (3, .lconst 1, 4, []), (4, .ldc2_w 404, 7, [0, 2147483646, 2546]), (7, .invokestatic 88, 10, [1, 134, 3, 0, 0, 1626, 1627, 123]), (10, .ifCond .eq 7, 13, [17]), (13, .iconst 0, 14, []), (14, .goto 4, 17, [18]), (17, .iconst 1, 18, []), (18, .putfield 34, 21, [22, 0, 0, 1565, 0, 0, 0]), (21, .aload_n 0, 22, []), (22, .getfield 34, 25, [22, 0, 1565, 0, 0, 0]), (25, .ifCond .le 5, 28, [30]), (28, .iconst 0, 29, []), (29, .ireturn, 30, [0]), (30, .aload_n 0, 31, []), (31, .getfield 30, 34, [22, 8, 1573, 0, 0, 0]), (34, .l2i, 35, []), (35, .istore_n 2, 36, []), (36, .aload_n 0, 37, []), (37, .iload_n 1, 38, []), (38, .i2l, 39, []), (39, .putfield 30, 42, [22, 8, 3, 1573, 0, 0, 0]), (42, .iload_n 2, 43, []), (43, .ireturn, 44, [0])]
/-- TaperhallModel.selected(II)I -/
def s_c151 : List sN := [(0, .new 7, 3, [0, 8, 1531, 177, 119]), (3, .dup, 4, []), (4, .invokespecial 9, 7, [2, 194, 1, 1000, 0, 1532, 179, 119]), (7, .astore_n 3, 8, []), (8, .iconst 0, 9, []), (9, .istore 4, 11, []), (11, .iload 4, 13, []), (13, .aload_n 0, 14, []), (14, .getfield 16, 17, [22, 2, 1567, 0, 0, 0]), (17, .invokevirtual 41, 20, [3, 201, 1, 9, 0, 1601, 347, 348, 119]), (20, .if_icmp .ge 100, 23, [120]), (120, .aload_n 0, 121, []), (121, .iload_n 1, 122, []), (122, .i2l, 123, []), (123, .lconst 1, 124, []), (124, .ldc2_w 228, 127, [0, 8, 2267]), (127, .invokestatic 88, 130, [1, 134, 3, 0, 0, 1626, 1627, 123]), (130, .ifCond .ne 7, 133, [137]), (133, .iconst 1, 134, []), (134, .goto 28, 137, [162]), (137, .iload_n 2, 138, []), (138, .i2l, 139, []), (139, .lconst 0, 140, []), (140, .iload_n 1, 141, []), (141, .aload_n 3, 142, []), (142, .invokevirtual 41, 145, [3, 201, 1, 9, 0, 1601, 347, 348, 119]), (145, .invokestatic 223, 148, [1, 178, 2, 0, 0, 2246, 388, 134]), (148, .iconst 1, 149, []), (149, .isub, 150, []), (150, .i2l, 151, []), (151, .invokestatic 88, 154, [1, 134, 3, 0, 0, 1626, 1627, 123]), (154, .ifCond .ne 7, 157, [161]), (157, .iconst 2, 158, []), (158, .goto 4, 161, [162]), (162, .putfield 34, 165, [22, 0, 0, 1565, 0, 0, 0]), (165, .aload_n 0, 166, []), (166, .getfield 34, 169, [22, 0, 1565, 0, 0, 0]), (169, .ifCond .le 7, 172, [176]), (172, .iconst 0, 173, []), (173, .goto 14, 176, [187]), (187, .ireturn, 188, [0])]
/-- TaperhallModel.session()C -/
def s_c152 : List sN := [(0, .aload_n 0, 1, []), (1, .aload_n 0, 2, []), (2, .getfield 10, 5, [22, 1, 1566, 0, 0, 0]), (5, .invokevirtual 41, 8, [3, 201, 1, 9, 0, 1601, 347, 348, 119]), (8, .bipush 10, 10, []), (10, .if_icmp .ne 7, 13, [17]), (17, .iconst 0, 18, []), (18, .putfield 34, 21, [22, 0, 0, 1565, 0, 0, 0]), (21, .aload_n 0, 22, []), (22, .getfield 34, 25, [22, 0, 1565, 0, 0, 0]), (25, .ifCond .le 6, 28, [31]), (31, .aload_n 0, 32, []), (32, .getfield 10, 35, [22, 1, 1566, 0, 0, 0]), (35, .new 49, 38, [0, 21, 1602, 1603, 137]), (38, .dup, 39, []), (39, .invokespecial 58, 42, [12, 170, 1, 1000, 2, 1605, 137, 1604]), (42, .invokevirtual 59, 45, [3, 195, 2, 9, 0, 1615, 550, 551, 119]), (45, .pop, 46, []), (46, .bipush 97, 48, []), (48, .aload_n 0, 49, []), (49, .getfield 10, 52, [22, 1, 1566, 0, 0, 0]), (52, .invokevirtual 41, 55, [3, 201, 1, 9, 0, 1601, 347, 348, 119]), (55, .iadd, 56, []), (56, .iconst 1, 57, []), (57, .isub, 58, []), (58, .i2c, 59, []), (59, .ireturn, 60, [2])]
/-- TaperhallModel.set(CIII)I -/
def s_c153 : List sN := [(0, .aload_n 0, 1, []), (1, .iload_n 1, 2, []), (2, .invokevirtual 51, 5, [3, 140, 2, 23, 0, 1620, 1622, 90, 123]), (5, .astore 5, 7, []), (7, .aload 5, 9, []), (9, .ifnull 44, 12, [53]), (53, .iconst 0, 54, []), (54, .istore 6, 56, []), (56, .aload_n 0, 57, []), (57, .iload 6, 59, []), (59, .ifCond .ne 7, 62, [66]), (62, .iconst 1, 63, []), (63, .goto 33, 66, [96]), (96, .putfield 34, 99, [22, 0, 0, 1565, 0, 0, 0]), (99, .aload_n 0, 100, []), (100, .getfield 34, 103, [22, 0, 1565, 0, 0, 0]), (103, .ifCond .le 5, 106, [108]), (106, .iconst 0, 107, []), (107, .ireturn, 108, [0])]
/-- TaperhallModel.setCeiling(II)I -/
def s_c154 : List sN := [(0, .aload_n 0, 1, []), (1, .iload_n 1, 2, []), (2, .invokevirtual 172, 5, [3, 141, 2, 23, 0, 2197, 2199, 96, 123]), (5, .ifCond .eq 5, 8, [10]), (8, .iconst 0, 9, []), (9, .ireturn, 10, [0])]
/-- TaperhallModel.setError(I)I -/
def s_c155 : List sN := [(0, .aload_n 0, 1, []), (1, .iload_n 1, 2, []), (2, .i2l, 3, []), (3, .lconst 0, 4, []), (4, .ldc2_w 315, 7, [0, 99, 2402]), (7, .invokestatic 88, 10, [1, 134, 3, 0, 0, 1626, 1627, 123]), (10, .ifCond .eq 7, 13, [17]), (13, .iconst 0, 14, []), (14, .goto 4, 17, [18]), (17, .iconst 1, 18, []), (18, .putfield 34, 21, [22, 0, 0, 1565, 0, 0, 0]), (21, .aload_n 0, 22, []), (22, .getfield 34, 25, [22, 0, 1565, 0, 0, 0]), (25, .ifCond .le 5, 28, [30]), (28, .iconst 0, 29, []), (29, .ireturn, 30, [0]), (30, .aload_n 0, 31, []), (31, .getfield 317, 34, [22, 6, 1571, 0, 0, 0]), (34, .istore_n 2, 35, []), (35, .aload_n 0, 36, []), (36, .iload_n 1, 37, []), (37, .putfield 317, 40, [22, 6, 0, 1571, 0, 0, 0]), (40, .iload_n 2, 41, []), (41, .ireturn, 42, [0])]
/-- TaperhallModel.setLanes(I)I -/
def s_c156 : List sN := [(0, .aload_n 0, 1, []), (1, .iload_n 1, 2, []), (2, .i2l, 3, []), (3, .lconst 0, 4, []), (4, .ldc2_w 228, 7, [0, 8, 2267]), (7, .invokestatic 88, 10, [1, 134, 3, 0, 0, 1626, 1627, 123]), (10, .ifCond .eq 7, 13, [17]), (13, .iconst 0, 14, []), (14, .goto 4, 17, [18]), (17, .iconst 1, 18, []), (18, .putfield 34, 21, [22, 0, 0, 1565, 0, 0, 0]), (21, .aload_n 0, 22, []), (22, .getfield 34, 25, [22, 0, 1565, 0, 0, 0]), (25, .ifCond .le 5, 28, [30]), (28, .iconst 0, 29, []), (29, .ireturn, 30, [0]), (30, .aload_n 0, 31, []), (31, .getfield 26, 34, [22, 5, 1570, 0, 0, 0]), (34, .istore_n 2, 35, []), (35, .aload_n 0, 36, []), (36, .iload_n 1, 37, []), (37, .putfield 26, 40, [22, 5, 0, 1570, 0, 0, 0]), (40, .iload_n 2, 41, []), (41, .ireturn, 42, [0])]
/-- TaperhallModel.setStandard(I)I -/
def s_c157 : List sN := [(0, .aload_n 0, 1, []), (1, .iload_n 1, 2, []), (2, .i2l, 3, []), (3, .ldc2_w 367, 6, [1, 9998, 2471]), (6, .ldc2_w 110, 9, [0, 99999, 1706]), (9, .invokestatic 88, 12, [1, 134, 3, 0, 0, 1626, 1627, 123]), (12, .ifCond .eq 7, 15, [19]), (15, .iconst 0, 16, []), (16, .goto 4, 19, [20]), (19, .iconst 1, 20, []), (20, .putfield 34, 23, [22, 0, 0, 1565, 0, 0, 0]), (23, .aload_n 0, 24, []), (24, .getfield 34, 27, [22, 0, 1565, 0, 0, 0]), (27, .ifCond .le 5, 30, [32]), (30, .iconst 0, 31, []), (31, .ireturn, 32, [0]), (32, .aload_n 0, 33, []), (33, .getfield 369, 36, [22, 7, 1572, 0, 0, 0]), (36, .istore_n 2, 37, []), (37, .aload_n 0, 38, []), (38, .iload_n 1, 39, []), (39, .putfield 369, 42, [22, 7, 0, 1572, 0, 0, 0]), (42, .iload_n 2, 43, []), (43, .ireturn, 44, [0])]
/-- TaperhallModel.shift(III)I -/
def s_c158 : List sN := [(0, .aload_n 0, 1, []), (1, .iload_n 1, 2, []), (2, .invokevirtual 172, 5, [3, 141, 2, 23, 0, 2197, 2199, 96, 123]), (5, .ifCond .eq 5, 8, [10]), (8, .iconst 0, 9, []), (9, .ireturn, 10, [0])]
/-- TaperhallModel.sum(C)J -/
def s_c159 : List sN := [(0, .lconst 0, 1, []), (1, .lstore_n 2, 2, []), (2, .aload_n 0, 3, []), (3, .getfield 10, 6, [22, 1, 1566, 0, 0, 0]), (6, .invokevirtual 63, 9, [3, 200, 1, 9, 0, 1635, 1636, 1637, 119]), (9, .astore 4, 11, []), (11, .aload 4, 13, []), (13, .invokeinterface 67 1, 18, [4, 203, 1, 8, 0, 1659, 1663, 1665, 142]), (18, .ifCond .eq 28, 21, [46]), (46, .lload_n 2, 47, []), (47, .lreturn, 48, [])]
/-- TaperhallModel.taper(III)J -/
def s_c160 : List sN := [(0, .aload_n 0, 1, []), (1, .iload_n 1, 2, []), (2, .iload_n 2, 3, []), (3, .iload_n 3, 4, []), (4, .invokevirtual 393, 7, [3, 143, 4, 23, 0, 2513, 2515, 111, 123]), (7, .ifCond .eq 5, 10, [12]), (10, .lconst 0, 11, []), (11, .lreturn, 12, [])]
/-- TaperhallModel.taperAt(IIII)C -/
def s_c161 : List sN := [(0, .aload_n 0, 1, []), (1, .iload_n 1, 2, []), (2, .iload_n 2, 3, []), (3, .iload_n 3, 4, []), (4, .invokevirtual 393, 7, [3, 143, 4, 23, 0, 2513, 2515, 111, 123]), (7, .ifCond .eq 6, 10, [13]), (10, .bipush 32, 12, []), (12, .ireturn, 13, [2])]
/-- TaperhallModel.test(I)I -/
def s_c162 : List sN := [(0, .aload_n 0, 1, []), (1, .iload_n 1, 2, []), (2, .invokevirtual 172, 5, [3, 141, 2, 23, 0, 2197, 2199, 96, 123]), (5, .ifCond .eq 5, 8, [10]), (8, .iconst 0, 9, []), (9, .ireturn, 10, [0])]
/-- TaperhallModel.thrown()I -/
def s_c163 : List sN := [(0, .aload_n 0, 1, []), (1, .getfield 34, 4, [22, 0, 1565, 0, 0, 0]), (4, .ireturn, 5, [0])]
/-- TaperhallModel.today()I -/
def s_c164 : List sN := [(0, .aload_n 0, 1, []), (1, .iconst 0, 2, []), (2, .putfield 34, 5, [22, 0, 0, 1565, 0, 0, 0]), (5, .aload_n 0, 6, []), (6, .getfield 79, 9, [22, 4, 1569, 0, 0, 0]), (9, .ireturn, 10, [0])]
/-- TaperhallModel.turn(ICC)J -/
def s_c165 : List sN := [(0, .aload_n 0, 1, []), (1, .iload_n 2, 2, []), (2, .invokestatic 103, 5, [1, 137, 1, 0, 0, 1688, 1689, 123]), (5, .ifCond .eq 22, 8, [27]), (8, .iload_n 3, 9, []), (9, .invokestatic 103, 12, [1, 137, 1, 0, 0, 1688, 1689, 123]), (12, .ifCond .eq 15, 15, [27]), (15, .iload_n 1, 16, []), (16, .i2l, 17, []), (17, .lconst 0, 18, []), (18, .ldc2_w 110, 21, [0, 99999, 1706]), (21, .invokestatic 88, 24, [1, 134, 3, 0, 0, 1626, 1627, 123]), (24, .ifCond .ne 7, 27, [31]), (27, .iconst 1, 28, []), (28, .goto 18, 31, [46]), (31, .aload_n 0, 32, []), (32, .iload_n 2, 33, []), (33, .invokevirtual 112, 36, [3, 159, 2, 23, 0, 1707, 1709, 92, 123]), (36, .lconst 0, 37, []), (37, .lcmp, 38, []), (38, .ifCond .ne 7, 41, [45]), (41, .iconst 2, 42, []), (42, .goto 4, 45, [46]), (46, .putfield 34, 49, [22, 0, 0, 1565, 0, 0, 0]), (49, .aload_n 0, 50, []), (50, .getfield 34, 53, [22, 0, 1565, 0, 0, 0]), (53, .ifCond .le 7, 56, [60]), (56, .lconst 0, 57, []), (57, .goto 17, 60, [74]), (74, .lreturn, 75, [])]
/-- TaperhallModel.type(C)I -/
def s_c166 : List sN := [(0, .iload_n 1, 1, []), (1, .bipush 97, 3, []), (3, .if_icmp .lt 9, 6, [12]), (6, .iload_n 1, 7, []), (7, .bipush 122, 9, []), (9, .if_icmp .le 33, 12, [42]), (12, .iload_n 1, 13, []), (13, .bipush 50, 15, []), (15, .if_icmp .lt 9, 18, [24]), (18, .iload_n 1, 19, []), (19, .bipush 57, 21, []), (21, .if_icmp .le 21, 24, [42]), (24, .iload_n 1, 25, []), (25, .bipush 46, 27, []), (27, .if_icmp .eq 15, 30, [42]), (30, .iload_n 1, 31, []), (31, .bipush 40, 33, []), (33, .if_icmp .eq 9, 36, [42]), (36, .iload_n 1, 37, []), (37, .bipush 41, 39, []), (39, .if_icmp .ne 7, 42, [46]), (42, .iconst 1, 43, []), (43, .goto 4, 46, [47]), (46, .iconst 0, 47, []), (47, .istore_n 2, 48, []), (48, .aload_n 0, 49, []), (49, .iload_n 2, 50, []), (50, .ifCond .ne 7, 53, [57]), (53, .iconst 1, 54, []), (54, .goto 20, 57, [74]), (57, .aload_n 0, 58, []), (58, .getfield 22, 61, [22, 3, 1568, 0, 0, 0]), (61, .invokevirtual 116, 64, [3, 186, 1, 2, 0, 1715, 1716, 1717, 125]), (64, .bipush 24, 66, []), (66, .if_icmp .ne 7, 69, [73]), (73, .iconst 0, 74, []), (74, .putfield 34, 77, [22, 0, 0, 1565, 0, 0, 0]), (77, .aload_n 0, 78, []), (78, .getfield 34, 81, [22, 0, 1565, 0, 0, 0]), (81, .ifCond .le 5, 84, [86]), (84, .iconst 0, 85, []), (85, .ireturn, 86, [0]), (86, .aload_n 0, 87, []), (87, .getfield 22, 90, [22, 3, 1568, 0, 0, 0]), (90, .iload_n 1, 91, []), (91, .invokevirtual 119, 94, [3, 185, 2, 2, 0, 1722, 1723, 1724, 125]), (94, .pop, 95, []), (95, .aload_n 0, 96, []), (96, .getfield 22, 99, [22, 3, 1568, 0, 0, 0]), (99, .invokevirtual 116, 102, [3, 186, 1, 2, 0, 1715, 1716, 1717, 125]), (102, .ireturn, 103, [0])]
/-- TaperhallModel.unfolds()I -/
def s_c167 : List sN := [(0, .aload_n 0, 1, []), (1, .aload_n 0, 2, []), (2, .invokevirtual 156, 5, [3, 127, 1, 23, 0, 1988, 1990, 93, 123]), (5, .ifCond .lt 7, 8, [12]), (8, .iconst 1, 9, []), (9, .goto 4, 12, [13]), (13, .putfield 34, 16, [22, 0, 0, 1565, 0, 0, 0]), (16, .aload_n 0, 17, []), (17, .getfield 34, 20, [22, 0, 1565, 0, 0, 0]), (20, .ifCond .le 7, 23, [27]), (23, .iconst 0, 24, []), (24, .goto 10, 27, [34]), (34, .ireturn, 35, [0])]
/-- TaperhallModel.wipe()I -/
def s_c168 : List sN := [(0, .aload_n 0, 1, []), (1, .iconst 0, 2, []), (2, .putfield 34, 5, [22, 0, 0, 1565, 0, 0, 0]), (5, .aload_n 0, 6, []), (6, .getfield 22, 9, [22, 3, 1568, 0, 0, 0]), (9, .invokevirtual 116, 12, [3, 186, 1, 2, 0, 1715, 1716, 1717, 125]), (12, .istore_n 1, 13, []), (13, .aload_n 0, 14, []), (14, .getfield 22, 17, [22, 3, 1568, 0, 0, 0]), (17, .iconst 0, 18, []), (18, .invokevirtual 123, 21, [3, 187, 2, 2, 0, 1804, 1805, 1806, 125]), (21, .iload_n 1, 22, []), (22, .ireturn, 23, [0])]
/-- TaperhallModel$Athlete.<init>(IIIII)V -/
def s_c169_0 : List sN := [(0, .aload_n 0, 1, []), (1, .invokespecial 3, 4, [0, 2086, 168, 169]), (4, .aload_n 0, 5, []), (5, .iconst 1, 6, []), (6, .putfield 9, 9, [20, 5, 0, 2099, 0, 0, 0]), (9, .aload_n 0, 10, []), (10, .iconst 1, 11, []), (11, .putfield 15, 14, [20, 6, 0, 2101, 0, 0, 0]), (14, .aload_n 0, 15, []), (15, .sipush 200, 18, []), (18, .putfield 18, 21, [20, 7, 0, 2103, 0, 0, 0]), (21, .aload_n 0, 22, []), (22, .sipush 9999, 25, []), (25, .putfield 21, 28, [20, 8, 0, 2105, 0, 0, 0]), (28, .aload_n 0, 29, []), (29, .sipush 240, 32, []), (32, .newarray .char, 34, [235]), (34, .putfield 24, 37, [20, 9, 4, 2107, 0, 0, 0]), (37, .aload_n 0, 38, []), (38, .sipush 240, 41, []), (41, .newarray .int, 43, [236]), (43, .putfield 28, 46, [20, 10, 4, 2109, 0, 1, 0]), (46, .aload_n 0, 47, []), (47, .sipush 240, 50, []), (50, .newarray .int, 52, [236]), (52, .putfield 32, 55, [20, 11, 4, 2111, 0, 1, 0]), (55, .aload_n 0, 56, []), (56, .iconst (-1), 57, []), (57, .putfield 35, 60, [20, 16, 0, 2119, 0, 0, 0]), (60, .aload_n 0, 61, []), (61, .bipush (-99), 63, []), (63, .putfield 38, 66, [20, 17, 0, 2121, 0, 0, 0]), (66, .aload_n 0, 67, []), (67, .iconst (-1), 68, []), (68, .putfield 41, 71, [20, 19, 0, 2125, 0, 0, 0]), (71, .aload_n 0, 72, []), (72, .new 44, 75, [0, 8, 2087, 177, 119]), (75, .dup, 76, []), (76, .invokespecial 46, 79, [2, 194, 1, 1000, 0, 2088, 179, 119]), (79, .putfield 47, 82, [20, 20, 4, 2127, 0, 1, 0]), (82, .aload_n 0, 83, []), (83, .new 44, 86, [0, 8, 2087, 177, 119]), (86, .dup, 87, []), (87, .invokespecial 46, 90, [2, 194, 1, 1000, 0, 2088, 179, 119]), (90, .putfield 51, 93, [20, 21, 4, 2129, 0, 1, 0]), (93, .aload_n 0, 94, []), (94, .new 44, 97, [0, 8, 2087, 177, 119]), (97, .dup, 98, []), (98, .invokespecial 46, 101, [2, 194, 1, 1000, 0, 2088, 179, 119]), (101, .putfield 54, 104, [20, 22, 4, 2131, 0, 1, 0]), (104, .aload_n 0, 105, []), (105, .new 44, 108, [0, 8, 2087, 177, 119]), (108, .dup, 109, []), (109, .invokespecial 46, 112, [2, 194, 1, 1000, 0, 2088, 179, 119]), (112, .putfield 57, 115, [20, 23, 4, 2133, 0, 1, 0]), (115, .aload_n 0, 116, []), (116, .iload_n 1, 117, []), (117, .putfield 60, 120, [20, 0, 0, 2089, 0, 1, 0]), (120, .aload_n 0, 121, []), (121, .iload_n 2, 122, [])]
def s_c169_1 : List sN := [(122, .putfield 63, 125, [20, 1, 0, 2091, 0, 1, 0]), (125, .aload_n 0, 126, []), (126, .iload_n 3, 127, []), (127, .putfield 66, 130, [20, 2, 0, 2093, 0, 1, 0]), (130, .aload_n 0, 131, []), (131, .iload 4, 133, []), (133, .putfield 69, 136, [20, 3, 0, 2095, 0, 1, 0]), (136, .aload_n 0, 137, []), (137, .iload 5, 139, []), (139, .putfield 72, 142, [20, 4, 0, 2097, 0, 1, 0]), (142, .iconst 0, 143, []), (143, .istore 6, 145, []), (145, .iload 6, 147, []), (147, .sipush 240, 150, []), (150, .if_icmp .ge 18, 153, [168]), (153, .aload_n 0, 154, []), (154, .getfield 24, 157, [20, 9, 2107, 0, 0, 0]), (157, .iload 6, 159, []), (159, .bipush 46, 161, []), (161, .castore, 162, []), (162, .iinc 6 1, 165, []), (165, .goto (-20), 168, [145]), (168, .return_, 169, [])]
def s_c169 : List sN := s_c169_0 ++ (s_c169_1)
/-- TaperhallModel$Session.<init>()V -/
def s_c170 : List sN := [(0, .aload_n 0, 1, []), (1, .invokespecial 1, 4, [0, 1607, 168, 169]), (4, .aload_n 0, 5, []), (5, .new 7, 8, [0, 8, 1608, 177, 119]), (8, .dup, 9, []), (9, .invokespecial 9, 12, [2, 194, 1, 1000, 0, 1609, 179, 119]), (12, .putfield 10, 15, [21, 0, 4, 1610, 0, 1, 0]), (15, .return_, 16, [])]
/-- java/lang/AbstractStringBuilder.<init>(I)V -/
def s_c171 : List sN := [(0, .aload_n 0, 1, []), (1, .invokespecial 3, 4, [0, 1541, 168, 169]), (4, .getstatic 18, 7, [2, 1542]), (7, .ifCond .eq 18, 10, [25]), (10, .aload_n 0, 11, []), (11, .iload_n 1, 12, []), (12, .newarray .byte, 14, [723]), (14, .putfield 15, 17, [1, 0, 4, 1551, 0, 0, 0]), (17, .aload_n 0, 18, []), (18, .iconst 0, 19, []), (19, .putfield 22, 22, [1, 1, 5, 1552, 0, 0, 0]), (22, .goto 16, 25, [38]), (38, .return_, 39, [])]
/-- java/lang/AbstractStringBuilder.append(C)Ljava/lang/AbstractStringBuilder; -/
def s_c172 : List sN := [(0, .aload_n 0, 1, []), (1, .aload_n 0, 2, []), (2, .getfield 79, 5, [1, 3, 1555, 0, 0, 0]), (5, .iconst 1, 6, []), (6, .iadd, 7, []), (7, .invokevirtual 100, 10, [6, 173, 2, 2, 0, 1729, 2574, 0, 1731, 124]), (10, .aload_n 0, 11, []), (11, .invokevirtual 83, 14, [6, 174, 1, 2, 0, 1749, 1751, 1752, 1750, 124]), (14, .ifCond .eq 31, 17, [45]), (17, .iload_n 1, 18, []), (18, .invokestatic 191, 21, [1, 188, 1, 0, 0, 1754, 1755, 145]), (21, .ifCond .eq 24, 24, [45]), (24, .aload_n 0, 25, []), (25, .getfield 15, 28, [1, 0, 1551, 0, 0, 0]), (28, .aload_n 0, 29, []), (29, .dup, 30, []), (30, .getfield 79, 33, [1, 3, 1555, 0, 0, 0]), (33, .dup_x1, 34, []), (34, .iconst 1, 35, []), (35, .iadd, 36, []), (36, .putfield 79, 39, [1, 3, 0, 1555, 0, 0, 0]), (39, .iload_n 1, 40, []), (40, .i2b, 41, []), (41, .bastore, 42, []), (42, .goto 33, 45, [75]), (75, .aload_n 0, 76, []), (76, .areturn, 77, [])]
/-- java/lang/AbstractStringBuilder.ensureCapacityInternal(I)V -/
def s_c173 : List sN := [(0, .aload_n 0, 1, []), (1, .getfield 15, 4, [1, 0, 1551, 0, 0, 0]), (4, .arraylength, 5, []), (5, .aload_n 0, 6, []), (6, .getfield 22, 9, [1, 1, 1552, 0, 0, 0]), (9, .ishr, 10, []), (10, .istore_n 2, 11, []), (11, .iload_n 1, 12, []), (12, .iload_n 2, 13, []), (13, .isub, 14, []), (14, .ifCond .le 24, 17, [38]), (38, .return_, 39, [])]
/-- java/lang/AbstractStringBuilder.isLatin1()Z -/
def s_c174 : List sN := [(0, .getstatic 18, 3, [2, 1542]), (3, .ifCond .eq 14, 6, [17]), (6, .aload_n 0, 7, []), (7, .getfield 22, 10, [1, 1, 1552, 0, 0, 0]), (10, .ifCond .ne 7, 13, [17]), (13, .iconst 1, 14, []), (14, .goto 4, 17, [18]), (18, .ireturn, 19, [1])]
/-- java/lang/AbstractStringBuilder.length()I -/
def s_c175 : List sN := [(0, .aload_n 0, 1, []), (1, .getfield 79, 4, [1, 3, 1555, 0, 0, 0]), (4, .ireturn, 5, [0])]
/-- java/lang/AbstractStringBuilder.setLength(I)V -/
def s_c176 : List sN := [(0, .iload_n 1, 1, []), (1, .ifCond .ge 12, 4, [13]), (13, .aload_n 0, 14, []), (14, .iload_n 1, 15, []), (15, .invokevirtual 100, 18, [6, 173, 2, 2, 0, 1729, 2574, 0, 1731, 124]), (18, .aload_n 0, 19, []), (19, .getfield 79, 22, [1, 3, 1555, 0, 0, 0]), (22, .iload_n 1, 23, []), (23, .if_icmp .ge 40, 26, [63]), (63, .aload_n 0, 64, []), (64, .getfield 79, 67, [1, 3, 1555, 0, 0, 0]), (67, .iload_n 1, 68, []), (68, .if_icmp .le 8, 71, [76]), (76, .aload_n 0, 77, []), (77, .iload_n 1, 78, []), (78, .putfield 79, 81, [1, 3, 0, 1555, 0, 0, 0]), (81, .return_, 82, [])]
/-- java/lang/Math.max(II)I -/
def s_c177 : List sN := [(0, .iload_n 0, 1, []), (1, .iload_n 1, 2, []), (2, .if_icmp .lt 7, 5, [9]), (5, .iload_n 0, 6, []), (6, .goto 4, 9, [10]), (10, .ireturn, 11, [0])]
/-- java/lang/Math.min(II)I -/
def s_c178 : List sN := [(0, .iload_n 0, 1, []), (1, .iload_n 1, 2, []), (2, .if_icmp .gt 7, 5, [9]), (5, .iload_n 0, 6, []), (6, .goto 4, 9, [10]), (9, .iload_n 1, 10, []), (10, .ireturn, 11, [0])]
/-- java/lang/String.coder()B -/
def s_c179 : List sN := [(0, .getstatic 38, 3, [2, 1850]), (3, .ifCond .eq 10, 6, [13]), (6, .aload_n 0, 7, []), (7, .getfield 15, 10, [0, 0, 1944, 0, 2]), (10, .goto 4, 13, [14]), (14, .ireturn, 15, [5])]
/-- java/lang/String.indexOf(I)I -/
def s_c180 : List sN := [(0, .aload_n 0, 1, []), (1, .iload_n 1, 2, []), (2, .iconst 0, 3, []), (3, .invokevirtual 633, 6, [3, 181, 3, 1001, 0, 2309, 2310, 2311, 126]), (6, .ireturn, 7, [0])]
/-- java/lang/String.indexOf(II)I -/
def s_c181 : List sN := [(0, .aload_n 0, 1, []), (1, .invokevirtual 492, 4, [3, 182, 1, 1001, 0, 2313, 2314, 2315, 126]), (4, .ifCond .eq 19, 7, [23]), (7, .aload_n 0, 8, []), (8, .getfield 9, 11, [0, 0, 1943, 0, 1]), (11, .iload_n 1, 12, []), (12, .iload_n 2, 13, []), (13, .aload_n 0, 14, []), (14, .invokevirtual 505, 17, [3, 183, 1, 1001, 0, 2317, 1843, 1844, 126]), (17, .invokestatic 637, 20, [1, 190, 4, 0, 0, 2318, 2319, 145]), (20, .goto 16, 23, [36]), (36, .ireturn, 37, [0])]
/-- java/lang/String.isLatin1()Z -/
def s_c182 : List sN := [(0, .getstatic 38, 3, [2, 1850]), (3, .ifCond .eq 14, 6, [17]), (6, .aload_n 0, 7, []), (7, .getfield 15, 10, [0, 0, 1944, 0, 2]), (10, .ifCond .ne 7, 13, [17]), (13, .iconst 1, 14, []), (14, .goto 4, 17, [18]), (18, .ireturn, 19, [1])]
/-- java/lang/String.length()I -/
def s_c183 : List sN := [(0, .aload_n 0, 1, []), (1, .getfield 9, 4, [0, 0, 1943, 0, 1]), (4, .arraylength, 5, []), (5, .aload_n 0, 6, []), (6, .invokevirtual 335, 9, [3, 179, 1, 1001, 0, 1846, 1847, 1848, 126]), (9, .ishr, 10, []), (10, .ireturn, 11, [0])]
/-- java/lang/StringBuilder.<init>()V -/
def s_c184 : List sN := [(0, .aload_n 0, 1, []), (1, .bipush 16, 3, []), (3, .invokespecial 1, 6, [2, 171, 2, 1000, 0, 1538, 1539, 124]), (6, .return_, 7, [])]
/-- java/lang/StringBuilder.append(C)Ljava/lang/StringBuilder; -/
def s_c185 : List sN := [(0, .aload_n 0, 1, []), (1, .iload_n 1, 2, []), (2, .invokespecial 50, 5, [5, 172, 2, 2, 0, 1726, 2573, 1564, 1727, 124]), (5, .pop, 6, []), (6, .aload_n 0, 7, []), (7, .areturn, 8, [])]
/-- java/lang/StringBuilder.length()I -/
def s_c186 : List sN := [(0, .aload_n 0, 1, []), (1, .invokespecial 343, 4, [5, 175, 1, 2, 0, 1719, 2572, 1564, 1720, 124]), (4, .ireturn, 5, [0])]
/-- java/lang/StringBuilder.setLength(I)V -/
def s_c187 : List sN := [(0, .aload_n 0, 1, []), (1, .iload_n 1, 2, []), (2, .invokespecial 333, 5, [5, 176, 2, 2, 0, 1808, 2577, 1564, 1809, 124]), (5, .return_, 6, [])]
/-- java/lang/StringLatin1.canEncode(C)Z -/
def s_c188 : List sN := [(0, .iload_n 0, 1, []), (1, .sipush 255, 4, []), (4, .if_icmp .gt 7, 7, [11]), (7, .iconst 1, 8, []), (8, .goto 4, 11, [12]), (12, .ireturn, 13, [1])]
/-- java/lang/StringLatin1.canEncode(I)Z -/
def s_c189 : List sN := [(0, .iload_n 0, 1, []), (1, .ifCond .lt 14, 4, [15]), (4, .iload_n 0, 5, []), (5, .sipush 255, 8, []), (8, .if_icmp .gt 7, 11, [15]), (11, .iconst 1, 12, []), (12, .goto 4, 15, [16]), (15, .iconst 0, 16, []), (16, .ireturn, 17, [1])]
/-- java/lang/StringLatin1.indexOf([BIII)I -/
def s_c190 : List sN := [(0, .iload_n 1, 1, []), (1, .invokestatic 88, 4, [1, 189, 1, 0, 0, 2321, 2322, 145]), (4, .ifCond .ne 5, 7, [9]), (7, .iconst (-1), 8, []), (8, .ireturn, 9, [0]), (9, .iload_n 2, 10, []), (10, .iconst 0, 11, []), (11, .invokestatic 92, 14, [1, 177, 2, 0, 0, 2324, 381, 134]), (14, .istore_n 2, 15, []), (15, .iload_n 3, 16, []), (16, .aload_n 0, 17, []), (17, .arraylength, 18, []), (18, .invokestatic 38, 21, [1, 178, 2, 0, 0, 2325, 388, 134]), (21, .istore_n 3, 22, []), (22, .iload_n 2, 23, []), (23, .iload_n 3, 24, []), (24, .if_icmp .lt 5, 27, [29]), (29, .aload_n 0, 30, []), (30, .iload_n 1, 31, []), (31, .iload_n 2, 32, []), (32, .iload_n 3, 33, []), (33, .invokestatic 95, 36, [1, 191, 4, 0, 0, 2326, 2327, 145]), (36, .ireturn, 37, [0])]
/-- java/lang/StringLatin1.indexOfChar([BIII)I -/
def s_c191 : List sN := [(0, .iload_n 1, 1, []), (1, .i2b, 2, []), (2, .istore 4, 4, []), (4, .iload_n 2, 5, []), (5, .istore 5, 7, []), (7, .iload 5, 9, []), (9, .iload_n 3, 10, []), (10, .if_icmp .ge 21, 13, [31]), (13, .aload_n 0, 14, []), (14, .iload 5, 16, []), (16, .baload, 17, []), (17, .iload 4, 19, []), (19, .if_icmp .ne 6, 22, [25]), (22, .iload 5, 24, []), (24, .ireturn, 25, [0]), (25, .iinc 5 1, 28, []), (28, .goto (-21), 31, [7]), (31, .iconst (-1), 32, []), (32, .ireturn, 33, [0])]
/-- java/util/AbstractCollection.<init>()V -/
def s_c192 : List sN := [(0, .aload_n 0, 1, []), (1, .invokespecial 1, 4, [0, 187, 168, 169]), (4, .return_, 5, [])]
/-- java/util/AbstractList.<init>()V -/
def s_c193 : List sN := [(0, .aload_n 0, 1, []), (1, .invokespecial 1, 4, [2, 192, 1, 1000, 0, 184, 185, 117]), (4, .aload_n 0, 5, []), (5, .iconst 0, 6, []), (6, .putfield 7, 9, [8, 0, 0, 194, 0, 0, 0]), (9, .return_, 10, [])]
/-- java/util/ArrayList.<init>()V -/
def s_c194 : List sN := [(0, .aload_n 0, 1, []), (1, .invokespecial 1, 4, [2, 193, 1, 1000, 0, 181, 182, 118]), (4, .aload_n 0, 5, []), (5, .getstatic 39, 8, [1, 188]), (8, .putfield 9, 11, [8, 1, 4, 190, 0, 0, 0]), (11, .return_, 12, [])]
/-- java/util/ArrayList.add(Ljava/lang/Object;)Z -/
def s_c195 : List sN := [(0, .aload_n 0, 1, []), (1, .dup, 2, []), (2, .getfield 63, 5, [8, 0, 197, 0, 0, 196]), (5, .iconst 1, 6, []), (6, .iadd, 7, []), (7, .putfield 63, 10, [8, 0, 0, 197, 0, 0, 196]), (10, .aload_n 0, 11, []), (11, .aload_n 1, 12, []), (12, .aload_n 0, 13, []), (13, .getfield 9, 16, [8, 1, 190, 0, 0, 0]), (16, .aload_n 0, 17, []), (17, .getfield 48, 20, [8, 2, 193, 0, 0, 0]), (20, .invokevirtual 131, 23, [3, 196, 4, 9, 0, 553, 555, 17, 119]), (23, .iconst 1, 24, []), (24, .ireturn, 25, [1])]
/-- java/util/ArrayList.add(Ljava/lang/Object;[Ljava/lang/Object;I)V -/
def s_c196 : List sN := [(0, .iload_n 3, 1, []), (1, .aload_n 2, 2, []), (2, .arraylength, 3, []), (3, .if_icmp .ne 8, 6, [11]), (6, .aload_n 0, 7, []), (7, .invokevirtual 129, 10, [3, 197, 1, 9, 0, 557, 559, 18, 119]), (10, .astore_n 2, 11, []), (11, .aload_n 2, 12, []), (12, .iload_n 3, 13, []), (13, .aload_n 1, 14, []), (14, .aastore, 15, []), (15, .aload_n 0, 16, []), (16, .iload_n 3, 17, []), (17, .iconst 1, 18, []), (18, .iadd, 19, []), (19, .putfield 48, 22, [8, 2, 0, 193, 0, 0, 0]), (22, .return_, 23, [])]
/-- java/util/ArrayList.grow()[Ljava/lang/Object; -/
def s_c197 : List sN := [(0, .aload_n 0, 1, []), (1, .aload_n 0, 2, []), (2, .getfield 48, 5, [8, 2, 193, 0, 0, 0]), (5, .iconst 1, 6, []), (6, .iadd, 7, []), (7, .invokevirtual 69, 10, [3, 198, 2, 9, 0, 561, 563, 19, 119]), (10, .areturn, 11, [])]
/-- java/util/ArrayList.grow(I)[Ljava/lang/Object; -/
def s_c198 : List sN := [(0, .aload_n 0, 1, []), (1, .getfield 9, 4, [8, 1, 190, 0, 0, 0]), (4, .arraylength, 5, []), (5, .istore_n 2, 6, []), (6, .iload_n 2, 7, []), (7, .ifCond .gt 13, 10, [20]), (10, .aload_n 0, 11, []), (11, .getfield 9, 14, [8, 1, 190, 0, 0, 0]), (14, .getstatic 39, 17, [1, 188]), (17, .if_acmp .eq 28, 20, [45]), (45, .aload_n 0, 46, []), (46, .bipush 10, 48, []), (48, .iload_n 1, 49, []), (49, .invokestatic 79, 52, [1, 177, 2, 0, 0, 619, 381, 134]), (52, .anewarray 7, 55, [620]), (55, .dup_x1, 56, []), (56, .putfield 9, 59, [8, 1, 4, 190, 0, 0, 0]), (59, .areturn, 60, [])]
/-- java/util/ArrayList.isEmpty()Z -/
def s_c199 : List sN := [(0, .aload_n 0, 1, []), (1, .getfield 48, 4, [8, 2, 193, 0, 0, 0]), (4, .ifCond .ne 7, 7, [11]), (7, .iconst 1, 8, []), (8, .goto 4, 11, [12]), (12, .ireturn, 13, [1])]
/-- java/util/ArrayList.iterator()Ljava/util/Iterator; -/
def s_c200 : List sN := [(0, .new 267, 3, [0, 7, 1639, 1640, 142]), (3, .dup, 4, []), (4, .aload_n 0, 5, []), (5, .invokespecial 269, 8, [2, 202, 2, 1000, 0, 1641, 1642, 142]), (8, .areturn, 9, [])]
/-- java/util/ArrayList.size()I -/
def s_c201 : List sN := [(0, .aload_n 0, 1, []), (1, .getfield 48, 4, [8, 2, 193, 0, 0, 0]), (4, .ireturn, 5, [0])]
/-- java/util/ArrayList$Itr.<init>(Ljava/util/ArrayList;)V -/
def s_c202 : List sN := [(0, .aload_n 0, 1, []), (1, .aload_n 1, 2, []), (2, .putfield 1, 5, [7, 3, 4, 1648, 0, 1, 0]), (5, .aload_n 0, 6, []), (6, .invokespecial 7, 9, [0, 1644, 168, 169]), (9, .aload_n 0, 10, []), (10, .iconst (-1), 11, []), (11, .putfield 13, 14, [7, 1, 0, 1646, 0, 0, 0]), (14, .aload_n 0, 15, []), (15, .aload_n 0, 16, []), (16, .getfield 1, 19, [7, 3, 1648, 0, 0, 0]), (19, .getfield 17, 22, [8, 0, 195, 0, 0, 196]), (22, .putfield 22, 25, [7, 2, 0, 1647, 0, 0, 0]), (25, .return_, 26, [])]
/-- java/util/ArrayList$Itr.hasNext()Z -/
def s_c203 : List sN := [(0, .aload_n 0, 1, []), (1, .getfield 25, 4, [7, 0, 1645, 0, 0, 0]), (4, .aload_n 0, 5, []), (5, .getfield 1, 8, [7, 3, 1648, 0, 0, 0]), (8, .getfield 28, 11, [8, 2, 192, 3, 0, 0]), (11, .if_icmp .eq 7, 14, [18]), (18, .iconst 0, 19, []), (19, .ireturn, 20, [1])]
def s_code (i : Nat) : List sN := (match Nat.blt i 102 with | true => (match Nat.blt i 51 with | true => (match Nat.blt i 25 with | true => (match Nat.blt i 12 with | true => (match Nat.blt i 6 with | true => (match Nat.blt i 3 with | true => (match Nat.blt i 1 with | true => s_c0 | false => (match Nat.blt i 2 with | true => s_c1 | false => s_c2)) | false => (match Nat.blt i 4 with | true => s_c3 | false => (match Nat.blt i 5 with | true => s_c4 | false => s_c5))) | false => (match Nat.blt i 9 with | true => (match Nat.blt i 7 with | true => s_c6 | false => (match Nat.blt i 8 with | true => s_c7 | false => s_c8)) | false => (match Nat.blt i 10 with | true => s_c9 | false => (match Nat.blt i 11 with | true => s_c10 | false => s_c11)))) | false => (match Nat.blt i 18 with | true => (match Nat.blt i 15 with | true => (match Nat.blt i 13 with | true => s_c12 | false => (match Nat.blt i 14 with | true => s_c13 | false => s_c14)) | false => (match Nat.blt i 16 with | true => s_c15 | false => (match Nat.blt i 17 with | true => s_c16 | false => s_c17))) | false => (match Nat.blt i 21 with | true => (match Nat.blt i 19 with | true => s_c18 | false => (match Nat.blt i 20 with | true => s_c19 | false => s_c20)) | false => (match Nat.blt i 23 with | true => (match Nat.blt i 22 with | true => s_c21 | false => s_c22) | false => (match Nat.blt i 24 with | true => s_c23 | false => s_c24))))) | false => (match Nat.blt i 38 with | true => (match Nat.blt i 31 with | true => (match Nat.blt i 28 with | true => (match Nat.blt i 26 with | true => s_c25 | false => (match Nat.blt i 27 with | true => s_c26 | false => s_c27)) | false => (match Nat.blt i 29 with | true => s_c28 | false => (match Nat.blt i 30 with | true => s_c29 | false => s_c30))) | false => (match Nat.blt i 34 with | true => (match Nat.blt i 32 with | true => s_c31 | false => (match Nat.blt i 33 with | true => s_c32 | false => s_c33)) | false => (match Nat.blt i 36 with | true => (match Nat.blt i 35 with | true => s_c34 | false => s_c35) | false => (match Nat.blt i 37 with | true => s_c36 | false => s_c37)))) | false => (match Nat.blt i 44 with | true => (match Nat.blt i 41 with | true => (match Nat.blt i 39 with | true => s_c38 | false => (match Nat.blt i 40 with | true => s_c39 | false => s_c40)) | false => (match Nat.blt i 42 with | true => s_c41 | false => (match Nat.blt i 43 with | true => s_c42 | false => s_c43))) | false => (match Nat.blt i 47 with | true => (match Nat.blt i 45 with | true => s_c44 | false => (match Nat.blt i 46 with | true => s_c45 | false => s_c46)) | false => (match Nat.blt i 49 with | true => (match Nat.blt i 48 with | true => s_c47 | false => s_c48) | false => (match Nat.blt i 50 with | true => s_c49 | false => s_c50)))))) | false => (match Nat.blt i 76 with | true => (match Nat.blt i 63 with | true => (match Nat.blt i 57 with | true => (match Nat.blt i 54 with | true => (match Nat.blt i 52 with | true => s_c51 | false => (match Nat.blt i 53 with | true => s_c52 | false => s_c53)) | false => (match Nat.blt i 55 with | true => s_c54 | false => (match Nat.blt i 56 with | true => s_c55 | false => s_c56))) | false => (match Nat.blt i 60 with | true => (match Nat.blt i 58 with | true => s_c57 | false => (match Nat.blt i 59 with | true => s_c58 | false => s_c59)) | false => (match Nat.blt i 61 with | true => s_c60 | false => (match Nat.blt i 62 with | true => s_c61 | false => s_c62)))) | false => (match Nat.blt i 69 with | true => (match Nat.blt i 66 with | true => (match Nat.blt i 64 with | true => s_c63 | false => (match Nat.blt i 65 with | true => s_c64 | false => s_c65)) | false => (match Nat.blt i 67 with | true => s_c66 | false => (match Nat.blt i 68 with | true => s_c67 | false => s_c68))) | false => (match Nat.blt i 72 with | true => (match Nat.blt i 70 with | true => s_c69 | false => (match Nat.blt i 71 with | true => s_c70 | false => s_c71)) | false => (match Nat.blt i 74 with | true => (match Nat.blt i 73 with | true => s_c72 | false => s_c73) | false => (match Nat.blt i 75 with | true => s_c74 | false => s_c75))))) | false => (match Nat.blt i 89 with | true => (match Nat.blt i 82 with | true => (match Nat.blt i 79 with | true => (match Nat.blt i 77 with | true => s_c76 | false => (match Nat.blt i 78 with | true => s_c77 | false => s_c78)) | false => (match Nat.blt i 80 with | true => s_c79 | false => (match Nat.blt i 81 with | true => s_c80 | false => s_c81))) | false => (match Nat.blt i 85 with | true => (match Nat.blt i 83 with | true => s_c82 | false => (match Nat.blt i 84 with | true => s_c83 | false => s_c84)) | false => (match Nat.blt i 87 with | true => (match Nat.blt i 86 with | true => s_c85 | false => s_c86) | false => (match Nat.blt i 88 with | true => s_c87 | false => s_c88)))) | false => (match Nat.blt i 95 with | true => (match Nat.blt i 92 with | true => (match Nat.blt i 90 with | true => s_c89 | false => (match Nat.blt i 91 with | true => s_c90 | false => s_c91)) | false => (match Nat.blt i 93 with | true => s_c92 | false => (match Nat.blt i 94 with | true => s_c93 | false => s_c94))) | false => (match Nat.blt i 98 with | true => (match Nat.blt i 96 with | true => s_c95 | false => (match Nat.blt i 97 with | true => s_c96 | false => s_c97)) | false => (match Nat.blt i 100 with | true => (match Nat.blt i 99 with | true => s_c98 | false => s_c99) | false => (match Nat.blt i 101 with | true => s_c100 | false => s_c101))))))) | false => (match Nat.blt i 153 with | true => (match Nat.blt i 127 with | true => (match Nat.blt i 114 with | true => (match Nat.blt i 108 with | true => (match Nat.blt i 105 with | true => (match Nat.blt i 103 with | true => s_c102 | false => (match Nat.blt i 104 with | true => s_c103 | false => s_c104)) | false => (match Nat.blt i 106 with | true => s_c105 | false => (match Nat.blt i 107 with | true => s_c106 | false => s_c107))) | false => (match Nat.blt i 111 with | true => (match Nat.blt i 109 with | true => s_c108 | false => (match Nat.blt i 110 with | true => s_c109 | false => s_c110)) | false => (match Nat.blt i 112 with | true => s_c111 | false => (match Nat.blt i 113 with | true => s_c112 | false => s_c113)))) | false => (match Nat.blt i 120 with | true => (match Nat.blt i 117 with | true => (match Nat.blt i 115 with | true => s_c114 | false => (match Nat.blt i 116 with | true => s_c115 | false => s_c116)) | false => (match Nat.blt i 118 with | true => s_c117 | false => (match Nat.blt i 119 with | true => s_c118 | false => s_c119))) | false => (match Nat.blt i 123 with | true => (match Nat.blt i 121 with | true => s_c120 | false => (match Nat.blt i 122 with | true => s_c121 | false => s_c122)) | false => (match Nat.blt i 125 with | true => (match Nat.blt i 124 with | true => s_c123 | false => s_c124) | false => (match Nat.blt i 126 with | true => s_c125 | false => s_c126))))) | false => (match Nat.blt i 140 with | true => (match Nat.blt i 133 with | true => (match Nat.blt i 130 with | true => (match Nat.blt i 128 with | true => s_c127 | false => (match Nat.blt i 129 with | true => s_c128 | false => s_c129)) | false => (match Nat.blt i 131 with | true => s_c130 | false => (match Nat.blt i 132 with | true => s_c131 | false => s_c132))) | false => (match Nat.blt i 136 with | true => (match Nat.blt i 134 with | true => s_c133 | false => (match Nat.blt i 135 with | true => s_c134 | false => s_c135)) | false => (match Nat.blt i 138 with | true => (match Nat.blt i 137 with | true => s_c136 | false => s_c137) | false => (match Nat.blt i 139 with | true => s_c138 | false => s_c139)))) | false => (match Nat.blt i 146 with | true => (match Nat.blt i 143 with | true => (match Nat.blt i 141 with | true => s_c140 | false => (match Nat.blt i 142 with | true => s_c141 | false => s_c142)) | false => (match Nat.blt i 144 with | true => s_c143 | false => (match Nat.blt i 145 with | true => s_c144 | false => s_c145))) | false => (match Nat.blt i 149 with | true => (match Nat.blt i 147 with | true => s_c146 | false => (match Nat.blt i 148 with | true => s_c147 | false => s_c148)) | false => (match Nat.blt i 151 with | true => (match Nat.blt i 150 with | true => s_c149 | false => s_c150) | false => (match Nat.blt i 152 with | true => s_c151 | false => s_c152)))))) | false => (match Nat.blt i 178 with | true => (match Nat.blt i 165 with | true => (match Nat.blt i 159 with | true => (match Nat.blt i 156 with | true => (match Nat.blt i 154 with | true => s_c153 | false => (match Nat.blt i 155 with | true => s_c154 | false => s_c155)) | false => (match Nat.blt i 157 with | true => s_c156 | false => (match Nat.blt i 158 with | true => s_c157 | false => s_c158))) | false => (match Nat.blt i 162 with | true => (match Nat.blt i 160 with | true => s_c159 | false => (match Nat.blt i 161 with | true => s_c160 | false => s_c161)) | false => (match Nat.blt i 163 with | true => s_c162 | false => (match Nat.blt i 164 with | true => s_c163 | false => s_c164)))) | false => (match Nat.blt i 171 with | true => (match Nat.blt i 168 with | true => (match Nat.blt i 166 with | true => s_c165 | false => (match Nat.blt i 167 with | true => s_c166 | false => s_c167)) | false => (match Nat.blt i 169 with | true => s_c168 | false => (match Nat.blt i 170 with | true => s_c169 | false => s_c170))) | false => (match Nat.blt i 174 with | true => (match Nat.blt i 172 with | true => s_c171 | false => (match Nat.blt i 173 with | true => s_c172 | false => s_c173)) | false => (match Nat.blt i 176 with | true => (match Nat.blt i 175 with | true => s_c174 | false => s_c175) | false => (match Nat.blt i 177 with | true => s_c176 | false => s_c177))))) | false => (match Nat.blt i 191 with | true => (match Nat.blt i 184 with | true => (match Nat.blt i 181 with | true => (match Nat.blt i 179 with | true => s_c178 | false => (match Nat.blt i 180 with | true => s_c179 | false => s_c180)) | false => (match Nat.blt i 182 with | true => s_c181 | false => (match Nat.blt i 183 with | true => s_c182 | false => s_c183))) | false => (match Nat.blt i 187 with | true => (match Nat.blt i 185 with | true => s_c184 | false => (match Nat.blt i 186 with | true => s_c185 | false => s_c186)) | false => (match Nat.blt i 189 with | true => (match Nat.blt i 188 with | true => s_c187 | false => s_c188) | false => (match Nat.blt i 190 with | true => s_c189 | false => s_c190)))) | false => (match Nat.blt i 197 with | true => (match Nat.blt i 194 with | true => (match Nat.blt i 192 with | true => s_c191 | false => (match Nat.blt i 193 with | true => s_c192 | false => s_c193)) | false => (match Nat.blt i 195 with | true => s_c194 | false => (match Nat.blt i 196 with | true => s_c195 | false => s_c196))) | false => (match Nat.blt i 200 with | true => (match Nat.blt i 198 with | true => s_c197 | false => (match Nat.blt i 199 with | true => s_c198 | false => s_c199)) | false => (match Nat.blt i 202 with | true => (match Nat.blt i 201 with | true => s_c200 | false => s_c201) | false => (match Nat.blt i 203 with | true => s_c202 | false => s_c203))))))))
def s_meta (i : Nat) : sM := (match Nat.blt i 102 with | true => (match Nat.blt i 51 with | true => (match Nat.blt i 25 with | true => (match Nat.blt i 12 with | true => (match Nat.blt i 6 with | true => (match Nat.blt i 3 with | true => (match Nat.blt i 1 with | true => (9, 2048, 600006, 7302048, 94400, []) | false => (match Nat.blt i 2 with | true => (1, 5, 14, 375, 100, []) | false => (7, 7, 1, 6, 110, []))) | false => (match Nat.blt i 4 with | true => (7, 7, 23, 1211, 111, []) | false => (match Nat.blt i 5 with | true => (3, 7, 1, 6, 110, []) | false => (4, 7, 1, 6, 110, [])))) | false => (match Nat.blt i 9 with | true => (match Nat.blt i 7 with | true => (4, 7, 1, 6, 110, []) | false => (match Nat.blt i 8 with | true => (4, 7, 1, 6, 110, []) | false => (4, 7, 1, 6, 110, []))) | false => (match Nat.blt i 10 with | true => (2, 7, 1, 6, 110, []) | false => (match Nat.blt i 11 with | true => (5, 1, 0, 0, 20, []) | false => (4, 7, 1, 6, 110, []))))) | false => (match Nat.blt i 18 with | true => (match Nat.blt i 15 with | true => (match Nat.blt i 13 with | true => (5, 7, 1, 6, 110, []) | false => (match Nat.blt i 14 with | true => (1, 2, 0, 0, 48, []) | false => (4, 7, 1, 6, 110, []))) | false => (match Nat.blt i 16 with | true => (7, 7, 1, 6, 110, []) | false => (match Nat.blt i 17 with | true => (3, 6, 1, 6, 89, []) | false => (8, 7, 1, 6, 110, [])))) | false => (match Nat.blt i 21 with | true => (match Nat.blt i 19 with | true => (2, 1, 0, 0, 20, []) | false => (match Nat.blt i 20 with | true => (4, 7, 1, 6, 110, []) | false => (1, 0, 0, 0, 0, []))) | false => (match Nat.blt i 23 with | true => (match Nat.blt i 22 with | true => (2, 7, 1, 6, 110, []) | false => (1, 0, 0, 0, 0, [])) | false => (match Nat.blt i 24 with | true => (4, 1, 0, 0, 20, []) | false => (1, 1, 0, 0, 20, [])))))) | false => (match Nat.blt i 38 with | true => (match Nat.blt i 31 with | true => (match Nat.blt i 28 with | true => (match Nat.blt i 26 with | true => (2, 6, 1, 6, 89, []) | false => (match Nat.blt i 27 with | true => (3, 6, 1, 6, 89, []) | false => (4, 7, 1, 6, 111, []))) | false => (match Nat.blt i 29 with | true => (4, 6, 1, 6, 89, []) | false => (match Nat.blt i 30 with | true => (2, 6, 1, 6, 89, []) | false => (3, 6, 1, 6, 89, [])))) | false => (match Nat.blt i 34 with | true => (match Nat.blt i 32 with | true => (1, 6, 1, 6, 89, []) | false => (match Nat.blt i 33 with | true => (3, 7, 1, 6, 111, []) | false => (2, 7, 1, 6, 110, []))) | false => (match Nat.blt i 36 with | true => (match Nat.blt i 35 with | true => (5, 7, 1, 6, 110, []) | false => (4, 7, 1, 6, 110, [])) | false => (match Nat.blt i 37 with | true => (4, 1, 0, 0, 20, []) | false => (4, 7, 1, 6, 110, []))))) | false => (match Nat.blt i 44 with | true => (match Nat.blt i 41 with | true => (match Nat.blt i 39 with | true => (2, 7, 1, 6, 110, []) | false => (match Nat.blt i 40 with | true => (3, 7, 1, 6, 111, []) | false => (4, 7, 3, 18, 111, []))) | false => (match Nat.blt i 42 with | true => (1, 6, 2, 15, 129, []) | false => (match Nat.blt i 43 with | true => (6, 7, 1, 6, 111, []) | false => (5, 7, 1, 6, 110, [])))) | false => (match Nat.blt i 47 with | true => (match Nat.blt i 45 with | true => (3, 7, 1, 6, 111, []) | false => (match Nat.blt i 46 with | true => (3, 7, 1, 6, 111, []) | false => (3, 7, 1, 6, 111, []))) | false => (match Nat.blt i 49 with | true => (match Nat.blt i 48 with | true => (6, 7, 1, 6, 110, []) | false => (5, 7, 1, 6, 110, [])) | false => (match Nat.blt i 50 with | true => (6, 7, 1, 6, 110, []) | false => (4, 7, 1, 6, 110, []))))))) | false => (match Nat.blt i 76 with | true => (match Nat.blt i 63 with | true => (match Nat.blt i 57 with | true => (match Nat.blt i 54 with | true => (match Nat.blt i 52 with | true => (1, 0, 0, 0, 0, []) | false => (match Nat.blt i 53 with | true => (6, 7, 4, 24, 111, []) | false => (2, 6, 1, 6, 89, []))) | false => (match Nat.blt i 55 with | true => (1, 6, 1, 6, 89, []) | false => (match Nat.blt i 56 with | true => (1, 1, 0, 0, 21, []) | false => (5, 3, 14, 1143, 60, [])))) | false => (match Nat.blt i 60 with | true => (match Nat.blt i 58 with | true => (4, 2, 1, 6, 40, []) | false => (match Nat.blt i 59 with | true => (1, 4, 1, 3, 80, []) | false => (3, 1, 0, 0, 20, []))) | false => (match Nat.blt i 61 with | true => (2, 5, 2, 15, 108, []) | false => (match Nat.blt i 62 with | true => (1, 1, 0, 0, 20, []) | false => (5, 1, 0, 0, 20, []))))) | false => (match Nat.blt i 69 with | true => (match Nat.blt i 66 with | true => (match Nat.blt i 64 with | true => (2, 1, 3, 720, 20, []) | false => (match Nat.blt i 65 with | true => (1, 2, 6, 328, 40, []) | false => (1, 1, 2, 80, 20, []))) | false => (match Nat.blt i 67 with | true => (1, 1, 4, 92, 20, []) | false => (match Nat.blt i 68 with | true => (2, 0, 0, 0, 0, []) | false => (2, 0, 0, 0, 0, [])))) | false => (match Nat.blt i 72 with | true => (match Nat.blt i 70 with | true => (3, 1, 0, 0, 26, []) | false => (match Nat.blt i 71 with | true => (7, 0, 0, 0, 0, []) | false => (1, 1, 0, 0, 20, []))) | false => (match Nat.blt i 74 with | true => (match Nat.blt i 73 with | true => (1, 2, 3, 18, 40, []) | false => (1, 1, 0, 0, 20, [])) | false => (match Nat.blt i 75 with | true => (7, 8, 1, 6, 136, [(0, 14, 17, 2), (0, 14, 21, 1)]) | false => (8, 8, 23, 1211, 137, [(0, 16, 19, 1), (0, 16, 23, 0)])))))) | false => (match Nat.blt i 89 with | true => (match Nat.blt i 82 with | true => (match Nat.blt i 79 with | true => (match Nat.blt i 77 with | true => (4, 8, 1, 6, 132, [(0, 9, 12, 2), (0, 9, 15, 5)]) | false => (match Nat.blt i 78 with | true => (5, 8, 1, 6, 133, [(0, 9, 12, 2), (0, 9, 16, 1)]) | false => (5, 8, 1, 6, 133, [(0, 10, 13, 2), (0, 10, 17, 1)]))) | false => (match Nat.blt i 80 with | true => (5, 8, 1, 6, 133, [(0, 10, 13, 2), (0, 10, 17, 5)]) | false => (match Nat.blt i 81 with | true => (5, 8, 1, 6, 133, [(0, 10, 13, 2), (0, 10, 17, 5)]) | false => (4, 8, 1, 6, 131, [(0, 9, 12, 2)])))) | false => (match Nat.blt i 85 with | true => (match Nat.blt i 83 with | true => (5, 8, 1, 6, 133, [(0, 10, 13, 2), (0, 10, 17, 1), (0, 10, 21, 4)]) | false => (match Nat.blt i 84 with | true => (5, 8, 1, 6, 134, [(0, 10, 13, 2), (0, 10, 17, 1), (0, 10, 21, 5)]) | false => (5, 8, 1, 6, 133, [(0, 10, 13, 2), (0, 10, 17, 1), (0, 10, 21, 5)]))) | false => (match Nat.blt i 87 with | true => (match Nat.blt i 86 with | true => (6, 8, 1, 6, 136, [(0, 11, 14, 2), (0, 11, 18, 1), (0, 11, 22, 4), (0, 11, 26, 5)]) | false => (3, 7, 1, 6, 111, [(0, 8, 11, 3)])) | false => (match Nat.blt i 88 with | true => (6, 8, 1, 6, 137, [(0, 11, 14, 2), (0, 11, 18, 1), (0, 11, 22, 4), (0, 11, 26, 5)]) | false => (5, 8, 1, 6, 133, [(0, 10, 13, 2), (0, 10, 17, 1)]))))) | false => (match Nat.blt i 95 with | true => (match Nat.blt i 92 with | true => (match Nat.blt i 90 with | true => (4, 8, 1, 6, 131, [(0, 16, 19, 2)]) | false => (match Nat.blt i 91 with | true => (5, 8, 1, 6, 134, [(0, 10, 13, 1)]) | false => (3, 7, 1, 6, 112, [(0, 7, 10, 3)]))) | false => (match Nat.blt i 93 with | true => (4, 8, 1, 6, 133, [(0, 9, 12, 1), (0, 9, 15, 0)]) | false => (match Nat.blt i 94 with | true => (4, 8, 1, 6, 131, [(0, 9, 12, 2)]) | false => (5, 8, 1, 6, 134, [(0, 10, 13, 2), (0, 10, 17, 1), (0, 10, 21, 4)])))) | false => (match Nat.blt i 98 with | true => (match Nat.blt i 96 with | true => (5, 8, 1, 6, 133, [(0, 10, 13, 2), (0, 10, 17, 1)]) | false => (match Nat.blt i 97 with | true => (4, 8, 1, 6, 133, [(0, 9, 12, 2), (0, 9, 15, 4)]) | false => (4, 8, 1, 6, 131, [(0, 9, 12, 2), (0, 9, 15, 4)]))) | false => (match Nat.blt i 100 with | true => (match Nat.blt i 99 with | true => (4, 8, 1, 6, 133, [(0, 9, 12, 1)]) | false => (5, 8, 3, 18, 134, [(0, 10, 13, 1), (0, 10, 17, 5)])) | false => (match Nat.blt i 101 with | true => (3, 7, 2, 15, 149, [(0, 8, 11, 0)]) | false => (7, 8, 1, 6, 136, [(0, 14, 17, 1), (0, 14, 21, 4), (0, 14, 25, 0)])))))))) | false => (match Nat.blt i 153 with | true => (match Nat.blt i 127 with | true => (match Nat.blt i 114 with | true => (match Nat.blt i 108 with | true => (match Nat.blt i 105 with | true => (match Nat.blt i 103 with | true => (5, 8, 1, 6, 134, [(0, 10, 13, 2), (0, 10, 17, 1), (0, 10, 21, 4)]) | false => (match Nat.blt i 104 with | true => (4, 8, 1, 6, 133, [(0, 9, 12, 1)]) | false => (4, 8, 1, 6, 133, [(0, 9, 12, 1)]))) | false => (match Nat.blt i 106 with | true => (4, 8, 1, 6, 133, [(0, 9, 12, 1)]) | false => (match Nat.blt i 107 with | true => (6, 8, 1, 6, 135, [(0, 12, 15, 2), (0, 12, 19, 1), (0, 12, 23, 4)]) | false => (6, 8, 1, 6, 134, [(0, 11, 14, 2), (0, 11, 18, 1)])))) | false => (match Nat.blt i 111 with | true => (match Nat.blt i 109 with | true => (7, 8, 1, 6, 135, [(0, 14, 17, 2), (0, 14, 21, 1), (0, 14, 25, 5)]) | false => (match Nat.blt i 110 with | true => (4, 8, 1, 6, 133, [(0, 9, 12, 2), (0, 9, 15, 0)]) | false => (6, 8, 4, 24, 136, [(0, 11, 14, 1), (0, 11, 18, 3)]))) | false => (match Nat.blt i 112 with | true => (4, 7, 1, 6, 110, [(0, 9, 12, 1), (0, 9, 15, 0)]) | false => (match Nat.blt i 113 with | true => (3, 7, 1, 6, 109, [(0, 8, 11, 0)]) | false => (1, 4, 4, 26, 80, []))))) | false => (match Nat.blt i 120 with | true => (match Nat.blt i 117 with | true => (match Nat.blt i 115 with | true => (7, 2, 0, 0, 46, []) | false => (match Nat.blt i 116 with | true => (7, 5, 9, 769, 108, []) | false => (2, 2, 0, 0, 46, []))) | false => (match Nat.blt i 118 with | true => (4, 2, 0, 0, 46, []) | false => (match Nat.blt i 119 with | true => (3, 2, 0, 0, 46, []) | false => (3, 3, 0, 0, 68, [])))) | false => (match Nat.blt i 123 with | true => (match Nat.blt i 121 with | true => (3, 3, 0, 0, 68, []) | false => (match Nat.blt i 122 with | true => (2, 2, 0, 0, 46, []) | false => (5, 3, 1, 4, 61, []))) | false => (match Nat.blt i 125 with | true => (match Nat.blt i 124 with | true => (5, 2, 0, 0, 46, []) | false => (6, 3, 2, 12, 61, [])) | false => (match Nat.blt i 126 with | true => (5, 2, 0, 0, 46, []) | false => (1, 3, 0, 0, 66, [])))))) | false => (match Nat.blt i 140 with | true => (match Nat.blt i 133 with | true => (match Nat.blt i 130 with | true => (match Nat.blt i 128 with | true => (7, 2, 0, 0, 40, []) | false => (match Nat.blt i 129 with | true => (3, 2, 0, 0, 46, []) | false => (5, 4, 0, 0, 91, []))) | false => (match Nat.blt i 131 with | true => (4, 3, 1, 4, 61, []) | false => (match Nat.blt i 132 with | true => (5, 3, 0, 0, 72, []) | false => (7, 2, 0, 0, 46, [])))) | false => (match Nat.blt i 136 with | true => (match Nat.blt i 134 with | true => (4, 2, 0, 0, 46, []) | false => (match Nat.blt i 135 with | true => (6, 0, 0, 0, 0, []) | false => (2, 2, 0, 0, 46, []))) | false => (match Nat.blt i 138 with | true => (match Nat.blt i 137 with | true => (1, 0, 0, 0, 0, []) | false => (1, 0, 0, 0, 0, [])) | false => (match Nat.blt i 139 with | true => (3, 2, 0, 0, 41, []) | false => (6, 3, 1, 4, 61, []))))) | false => (match Nat.blt i 146 with | true => (match Nat.blt i 143 with | true => (match Nat.blt i 141 with | true => (2, 1, 0, 0, 20, []) | false => (match Nat.blt i 142 with | true => (2, 1, 0, 0, 25, []) | false => (3, 2, 0, 0, 46, []))) | false => (match Nat.blt i 144 with | true => (4, 2, 0, 0, 46, []) | false => (match Nat.blt i 145 with | true => (3, 4, 60, 360, 86, []) | false => (2, 2, 0, 0, 46, [])))) | false => (match Nat.blt i 149 with | true => (match Nat.blt i 147 with | true => (7, 2, 0, 0, 46, []) | false => (match Nat.blt i 148 with | true => (3, 2, 0, 0, 46, []) | false => (4, 2, 0, 0, 46, []))) | false => (match Nat.blt i 151 with | true => (match Nat.blt i 150 with | true => (2, 2, 0, 0, 46, []) | false => (3, 1, 0, 0, 25, [])) | false => (match Nat.blt i 152 with | true => (6, 4, 1, 3, 80, []) | false => (1, 5, 3, 14, 108, []))))))) | false => (match Nat.blt i 178 with | true => (match Nat.blt i 165 with | true => (match Nat.blt i 159 with | true => (match Nat.blt i 156 with | true => (match Nat.blt i 154 with | true => (7, 2, 0, 0, 41, []) | false => (match Nat.blt i 155 with | true => (5, 2, 0, 0, 46, []) | false => (3, 1, 0, 0, 25, []))) | false => (match Nat.blt i 157 with | true => (3, 1, 0, 0, 25, []) | false => (match Nat.blt i 158 with | true => (3, 1, 0, 0, 25, []) | false => (10, 2, 0, 0, 46, [])))) | false => (match Nat.blt i 162 with | true => (match Nat.blt i 160 with | true => (6, 3, 1, 4, 61, []) | false => (match Nat.blt i 161 with | true => (5, 3, 0, 0, 69, []) | false => (7, 3, 0, 0, 69, []))) | false => (match Nat.blt i 163 with | true => (5, 2, 0, 0, 46, []) | false => (match Nat.blt i 164 with | true => (1, 0, 0, 0, 0, []) | false => (1, 0, 0, 0, 0, []))))) | false => (match Nat.blt i 171 with | true => (match Nat.blt i 168 with | true => (match Nat.blt i 166 with | true => (4, 4, 1, 4, 86, []) | false => (match Nat.blt i 167 with | true => (3, 3, 0, 0, 64, []) | false => (1, 3, 0, 0, 66, []))) | false => (match Nat.blt i 169 with | true => (2, 3, 0, 0, 64, []) | false => (match Nat.blt i 170 with | true => (7, 4, 7, 732, 80, []) | false => (1, 4, 1, 3, 80, [])))) | false => (match Nat.blt i 174 with | true => (match Nat.blt i 172 with | true => (2, 1, 1, 16, 20, []) | false => (match Nat.blt i 173 with | true => (2, 1, 0, 0, 22, []) | false => (3, 0, 0, 0, 0, []))) | false => (match Nat.blt i 176 with | true => (match Nat.blt i 175 with | true => (1, 0, 0, 0, 0, []) | false => (1, 0, 0, 0, 0, [])) | false => (match Nat.blt i 177 with | true => (2, 1, 0, 0, 22, []) | false => (2, 0, 0, 0, 0, [])))))) | false => (match Nat.blt i 191 with | true => (match Nat.blt i 184 with | true => (match Nat.blt i 181 with | true => (match Nat.blt i 179 with | true => (2, 0, 0, 0, 0, []) | false => (match Nat.blt i 180 with | true => (1, 0, 0, 0, 0, []) | false => (2, 3, 0, 0, 70, []))) | false => (match Nat.blt i 182 with | true => (3, 2, 0, 0, 48, []) | false => (match Nat.blt i 183 with | true => (1, 0, 0, 0, 0, []) | false => (1, 1, 0, 0, 20, [])))) | false => (match Nat.blt i 187 with | true => (match Nat.blt i 185 with | true => (1, 2, 1, 16, 41, []) | false => (match Nat.blt i 186 with | true => (2, 2, 0, 0, 43, []) | false => (1, 1, 0, 0, 20, []))) | false => (match Nat.blt i 189 with | true => (match Nat.blt i 188 with | true => (2, 2, 0, 0, 43, []) | false => (1, 0, 0, 0, 0, [])) | false => (match Nat.blt i 190 with | true => (1, 0, 0, 0, 0, []) | false => (4, 1, 0, 0, 25, []))))) | false => (match Nat.blt i 197 with | true => (match Nat.blt i 194 with | true => (match Nat.blt i 192 with | true => (6, 0, 0, 0, 0, []) | false => (match Nat.blt i 193 with | true => (1, 1, 0, 0, 20, []) | false => (1, 2, 0, 0, 40, []))) | false => (match Nat.blt i 195 with | true => (1, 3, 0, 0, 60, []) | false => (match Nat.blt i 196 with | true => (2, 4, 1, 10, 87, []) | false => (4, 3, 1, 10, 64, [])))) | false => (match Nat.blt i 200 with | true => (match Nat.blt i 198 with | true => (1, 2, 1, 10, 44, []) | false => (match Nat.blt i 199 with | true => (4, 1, 1, 10, 21, []) | false => (1, 0, 0, 0, 0, []))) | false => (match Nat.blt i 202 with | true => (match Nat.blt i 201 with | true => (1, 2, 1, 4, 41, []) | false => (1, 0, 0, 0, 0, [])) | false => (match Nat.blt i 203 with | true => (2, 1, 0, 0, 20, []) | false => (1, 0, 0, 0, 0, [])))))))))
def s_dflt (i : Nat) : List (Nat × sV) := (match Nat.blt i 11 with | true => (match Nat.blt i 5 with | true => (match Nat.blt i 2 with | true => (match Nat.blt i 1 with | true => [(0, (2, 0, 0)), (0, (0, 0, 0)), (0, (0, 0, 0)), (0, (0, 0, 0))] | false => [(0, (2, 0, 0)), (0, (0, 0, 0)), (0, (0, 0, 0)), (0, (0, 0, 0))]) | false => (match Nat.blt i 3 with | true => [(0, (0, 0, 0))] | false => (match Nat.blt i 4 with | true => [(0, (0, 0, 0))] | false => [(0, (1, 0, 0))]))) | false => (match Nat.blt i 8 with | true => (match Nat.blt i 6 with | true => [(0, (2, 0, 0)), (0, (2, 0, 0)), (0, (2, 0, 0)), (0, (2, 0, 0)), (0, (0, 0, 0)), (0, (2, 0, 0))] | false => (match Nat.blt i 7 with | true => [(0, (2, 0, 0)), (0, (2, 0, 0)), (0, (2, 0, 0)), (0, (2, 0, 0)), (0, (0, 0, 0)), (0, (2, 0, 0))] | false => [(0, (0, 0, 0)), (0, (0, 0, 0)), (0, (0, 0, 0)), (0, (2, 0, 0))])) | false => (match Nat.blt i 9 with | true => [(0, (0, 0, 0)), (0, (2, 0, 0)), (0, (0, 0, 0))] | false => (match Nat.blt i 10 with | true => [(0, (0, 0, 0)), (0, (0, 0, 0)), (0, (0, 0, 0)), (0, (2, 0, 0)), (0, (2, 0, 0)), (0, (2, 0, 0)), (0, (2, 0, 0)), (0, (0, 0, 0)), (0, (0, 0, 0)), (0, (0, 0, 0)), (0, (0, 0, 0))] | false => [(0, (0, 0, 0)), (0, (2, 0, 0)), (0, (0, 0, 0)), (0, (0, 0, 0)), (0, (0, 0, 0)), (0, (0, 0, 0)), (0, (0, 0, 0)), (0, (0, 0, 0)), (0, (0, 0, 0)), (0, (0, 0, 0)), (0, (0, 0, 0))])))) | false => (match Nat.blt i 17 with | true => (match Nat.blt i 14 with | true => (match Nat.blt i 12 with | true => [(0, (2, 0, 0))] | false => (match Nat.blt i 13 with | true => [(0, (2, 0, 0)), (0, (2, 0, 0)), (0, (2, 0, 0))] | false => [(0, (2, 0, 0)), (0, (2, 0, 0)), (0, (2, 0, 0)), (0, (2, 0, 0)), (0, (2, 0, 0)), (0, (2, 0, 0)), (0, (0, 0, 0)), (0, (0, 0, 0)), (0, (0, 0, 0))])) | false => (match Nat.blt i 15 with | true => [(0, (2, 0, 0)), (0, (2, 0, 0)), (0, (0, 0, 0))] | false => (match Nat.blt i 16 with | true => [(0, (2, 0, 0)), (0, (2, 0, 0)), (0, (2, 0, 0)), (0, (2, 0, 0)), (0, (0, 0, 0)), (0, (0, 0, 0))] | false => [(0, (0, 0, 0)), (0, (0, 0, 0)), (0, (0, 0, 0)), (0, (0, 0, 0)), (0, (0, 0, 0))]))) | false => (match Nat.blt i 20 with | true => (match Nat.blt i 18 with | true => [(0, (2, 0, 0)), (0, (2, 0, 0)), (0, (2, 0, 0)), (0, (0, 0, 0)), (0, (0, 0, 0)), (0, (0, 0, 0))] | false => (match Nat.blt i 19 with | true => [(0, (0, 0, 0)), (0, (0, 0, 0)), (0, (0, 0, 0)), (0, (0, 0, 0)), (0, (0, 0, 0)), (0, (0, 0, 0))] | false => [(0, (2, 0, 0)), (0, (2, 0, 0)), (0, (2, 0, 0)), (0, (2, 0, 0)), (0, (2, 0, 0)), (0, (2, 0, 0)), (0, (0, 0, 0)), (0, (0, 0, 0)), (0, (0, 0, 0)), (0, (0, 0, 0)), (0, (0, 0, 0))])) | false => (match Nat.blt i 21 with | true => [(0, (0, 0, 0)), (0, (0, 0, 0)), (0, (0, 0, 0)), (0, (0, 0, 0)), (0, (0, 0, 0)), (0, (0, 0, 0)), (0, (0, 0, 0)), (0, (0, 0, 0)), (0, (0, 0, 0)), (0, (2, 0, 0)), (0, (2, 0, 0)), (0, (2, 0, 0)), (0, (1, 0, 0)), (0, (1, 0, 0)), (0, (1, 0, 0)), (0, (0, 0, 0)), (0, (0, 0, 0)), (0, (0, 0, 0)), (0, (0, 0, 0)), (0, (0, 0, 0)), (0, (2, 0, 0)), (0, (2, 0, 0)), (0, (2, 0, 0)), (0, (2, 0, 0)), (0, (0, 0, 0)), (0, (0, 0, 0)), (0, (0, 0, 0))] | false => (match Nat.blt i 22 with | true => [(0, (2, 0, 0))] | false => [(0, (0, 0, 0)), (0, (2, 0, 0)), (0, (2, 0, 0)), (0, (2, 0, 0)), (0, (0, 0, 0)), (0, (0, 0, 0)), (0, (0, 0, 0)), (0, (0, 0, 0)), (0, (1, 0, 0))])))))
abbrev s_P : sP := (s_code, s_meta, s_dflt)
def s_iv : sI := [(0, 0), (-2147483648, 2147483647), (-2147483648, 2147483647), (-2147483648, 2147483647), (-2147483648, 2147483647), (-2147483648, 2147483647), (-2147483648, 2147483647), (0, 0), (0, 0), (0, 0), (0, 0), (0, 65535), (0, 65535), (0, 65535), (0, 65535), (0, 65535), (0, 65535), (0, 0), (0, 0), (0, 0), (0, 0), (0, 63), (0, 6), (0, 0), (0, 0), (0, 0), (0, 0), (0, 0), (0, 0), (0, 0), (0, 0), (0, 0), (0, 0), (1, 255)]
def s_own (i : Nat) : String := (match Nat.blt i 102 with | true => (match Nat.blt i 51 with | true => (match Nat.blt i 25 with | true => (match Nat.blt i 12 with | true => (match Nat.blt i 6 with | true => (match Nat.blt i 3 with | true => (match Nat.blt i 1 with | true => RL | false => (match Nat.blt i 2 with | true => RX10 | false => RX10)) | false => (match Nat.blt i 4 with | true => RX10 | false => (match Nat.blt i 5 with | true => RX10 | false => RX10))) | false => (match Nat.blt i 9 with | true => (match Nat.blt i 7 with | true => RX10 | false => (match Nat.blt i 8 with | true => RX10 | false => RX10)) | false => (match Nat.blt i 10 with | true => RX10 | false => (match Nat.blt i 11 with | true => RX10 | false => RX10)))) | false => (match Nat.blt i 18 with | true => (match Nat.blt i 15 with | true => (match Nat.blt i 13 with | true => RX10 | false => (match Nat.blt i 14 with | true => RX10 | false => RX10)) | false => (match Nat.blt i 16 with | true => RX10 | false => (match Nat.blt i 17 with | true => RX10 | false => RX10))) | false => (match Nat.blt i 21 with | true => (match Nat.blt i 19 with | true => RX10 | false => (match Nat.blt i 20 with | true => RX10 | false => RX10)) | false => (match Nat.blt i 23 with | true => (match Nat.blt i 22 with | true => RX10 | false => RX10) | false => (match Nat.blt i 24 with | true => RX10 | false => RX10))))) | false => (match Nat.blt i 38 with | true => (match Nat.blt i 31 with | true => (match Nat.blt i 28 with | true => (match Nat.blt i 26 with | true => RX10 | false => (match Nat.blt i 27 with | true => RX10 | false => RX10)) | false => (match Nat.blt i 29 with | true => RX10 | false => (match Nat.blt i 30 with | true => RX10 | false => RX10))) | false => (match Nat.blt i 34 with | true => (match Nat.blt i 32 with | true => RX10 | false => (match Nat.blt i 33 with | true => RX10 | false => RX10)) | false => (match Nat.blt i 36 with | true => (match Nat.blt i 35 with | true => RX10 | false => RX10) | false => (match Nat.blt i 37 with | true => RX10 | false => RX10)))) | false => (match Nat.blt i 44 with | true => (match Nat.blt i 41 with | true => (match Nat.blt i 39 with | true => RX10 | false => (match Nat.blt i 40 with | true => RX10 | false => RX10)) | false => (match Nat.blt i 42 with | true => RX10 | false => (match Nat.blt i 43 with | true => RX10 | false => RX10))) | false => (match Nat.blt i 47 with | true => (match Nat.blt i 45 with | true => RX10 | false => (match Nat.blt i 46 with | true => RX10 | false => RX10)) | false => (match Nat.blt i 49 with | true => (match Nat.blt i 48 with | true => RX10 | false => RX10) | false => (match Nat.blt i 50 with | true => RX10 | false => RX10)))))) | false => (match Nat.blt i 76 with | true => (match Nat.blt i 63 with | true => (match Nat.blt i 57 with | true => (match Nat.blt i 54 with | true => (match Nat.blt i 52 with | true => RX10 | false => (match Nat.blt i 53 with | true => RX10 | false => RX10)) | false => (match Nat.blt i 55 with | true => RX10 | false => (match Nat.blt i 56 with | true => RX10 | false => RX0))) | false => (match Nat.blt i 60 with | true => (match Nat.blt i 58 with | true => RX1 | false => (match Nat.blt i 59 with | true => RX2 | false => RX2)) | false => (match Nat.blt i 61 with | true => RX2 | false => (match Nat.blt i 62 with | true => RX2 | false => RX2)))) | false => (match Nat.blt i 69 with | true => (match Nat.blt i 66 with | true => (match Nat.blt i 64 with | true => RX3 | false => (match Nat.blt i 65 with | true => RX4 | false => RX5)) | false => (match Nat.blt i 67 with | true => RX6 | false => (match Nat.blt i 68 with | true => RX6 | false => RX6))) | false => (match Nat.blt i 72 with | true => (match Nat.blt i 70 with | true => RX6 | false => (match Nat.blt i 71 with | true => RX6 | false => RX7)) | false => (match Nat.blt i 74 with | true => (match Nat.blt i 73 with | true => RX8 | false => RX9) | false => (match Nat.blt i 75 with | true => RL | false => RL))))) | false => (match Nat.blt i 89 with | true => (match Nat.blt i 82 with | true => (match Nat.blt i 79 with | true => (match Nat.blt i 77 with | true => RL | false => (match Nat.blt i 78 with | true => RL | false => RL)) | false => (match Nat.blt i 80 with | true => RL | false => (match Nat.blt i 81 with | true => RL | false => RL))) | false => (match Nat.blt i 85 with | true => (match Nat.blt i 83 with | true => RL | false => (match Nat.blt i 84 with | true => RL | false => RL)) | false => (match Nat.blt i 87 with | true => (match Nat.blt i 86 with | true => RL | false => RL) | false => (match Nat.blt i 88 with | true => RL | false => RL)))) | false => (match Nat.blt i 95 with | true => (match Nat.blt i 92 with | true => (match Nat.blt i 90 with | true => RL | false => (match Nat.blt i 91 with | true => RL | false => RL)) | false => (match Nat.blt i 93 with | true => RL | false => (match Nat.blt i 94 with | true => RL | false => RL))) | false => (match Nat.blt i 98 with | true => (match Nat.blt i 96 with | true => RL | false => (match Nat.blt i 97 with | true => RL | false => RL)) | false => (match Nat.blt i 100 with | true => (match Nat.blt i 99 with | true => RL | false => RL) | false => (match Nat.blt i 101 with | true => RL | false => RL))))))) | false => (match Nat.blt i 153 with | true => (match Nat.blt i 127 with | true => (match Nat.blt i 114 with | true => (match Nat.blt i 108 with | true => (match Nat.blt i 105 with | true => (match Nat.blt i 103 with | true => RL | false => (match Nat.blt i 104 with | true => RL | false => RL)) | false => (match Nat.blt i 106 with | true => RL | false => (match Nat.blt i 107 with | true => RL | false => RL))) | false => (match Nat.blt i 111 with | true => (match Nat.blt i 109 with | true => RL | false => (match Nat.blt i 110 with | true => RL | false => RL)) | false => (match Nat.blt i 112 with | true => RL | false => (match Nat.blt i 113 with | true => RL | false => RX13)))) | false => (match Nat.blt i 120 with | true => (match Nat.blt i 117 with | true => (match Nat.blt i 115 with | true => RX13 | false => (match Nat.blt i 116 with | true => RX13 | false => RX13)) | false => (match Nat.blt i 118 with | true => RX13 | false => (match Nat.blt i 119 with | true => RX13 | false => RX13))) | false => (match Nat.blt i 123 with | true => (match Nat.blt i 121 with | true => RX13 | false => (match Nat.blt i 122 with | true => RX13 | false => RX13)) | false => (match Nat.blt i 125 with | true => (match Nat.blt i 124 with | true => RX13 | false => RX13) | false => (match Nat.blt i 126 with | true => RX13 | false => RX13))))) | false => (match Nat.blt i 140 with | true => (match Nat.blt i 133 with | true => (match Nat.blt i 130 with | true => (match Nat.blt i 128 with | true => RX13 | false => (match Nat.blt i 129 with | true => RX13 | false => RX13)) | false => (match Nat.blt i 131 with | true => RX13 | false => (match Nat.blt i 132 with | true => RX13 | false => RX13))) | false => (match Nat.blt i 136 with | true => (match Nat.blt i 134 with | true => RX13 | false => (match Nat.blt i 135 with | true => RX13 | false => RX13)) | false => (match Nat.blt i 138 with | true => (match Nat.blt i 137 with | true => RX13 | false => RX13) | false => (match Nat.blt i 139 with | true => RX13 | false => RX13)))) | false => (match Nat.blt i 146 with | true => (match Nat.blt i 143 with | true => (match Nat.blt i 141 with | true => RX13 | false => (match Nat.blt i 142 with | true => RX13 | false => RX13)) | false => (match Nat.blt i 144 with | true => RX13 | false => (match Nat.blt i 145 with | true => RX13 | false => RX13))) | false => (match Nat.blt i 149 with | true => (match Nat.blt i 147 with | true => RX13 | false => (match Nat.blt i 148 with | true => RX13 | false => RX13)) | false => (match Nat.blt i 151 with | true => (match Nat.blt i 150 with | true => RX13 | false => RX13) | false => (match Nat.blt i 152 with | true => RX13 | false => RX13)))))) | false => (match Nat.blt i 178 with | true => (match Nat.blt i 165 with | true => (match Nat.blt i 159 with | true => (match Nat.blt i 156 with | true => (match Nat.blt i 154 with | true => RX13 | false => (match Nat.blt i 155 with | true => RX13 | false => RX13)) | false => (match Nat.blt i 157 with | true => RX13 | false => (match Nat.blt i 158 with | true => RX13 | false => RX13))) | false => (match Nat.blt i 162 with | true => (match Nat.blt i 160 with | true => RX13 | false => (match Nat.blt i 161 with | true => RX13 | false => RX13)) | false => (match Nat.blt i 163 with | true => RX13 | false => (match Nat.blt i 164 with | true => RX13 | false => RX13)))) | false => (match Nat.blt i 171 with | true => (match Nat.blt i 168 with | true => (match Nat.blt i 166 with | true => RX13 | false => (match Nat.blt i 167 with | true => RX13 | false => RX13)) | false => (match Nat.blt i 169 with | true => RX13 | false => (match Nat.blt i 170 with | true => RX11 | false => RX12))) | false => (match Nat.blt i 174 with | true => (match Nat.blt i 172 with | true => RJ5 | false => (match Nat.blt i 173 with | true => RJ5 | false => RJ5)) | false => (match Nat.blt i 176 with | true => (match Nat.blt i 175 with | true => RJ5 | false => RJ5) | false => (match Nat.blt i 177 with | true => RJ5 | false => RJ9))))) | false => (match Nat.blt i 191 with | true => (match Nat.blt i 184 with | true => (match Nat.blt i 181 with | true => (match Nat.blt i 179 with | true => RJ9 | false => (match Nat.blt i 180 with | true => RJ0 | false => RJ0)) | false => (match Nat.blt i 182 with | true => RJ0 | false => (match Nat.blt i 183 with | true => RJ0 | false => RJ0))) | false => (match Nat.blt i 187 with | true => (match Nat.blt i 185 with | true => RJ4 | false => (match Nat.blt i 186 with | true => RJ4 | false => RJ4)) | false => (match Nat.blt i 189 with | true => (match Nat.blt i 188 with | true => RJ4 | false => RJ1) | false => (match Nat.blt i 190 with | true => RJ1 | false => RJ1)))) | false => (match Nat.blt i 197 with | true => (match Nat.blt i 194 with | true => (match Nat.blt i 192 with | true => RJ1 | false => (match Nat.blt i 193 with | true => RJxa1e45 | false => RJxc12de)) | false => (match Nat.blt i 195 with | true => RJx4a65c | false => (match Nat.blt i 196 with | true => RJx4a65c | false => RJx4a65c))) | false => (match Nat.blt i 200 with | true => (match Nat.blt i 198 with | true => RJx4a65c | false => (match Nat.blt i 199 with | true => RJx4a65c | false => RJx4a65c)) | false => (match Nat.blt i 202 with | true => (match Nat.blt i 201 with | true => RJx4a65c | false => RJx4a65c) | false => (match Nat.blt i 203 with | true => RJx35411 | false => RJx35411))))))))
def s_y (i : Nat) : MethodName := (match Nat.blt i 102 with | true => (match Nat.blt i 51 with | true => (match Nat.blt i 25 with | true => (match Nat.blt i 12 with | true => (match Nat.blt i 6 with | true => (match Nat.blt i 3 with | true => (match Nat.blt i 1 with | true => x | false => (match Nat.blt i 2 with | true => yX10_init | false => yX10_answers)) | false => (match Nat.blt i 4 with | true => yX10_athlete | false => (match Nat.blt i 5 with | true => yX10_best | false => yX10_body))) | false => (match Nat.blt i 9 with | true => (match Nat.blt i 7 with | true => yX10_camp | false => (match Nat.blt i 8 with | true => yX10_cause | false => yX10_changeDay)) | false => (match Nat.blt i 10 with | true => yX10_changes | false => (match Nat.blt i 11 with | true => yX10_checksum | false => yX10_comeBack)))) | false => (match Nat.blt i 18 with | true => (match Nat.blt i 15 with | true => (match Nat.blt i 13 with | true => yX10_drop | false => (match Nat.blt i 14 with | true => yX10_fault | false => yX10_felt)) | false => (match Nat.blt i 16 with | true => yX10_fit | false => (match Nat.blt i 17 with | true => yX10_fitShare | false => yX10_forecast))) | false => (match Nat.blt i 21 with | true => (match Nat.blt i 19 with | true => yX10_goThroughDay | false => (match Nat.blt i 20 with | true => yX10_ill | false => yX10_isCount)) | false => (match Nat.blt i 23 with | true => (match Nat.blt i 22 with | true => yX10_isQualified | false => yX10_isSmallLetter) | false => (match Nat.blt i 24 with | true => yX10_isSound | false => yX10_isTypable))))) | false => (match Nat.blt i 38 with | true => (match Nat.blt i 31 with | true => (match Nat.blt i 28 with | true => (match Nat.blt i 26 with | true => yX10_known | false => (match Nat.blt i 27 with | true => yX10_knownSession | false => yX10_load)) | false => (match Nat.blt i 29 with | true => yX10_meanFelt | false => (match Nat.blt i 30 with | true => yX10_needElement | false => yX10_needRange))) | false => (match Nat.blt i 34 with | true => (match Nat.blt i 32 with | true => yX10_needUnit | false => (match Nat.blt i 33 with | true => yX10_pass | false => yX10_peak)) | false => (match Nat.blt i 36 with | true => (match Nat.blt i 35 with | true => yX10_plan | false => yX10_planned) | false => (match Nat.blt i 37 with | true => yX10_qualifiedAt | false => yX10_race)))) | false => (match Nat.blt i 44 with | true => (match Nat.blt i 41 with | true => (match Nat.blt i 39 with | true => yX10_rivals | false => (match Nat.blt i 40 with | true => yX10_seed | false => yX10_selected)) | false => (match Nat.blt i 42 with | true => yX10_session | false => (match Nat.blt i 43 with | true => yX10_set | false => yX10_setCeiling))) | false => (match Nat.blt i 47 with | true => (match Nat.blt i 45 with | true => yX10_setError | false => (match Nat.blt i 46 with | true => yX10_setLanes | false => yX10_setStandard)) | false => (match Nat.blt i 49 with | true => (match Nat.blt i 48 with | true => yX10_shift | false => yX10_taper) | false => (match Nat.blt i 50 with | true => yX10_taperAt | false => yX10_test)))))) | false => (match Nat.blt i 76 with | true => (match Nat.blt i 63 with | true => (match Nat.blt i 57 with | true => (match Nat.blt i 54 with | true => (match Nat.blt i 52 with | true => yX10_today | false => (match Nat.blt i 53 with | true => yX10_turn | false => yX10_type)) | false => (match Nat.blt i 55 with | true => yX10_unfolds | false => (match Nat.blt i 56 with | true => yX10_wipe | false => yX0_init))) | false => (match Nat.blt i 60 with | true => (match Nat.blt i 58 with | true => yX1_init | false => (match Nat.blt i 59 with | true => yX2_init | false => yX2_find)) | false => (match Nat.blt i 61 with | true => yX2_open | false => (match Nat.blt i 62 with | true => yX2_size | false => yX2_sumIn)))) | false => (match Nat.blt i 69 with | true => (match Nat.blt i 66 with | true => (match Nat.blt i 64 with | true => yX3_init | false => (match Nat.blt i 65 with | true => yX4_init | false => yX5_init)) | false => (match Nat.blt i 67 with | true => yX6_init | false => (match Nat.blt i 68 with | true => yX6_append | false => yX6_clear))) | false => (match Nat.blt i 72 with | true => (match Nat.blt i 70 with | true => yX6_faultPlace | false => (match Nat.blt i 71 with | true => yX6_misfit | false => yX7_init)) | false => (match Nat.blt i 74 with | true => (match Nat.blt i 73 with | true => yX8_init | false => yX9_init) | false => (match Nat.blt i 75 with | true => yL_answers | false => yL_athlete))))) | false => (match Nat.blt i 89 with | true => (match Nat.blt i 82 with | true => (match Nat.blt i 79 with | true => (match Nat.blt i 77 with | true => yL_best | false => (match Nat.blt i 78 with | true => yL_body | false => yL_camp)) | false => (match Nat.blt i 80 with | true => yL_cause | false => (match Nat.blt i 81 with | true => yL_changeDay | false => yL_changes))) | false => (match Nat.blt i 85 with | true => (match Nat.blt i 83 with | true => yL_comeBack | false => (match Nat.blt i 84 with | true => yL_drop | false => yL_felt)) | false => (match Nat.blt i 87 with | true => (match Nat.blt i 86 with | true => yL_fit | false => yL_fitShare) | false => (match Nat.blt i 88 with | true => yL_forecast | false => yL_ill)))) | false => (match Nat.blt i 95 with | true => (match Nat.blt i 92 with | true => (match Nat.blt i 90 with | true => yL_isQualified | false => (match Nat.blt i 91 with | true => yL_load | false => yL_meanFelt)) | false => (match Nat.blt i 93 with | true => yL_pass | false => (match Nat.blt i 94 with | true => yL_peak | false => yL_plan))) | false => (match Nat.blt i 98 with | true => (match Nat.blt i 96 with | true => yL_planned | false => (match Nat.blt i 97 with | true => yL_race | false => yL_rivals)) | false => (match Nat.blt i 100 with | true => (match Nat.blt i 99 with | true => yL_seed | false => yL_selected) | false => (match Nat.blt i 101 with | true => yL_session | false => yL_set))))))) | false => (match Nat.blt i 153 with | true => (match Nat.blt i 127 with | true => (match Nat.blt i 114 with | true => (match Nat.blt i 108 with | true => (match Nat.blt i 105 with | true => (match Nat.blt i 103 with | true => yL_setCeiling | false => (match Nat.blt i 104 with | true => yL_setError | false => yL_setLanes)) | false => (match Nat.blt i 106 with | true => yL_setStandard | false => (match Nat.blt i 107 with | true => yL_shift | false => yL_taper))) | false => (match Nat.blt i 111 with | true => (match Nat.blt i 109 with | true => yL_taperAt | false => (match Nat.blt i 110 with | true => yL_test | false => yL_turn)) | false => (match Nat.blt i 112 with | true => yL_type | false => (match Nat.blt i 113 with | true => yL_unfolds | false => yX13_init)))) | false => (match Nat.blt i 120 with | true => (match Nat.blt i 117 with | true => (match Nat.blt i 115 with | true => yX13_answers | false => (match Nat.blt i 116 with | true => yX13_athlete | false => yX13_best)) | false => (match Nat.blt i 118 with | true => yX13_body | false => (match Nat.blt i 119 with | true => yX13_camp | false => yX13_cause))) | false => (match Nat.blt i 123 with | true => (match Nat.blt i 121 with | true => yX13_changeDay | false => (match Nat.blt i 122 with | true => yX13_changes | false => yX13_checksum)) | false => (match Nat.blt i 125 with | true => (match Nat.blt i 124 with | true => yX13_comeBack | false => yX13_day) | false => (match Nat.blt i 126 with | true => yX13_drop | false => yX13_fault))))) | false => (match Nat.blt i 140 with | true => (match Nat.blt i 133 with | true => (match Nat.blt i 130 with | true => (match Nat.blt i 128 with | true => yX13_faultOf | false => (match Nat.blt i 129 with | true => yX13_felt | false => yX13_fit)) | false => (match Nat.blt i 131 with | true => yX13_fitShare | false => (match Nat.blt i 132 with | true => yX13_forecast | false => yX13_found))) | false => (match Nat.blt i 136 with | true => (match Nat.blt i 134 with | true => yX13_ill | false => (match Nat.blt i 135 with | true => yX13_in | false => yX13_isQualified)) | false => (match Nat.blt i 138 with | true => (match Nat.blt i 137 with | true => yX13_isSound | false => yX13_isUnit) | false => (match Nat.blt i 139 with | true => yX13_load | false => yX13_meanFelt)))) | false => (match Nat.blt i 146 with | true => (match Nat.blt i 143 with | true => (match Nat.blt i 141 with | true => yX13_named | false => (match Nat.blt i 142 with | true => yX13_noAthlete | false => yX13_noChange)) | false => (match Nat.blt i 144 with | true => yX13_noTaper | false => (match Nat.blt i 145 with | true => yX13_pass | false => yX13_peak))) | false => (match Nat.blt i 149 with | true => (match Nat.blt i 147 with | true => yX13_plan | false => (match Nat.blt i 148 with | true => yX13_planned | false => yX13_race)) | false => (match Nat.blt i 151 with | true => (match Nat.blt i 150 with | true => yX13_rivals | false => yX13_seed) | false => (match Nat.blt i 152 with | true => yX13_selected | false => yX13_session)))))) | false => (match Nat.blt i 178 with | true => (match Nat.blt i 165 with | true => (match Nat.blt i 159 with | true => (match Nat.blt i 156 with | true => (match Nat.blt i 154 with | true => yX13_set | false => (match Nat.blt i 155 with | true => yX13_setCeiling | false => yX13_setError)) | false => (match Nat.blt i 157 with | true => yX13_setLanes | false => (match Nat.blt i 158 with | true => yX13_setStandard | false => yX13_shift))) | false => (match Nat.blt i 162 with | true => (match Nat.blt i 160 with | true => yX13_sum | false => (match Nat.blt i 161 with | true => yX13_taper | false => yX13_taperAt)) | false => (match Nat.blt i 163 with | true => yX13_test | false => (match Nat.blt i 164 with | true => yX13_thrown | false => yX13_today)))) | false => (match Nat.blt i 171 with | true => (match Nat.blt i 168 with | true => (match Nat.blt i 166 with | true => yX13_turn | false => (match Nat.blt i 167 with | true => yX13_type | false => yX13_unfolds)) | false => (match Nat.blt i 169 with | true => yX13_wipe | false => (match Nat.blt i 170 with | true => yX11_init | false => yX12_init))) | false => (match Nat.blt i 174 with | true => (match Nat.blt i 172 with | true => yJ5_init_d00df | false => (match Nat.blt i 173 with | true => yJ5_append_3fe6f | false => yJ5_ensureCapacityInternal_d00df)) | false => (match Nat.blt i 176 with | true => (match Nat.blt i 175 with | true => yJ5_isLatin1_aae02 | false => yJ5_length_8abf5) | false => (match Nat.blt i 177 with | true => yJ5_setLength_d00df | false => yJ9_max_7cf53))))) | false => (match Nat.blt i 191 with | true => (match Nat.blt i 184 with | true => (match Nat.blt i 181 with | true => (match Nat.blt i 179 with | true => yJ9_min_7cf53 | false => (match Nat.blt i 180 with | true => yJ0_coder_7d493 | false => yJ0_indexOf_0f7a4)) | false => (match Nat.blt i 182 with | true => yJ0_indexOf_7cf53 | false => (match Nat.blt i 183 with | true => yJ0_isLatin1_aae02 | false => yJ0_length_8abf5))) | false => (match Nat.blt i 187 with | true => (match Nat.blt i 185 with | true => yJ4_init_da8c8 | false => (match Nat.blt i 186 with | true => yJ4_append_cf468 | false => yJ4_length_8abf5)) | false => (match Nat.blt i 189 with | true => (match Nat.blt i 188 with | true => yJ4_setLength_d00df | false => yJ1_canEncode_fc78d) | false => (match Nat.blt i 190 with | true => yJ1_canEncode_9a6ad | false => yJ1_indexOf_4cfef)))) | false => (match Nat.blt i 197 with | true => (match Nat.blt i 194 with | true => (match Nat.blt i 192 with | true => yJ1_indexOfChar_4cfef | false => (match Nat.blt i 193 with | true => yJxa1e45_init_da8c8 | false => yJxc12de_init_da8c8)) | false => (match Nat.blt i 195 with | true => yJx4a65c_init_da8c8 | false => (match Nat.blt i 196 with | true => yJx4a65c_add_9ea2d | false => yJx4a65c_add_72be8))) | false => (match Nat.blt i 200 with | true => (match Nat.blt i 198 with | true => yJx4a65c_grow_d5877 | false => (match Nat.blt i 199 with | true => yJx4a65c_grow_92f84 | false => yJx4a65c_isEmpty_aae02)) | false => (match Nat.blt i 202 with | true => (match Nat.blt i 201 with | true => yJx4a65c_iterator_32c93 | false => yJx4a65c_size_8abf5) | false => (match Nat.blt i 203 with | true => yJx35411_init_45d68 | false => yJx35411_hasNext_aae02))))))))
def s_by (i : Nat) : ByteArray := (match Nat.blt i 102 with | true => (match Nat.blt i 51 with | true => (match Nat.blt i 25 with | true => (match Nat.blt i 12 with | true => (match Nat.blt i 6 with | true => (match Nat.blt i 3 with | true => (match Nat.blt i 1 with | true => code | false => (match Nat.blt i 2 with | true => cX10_init | false => cX10_answers)) | false => (match Nat.blt i 4 with | true => cX10_athlete | false => (match Nat.blt i 5 with | true => cX10_best | false => cX10_body))) | false => (match Nat.blt i 9 with | true => (match Nat.blt i 7 with | true => cX10_camp | false => (match Nat.blt i 8 with | true => cX10_cause | false => cX10_changeDay)) | false => (match Nat.blt i 10 with | true => cX10_changes | false => (match Nat.blt i 11 with | true => cX10_checksum | false => cX10_comeBack)))) | false => (match Nat.blt i 18 with | true => (match Nat.blt i 15 with | true => (match Nat.blt i 13 with | true => cX10_drop | false => (match Nat.blt i 14 with | true => cX10_fault | false => cX10_felt)) | false => (match Nat.blt i 16 with | true => cX10_fit | false => (match Nat.blt i 17 with | true => cX10_fitShare | false => cX10_forecast))) | false => (match Nat.blt i 21 with | true => (match Nat.blt i 19 with | true => cX10_goThroughDay | false => (match Nat.blt i 20 with | true => cX10_ill | false => cX10_isCount)) | false => (match Nat.blt i 23 with | true => (match Nat.blt i 22 with | true => cX10_isQualified | false => cX10_isSmallLetter) | false => (match Nat.blt i 24 with | true => cX10_isSound | false => cX10_isTypable))))) | false => (match Nat.blt i 38 with | true => (match Nat.blt i 31 with | true => (match Nat.blt i 28 with | true => (match Nat.blt i 26 with | true => cX10_known | false => (match Nat.blt i 27 with | true => cX10_knownSession | false => cX10_load)) | false => (match Nat.blt i 29 with | true => cX10_meanFelt | false => (match Nat.blt i 30 with | true => cX10_needElement | false => cX10_needRange))) | false => (match Nat.blt i 34 with | true => (match Nat.blt i 32 with | true => cX10_needUnit | false => (match Nat.blt i 33 with | true => cX10_pass | false => cX10_peak)) | false => (match Nat.blt i 36 with | true => (match Nat.blt i 35 with | true => cX10_plan | false => cX10_planned) | false => (match Nat.blt i 37 with | true => cX10_qualifiedAt | false => cX10_race)))) | false => (match Nat.blt i 44 with | true => (match Nat.blt i 41 with | true => (match Nat.blt i 39 with | true => cX10_rivals | false => (match Nat.blt i 40 with | true => cX10_seed | false => cX10_selected)) | false => (match Nat.blt i 42 with | true => cX10_session | false => (match Nat.blt i 43 with | true => cX10_set | false => cX10_setCeiling))) | false => (match Nat.blt i 47 with | true => (match Nat.blt i 45 with | true => cX10_setError | false => (match Nat.blt i 46 with | true => cX10_setLanes | false => cX10_setStandard)) | false => (match Nat.blt i 49 with | true => (match Nat.blt i 48 with | true => cX10_shift | false => cX10_taper) | false => (match Nat.blt i 50 with | true => cX10_taperAt | false => cX10_test)))))) | false => (match Nat.blt i 76 with | true => (match Nat.blt i 63 with | true => (match Nat.blt i 57 with | true => (match Nat.blt i 54 with | true => (match Nat.blt i 52 with | true => cX10_today | false => (match Nat.blt i 53 with | true => cX10_turn | false => cX10_type)) | false => (match Nat.blt i 55 with | true => cX10_unfolds | false => (match Nat.blt i 56 with | true => cX10_wipe | false => cX0_init))) | false => (match Nat.blt i 60 with | true => (match Nat.blt i 58 with | true => cX1_init | false => (match Nat.blt i 59 with | true => cX2_init | false => cX2_find)) | false => (match Nat.blt i 61 with | true => cX2_open | false => (match Nat.blt i 62 with | true => cX2_size | false => cX2_sumIn)))) | false => (match Nat.blt i 69 with | true => (match Nat.blt i 66 with | true => (match Nat.blt i 64 with | true => cX3_init | false => (match Nat.blt i 65 with | true => cX4_init | false => cX5_init)) | false => (match Nat.blt i 67 with | true => cX6_init | false => (match Nat.blt i 68 with | true => cX6_append | false => cX6_clear))) | false => (match Nat.blt i 72 with | true => (match Nat.blt i 70 with | true => cX6_faultPlace | false => (match Nat.blt i 71 with | true => cX6_misfit | false => cX7_init)) | false => (match Nat.blt i 74 with | true => (match Nat.blt i 73 with | true => cX8_init | false => cX9_init) | false => (match Nat.blt i 75 with | true => cL_answers | false => cL_athlete))))) | false => (match Nat.blt i 89 with | true => (match Nat.blt i 82 with | true => (match Nat.blt i 79 with | true => (match Nat.blt i 77 with | true => cL_best | false => (match Nat.blt i 78 with | true => cL_body | false => cL_camp)) | false => (match Nat.blt i 80 with | true => cL_cause | false => (match Nat.blt i 81 with | true => cL_changeDay | false => cL_changes))) | false => (match Nat.blt i 85 with | true => (match Nat.blt i 83 with | true => cL_comeBack | false => (match Nat.blt i 84 with | true => cL_drop | false => cL_felt)) | false => (match Nat.blt i 87 with | true => (match Nat.blt i 86 with | true => cL_fit | false => cL_fitShare) | false => (match Nat.blt i 88 with | true => cL_forecast | false => cL_ill)))) | false => (match Nat.blt i 95 with | true => (match Nat.blt i 92 with | true => (match Nat.blt i 90 with | true => cL_isQualified | false => (match Nat.blt i 91 with | true => cL_load | false => cL_meanFelt)) | false => (match Nat.blt i 93 with | true => cL_pass | false => (match Nat.blt i 94 with | true => cL_peak | false => cL_plan))) | false => (match Nat.blt i 98 with | true => (match Nat.blt i 96 with | true => cL_planned | false => (match Nat.blt i 97 with | true => cL_race | false => cL_rivals)) | false => (match Nat.blt i 100 with | true => (match Nat.blt i 99 with | true => cL_seed | false => cL_selected) | false => (match Nat.blt i 101 with | true => cL_session | false => cL_set))))))) | false => (match Nat.blt i 153 with | true => (match Nat.blt i 127 with | true => (match Nat.blt i 114 with | true => (match Nat.blt i 108 with | true => (match Nat.blt i 105 with | true => (match Nat.blt i 103 with | true => cL_setCeiling | false => (match Nat.blt i 104 with | true => cL_setError | false => cL_setLanes)) | false => (match Nat.blt i 106 with | true => cL_setStandard | false => (match Nat.blt i 107 with | true => cL_shift | false => cL_taper))) | false => (match Nat.blt i 111 with | true => (match Nat.blt i 109 with | true => cL_taperAt | false => (match Nat.blt i 110 with | true => cL_test | false => cL_turn)) | false => (match Nat.blt i 112 with | true => cL_type | false => (match Nat.blt i 113 with | true => cL_unfolds | false => cX13_init)))) | false => (match Nat.blt i 120 with | true => (match Nat.blt i 117 with | true => (match Nat.blt i 115 with | true => cX13_answers | false => (match Nat.blt i 116 with | true => cX13_athlete | false => cX13_best)) | false => (match Nat.blt i 118 with | true => cX13_body | false => (match Nat.blt i 119 with | true => cX13_camp | false => cX13_cause))) | false => (match Nat.blt i 123 with | true => (match Nat.blt i 121 with | true => cX13_changeDay | false => (match Nat.blt i 122 with | true => cX13_changes | false => cX13_checksum)) | false => (match Nat.blt i 125 with | true => (match Nat.blt i 124 with | true => cX13_comeBack | false => cX13_day) | false => (match Nat.blt i 126 with | true => cX13_drop | false => cX13_fault))))) | false => (match Nat.blt i 140 with | true => (match Nat.blt i 133 with | true => (match Nat.blt i 130 with | true => (match Nat.blt i 128 with | true => cX13_faultOf | false => (match Nat.blt i 129 with | true => cX13_felt | false => cX13_fit)) | false => (match Nat.blt i 131 with | true => cX13_fitShare | false => (match Nat.blt i 132 with | true => cX13_forecast | false => cX13_found))) | false => (match Nat.blt i 136 with | true => (match Nat.blt i 134 with | true => cX13_ill | false => (match Nat.blt i 135 with | true => cX13_in | false => cX13_isQualified)) | false => (match Nat.blt i 138 with | true => (match Nat.blt i 137 with | true => cX13_isSound | false => cX13_isUnit) | false => (match Nat.blt i 139 with | true => cX13_load | false => cX13_meanFelt)))) | false => (match Nat.blt i 146 with | true => (match Nat.blt i 143 with | true => (match Nat.blt i 141 with | true => cX13_named | false => (match Nat.blt i 142 with | true => cX13_noAthlete | false => cX13_noChange)) | false => (match Nat.blt i 144 with | true => cX13_noTaper | false => (match Nat.blt i 145 with | true => cX13_pass | false => cX13_peak))) | false => (match Nat.blt i 149 with | true => (match Nat.blt i 147 with | true => cX13_plan | false => (match Nat.blt i 148 with | true => cX13_planned | false => cX13_race)) | false => (match Nat.blt i 151 with | true => (match Nat.blt i 150 with | true => cX13_rivals | false => cX13_seed) | false => (match Nat.blt i 152 with | true => cX13_selected | false => cX13_session)))))) | false => (match Nat.blt i 178 with | true => (match Nat.blt i 165 with | true => (match Nat.blt i 159 with | true => (match Nat.blt i 156 with | true => (match Nat.blt i 154 with | true => cX13_set | false => (match Nat.blt i 155 with | true => cX13_setCeiling | false => cX13_setError)) | false => (match Nat.blt i 157 with | true => cX13_setLanes | false => (match Nat.blt i 158 with | true => cX13_setStandard | false => cX13_shift))) | false => (match Nat.blt i 162 with | true => (match Nat.blt i 160 with | true => cX13_sum | false => (match Nat.blt i 161 with | true => cX13_taper | false => cX13_taperAt)) | false => (match Nat.blt i 163 with | true => cX13_test | false => (match Nat.blt i 164 with | true => cX13_thrown | false => cX13_today)))) | false => (match Nat.blt i 171 with | true => (match Nat.blt i 168 with | true => (match Nat.blt i 166 with | true => cX13_turn | false => (match Nat.blt i 167 with | true => cX13_type | false => cX13_unfolds)) | false => (match Nat.blt i 169 with | true => cX13_wipe | false => (match Nat.blt i 170 with | true => cX11_init | false => cX12_init))) | false => (match Nat.blt i 174 with | true => (match Nat.blt i 172 with | true => cJ5_init_d00df | false => (match Nat.blt i 173 with | true => cJ5_append_3fe6f | false => cJ5_ensureCapacityInternal_d00df)) | false => (match Nat.blt i 176 with | true => (match Nat.blt i 175 with | true => cJ5_isLatin1_aae02 | false => cJ5_length_8abf5) | false => (match Nat.blt i 177 with | true => cJ5_setLength_d00df | false => cJ9_max_7cf53))))) | false => (match Nat.blt i 191 with | true => (match Nat.blt i 184 with | true => (match Nat.blt i 181 with | true => (match Nat.blt i 179 with | true => cJ9_min_7cf53 | false => (match Nat.blt i 180 with | true => cJ0_coder_7d493 | false => cJ0_indexOf_0f7a4)) | false => (match Nat.blt i 182 with | true => cJ0_indexOf_7cf53 | false => (match Nat.blt i 183 with | true => cJ0_isLatin1_aae02 | false => cJ0_length_8abf5))) | false => (match Nat.blt i 187 with | true => (match Nat.blt i 185 with | true => cJ4_init_da8c8 | false => (match Nat.blt i 186 with | true => cJ4_append_cf468 | false => cJ4_length_8abf5)) | false => (match Nat.blt i 189 with | true => (match Nat.blt i 188 with | true => cJ4_setLength_d00df | false => cJ1_canEncode_fc78d) | false => (match Nat.blt i 190 with | true => cJ1_canEncode_9a6ad | false => cJ1_indexOf_4cfef)))) | false => (match Nat.blt i 197 with | true => (match Nat.blt i 194 with | true => (match Nat.blt i 192 with | true => cJ1_indexOfChar_4cfef | false => (match Nat.blt i 193 with | true => cJxa1e45_init_da8c8 | false => cJxc12de_init_da8c8)) | false => (match Nat.blt i 195 with | true => cJx4a65c_init_da8c8 | false => (match Nat.blt i 196 with | true => cJx4a65c_add_9ea2d | false => cJx4a65c_add_72be8))) | false => (match Nat.blt i 200 with | true => (match Nat.blt i 198 with | true => cJx4a65c_grow_d5877 | false => (match Nat.blt i 199 with | true => cJx4a65c_grow_92f84 | false => cJx4a65c_isEmpty_aae02)) | false => (match Nat.blt i 202 with | true => (match Nat.blt i 201 with | true => cJx4a65c_iterator_32c93 | false => cJx4a65c_size_8abf5) | false => (match Nat.blt i 203 with | true => cJx35411_init_45d68 | false => cJx35411_hasNext_aae02))))))))
def s_rt (i : Nat) : Option FieldType := (match Nat.blt i 102 with | true => (match Nat.blt i 51 with | true => (match Nat.blt i 25 with | true => (match Nat.blt i 12 with | true => (match Nat.blt i 6 with | true => (match Nat.blt i 3 with | true => (match Nat.blt i 1 with | true => ret | false => (match Nat.blt i 2 with | true => (Option.none : Option Jvm.ClassFile.FieldType) | false => (Option.some Jvm.ClassFile.FieldType.int))) | false => (match Nat.blt i 4 with | true => (Option.some Jvm.ClassFile.FieldType.int) | false => (match Nat.blt i 5 with | true => (Option.some Jvm.ClassFile.FieldType.int) | false => (Option.some Jvm.ClassFile.FieldType.long)))) | false => (match Nat.blt i 9 with | true => (match Nat.blt i 7 with | true => (Option.some Jvm.ClassFile.FieldType.int) | false => (match Nat.blt i 8 with | true => (Option.some Jvm.ClassFile.FieldType.char) | false => (Option.some Jvm.ClassFile.FieldType.int))) | false => (match Nat.blt i 10 with | true => (Option.some Jvm.ClassFile.FieldType.int) | false => (match Nat.blt i 11 with | true => (Option.some Jvm.ClassFile.FieldType.long) | false => (Option.some Jvm.ClassFile.FieldType.int))))) | false => (match Nat.blt i 18 with | true => (match Nat.blt i 15 with | true => (match Nat.blt i 13 with | true => (Option.some Jvm.ClassFile.FieldType.char) | false => (match Nat.blt i 14 with | true => (Option.some Jvm.ClassFile.FieldType.int) | false => (Option.some Jvm.ClassFile.FieldType.int))) | false => (match Nat.blt i 16 with | true => (Option.some Jvm.ClassFile.FieldType.long) | false => (match Nat.blt i 17 with | true => (Option.some Jvm.ClassFile.FieldType.float) | false => (Option.some Jvm.ClassFile.FieldType.long)))) | false => (match Nat.blt i 21 with | true => (match Nat.blt i 19 with | true => (Option.none : Option Jvm.ClassFile.FieldType) | false => (match Nat.blt i 20 with | true => (Option.some Jvm.ClassFile.FieldType.int) | false => (Option.some Jvm.ClassFile.FieldType.boolean))) | false => (match Nat.blt i 23 with | true => (match Nat.blt i 22 with | true => (Option.some Jvm.ClassFile.FieldType.boolean) | false => (Option.some Jvm.ClassFile.FieldType.boolean)) | false => (match Nat.blt i 24 with | true => (Option.some Jvm.ClassFile.FieldType.boolean) | false => (Option.some Jvm.ClassFile.FieldType.boolean)))))) | false => (match Nat.blt i 38 with | true => (match Nat.blt i 31 with | true => (match Nat.blt i 28 with | true => (match Nat.blt i 26 with | true => (Option.some (Jvm.ClassFile.FieldType.object "Taperhall$Athlete")) | false => (match Nat.blt i 27 with | true => (Option.some (Jvm.ClassFile.FieldType.object "Taperhall$Session")) | false => (Option.some Jvm.ClassFile.FieldType.int))) | false => (match Nat.blt i 29 with | true => (Option.some Jvm.ClassFile.FieldType.double) | false => (match Nat.blt i 30 with | true => (Option.none : Option Jvm.ClassFile.FieldType) | false => (Option.none : Option Jvm.ClassFile.FieldType)))) | false => (match Nat.blt i 34 with | true => (match Nat.blt i 32 with | true => (Option.none : Option Jvm.ClassFile.FieldType) | false => (match Nat.blt i 33 with | true => (Option.some Jvm.ClassFile.FieldType.int) | false => (Option.some Jvm.ClassFile.FieldType.int))) | false => (match Nat.blt i 36 with | true => (match Nat.blt i 35 with | true => (Option.some Jvm.ClassFile.FieldType.int) | false => (Option.some Jvm.ClassFile.FieldType.char)) | false => (match Nat.blt i 37 with | true => (Option.some Jvm.ClassFile.FieldType.int) | false => (Option.some Jvm.ClassFile.FieldType.int))))) | false => (match Nat.blt i 44 with | true => (match Nat.blt i 41 with | true => (match Nat.blt i 39 with | true => (Option.some Jvm.ClassFile.FieldType.int) | false => (match Nat.blt i 40 with | true => (Option.some Jvm.ClassFile.FieldType.int) | false => (Option.some Jvm.ClassFile.FieldType.int))) | false => (match Nat.blt i 42 with | true => (Option.some Jvm.ClassFile.FieldType.char) | false => (match Nat.blt i 43 with | true => (Option.some Jvm.ClassFile.FieldType.int) | false => (Option.some Jvm.ClassFile.FieldType.int)))) | false => (match Nat.blt i 47 with | true => (match Nat.blt i 45 with | true => (Option.some Jvm.ClassFile.FieldType.int) | false => (match Nat.blt i 46 with | true => (Option.some Jvm.ClassFile.FieldType.int) | false => (Option.some Jvm.ClassFile.FieldType.int))) | false => (match Nat.blt i 49 with | true => (match Nat.blt i 48 with | true => (Option.some Jvm.ClassFile.FieldType.int) | false => (Option.some Jvm.ClassFile.FieldType.long)) | false => (match Nat.blt i 50 with | true => (Option.some Jvm.ClassFile.FieldType.char) | false => (Option.some Jvm.ClassFile.FieldType.int))))))) | false => (match Nat.blt i 76 with | true => (match Nat.blt i 63 with | true => (match Nat.blt i 57 with | true => (match Nat.blt i 54 with | true => (match Nat.blt i 52 with | true => (Option.some Jvm.ClassFile.FieldType.int) | false => (match Nat.blt i 53 with | true => (Option.some Jvm.ClassFile.FieldType.long) | false => (Option.some Jvm.ClassFile.FieldType.int))) | false => (match Nat.blt i 55 with | true => (Option.some Jvm.ClassFile.FieldType.int) | false => (match Nat.blt i 56 with | true => (Option.some Jvm.ClassFile.FieldType.int) | false => (Option.none : Option Jvm.ClassFile.FieldType)))) | false => (match Nat.blt i 60 with | true => (match Nat.blt i 58 with | true => (Option.none : Option Jvm.ClassFile.FieldType) | false => (match Nat.blt i 59 with | true => (Option.none : Option Jvm.ClassFile.FieldType) | false => (Option.some (Jvm.ClassFile.FieldType.object "Taperhall$Session")))) | false => (match Nat.blt i 61 with | true => (Option.some Jvm.ClassFile.FieldType.char) | false => (match Nat.blt i 62 with | true => (Option.some Jvm.ClassFile.FieldType.int) | false => (Option.some Jvm.ClassFile.FieldType.long))))) | false => (match Nat.blt i 69 with | true => (match Nat.blt i 66 with | true => (match Nat.blt i 64 with | true => (Option.none : Option Jvm.ClassFile.FieldType) | false => (match Nat.blt i 65 with | true => (Option.none : Option Jvm.ClassFile.FieldType) | false => (Option.none : Option Jvm.ClassFile.FieldType))) | false => (match Nat.blt i 67 with | true => (Option.none : Option Jvm.ClassFile.FieldType) | false => (match Nat.blt i 68 with | true => (Option.some Jvm.ClassFile.FieldType.int) | false => (Option.some Jvm.ClassFile.FieldType.int)))) | false => (match Nat.blt i 72 with | true => (match Nat.blt i 70 with | true => (Option.some Jvm.ClassFile.FieldType.int) | false => (match Nat.blt i 71 with | true => (Option.some Jvm.ClassFile.FieldType.int) | false => (Option.none : Option Jvm.ClassFile.FieldType))) | false => (match Nat.blt i 74 with | true => (match Nat.blt i 73 with | true => (Option.none : Option Jvm.ClassFile.FieldType) | false => (Option.none : Option Jvm.ClassFile.FieldType)) | false => (match Nat.blt i 75 with | true => (Option.some Jvm.ClassFile.FieldType.int) | false => (Option.some Jvm.ClassFile.FieldType.int)))))) | false => (match Nat.blt i 89 with | true => (match Nat.blt i 82 with | true => (match Nat.blt i 79 with | true => (match Nat.blt i 77 with | true => (Option.some Jvm.ClassFile.FieldType.int) | false => (match Nat.blt i 78 with | true => (Option.some Jvm.ClassFile.FieldType.int) | false => (Option.some Jvm.ClassFile.FieldType.int))) | false => (match Nat.blt i 80 with | true => (Option.some Jvm.ClassFile.FieldType.int) | false => (match Nat.blt i 81 with | true => (Option.some Jvm.ClassFile.FieldType.int) | false => (Option.some Jvm.ClassFile.FieldType.int)))) | false => (match Nat.blt i 85 with | true => (match Nat.blt i 83 with | true => (Option.some Jvm.ClassFile.FieldType.int) | false => (match Nat.blt i 84 with | true => (Option.some Jvm.ClassFile.FieldType.int) | false => (Option.some Jvm.ClassFile.FieldType.int))) | false => (match Nat.blt i 87 with | true => (match Nat.blt i 86 with | true => (Option.some Jvm.ClassFile.FieldType.int) | false => (Option.some Jvm.ClassFile.FieldType.int)) | false => (match Nat.blt i 88 with | true => (Option.some Jvm.ClassFile.FieldType.int) | false => (Option.some Jvm.ClassFile.FieldType.int))))) | false => (match Nat.blt i 95 with | true => (match Nat.blt i 92 with | true => (match Nat.blt i 90 with | true => (Option.some Jvm.ClassFile.FieldType.int) | false => (match Nat.blt i 91 with | true => (Option.some Jvm.ClassFile.FieldType.int) | false => (Option.some Jvm.ClassFile.FieldType.int))) | false => (match Nat.blt i 93 with | true => (Option.some Jvm.ClassFile.FieldType.int) | false => (match Nat.blt i 94 with | true => (Option.some Jvm.ClassFile.FieldType.int) | false => (Option.some Jvm.ClassFile.FieldType.int)))) | false => (match Nat.blt i 98 with | true => (match Nat.blt i 96 with | true => (Option.some Jvm.ClassFile.FieldType.int) | false => (match Nat.blt i 97 with | true => (Option.some Jvm.ClassFile.FieldType.int) | false => (Option.some Jvm.ClassFile.FieldType.int))) | false => (match Nat.blt i 100 with | true => (match Nat.blt i 99 with | true => (Option.some Jvm.ClassFile.FieldType.int) | false => (Option.some Jvm.ClassFile.FieldType.int)) | false => (match Nat.blt i 101 with | true => (Option.some Jvm.ClassFile.FieldType.int) | false => (Option.some Jvm.ClassFile.FieldType.int)))))))) | false => (match Nat.blt i 153 with | true => (match Nat.blt i 127 with | true => (match Nat.blt i 114 with | true => (match Nat.blt i 108 with | true => (match Nat.blt i 105 with | true => (match Nat.blt i 103 with | true => (Option.some Jvm.ClassFile.FieldType.int) | false => (match Nat.blt i 104 with | true => (Option.some Jvm.ClassFile.FieldType.int) | false => (Option.some Jvm.ClassFile.FieldType.int))) | false => (match Nat.blt i 106 with | true => (Option.some Jvm.ClassFile.FieldType.int) | false => (match Nat.blt i 107 with | true => (Option.some Jvm.ClassFile.FieldType.int) | false => (Option.some Jvm.ClassFile.FieldType.int)))) | false => (match Nat.blt i 111 with | true => (match Nat.blt i 109 with | true => (Option.some Jvm.ClassFile.FieldType.int) | false => (match Nat.blt i 110 with | true => (Option.some Jvm.ClassFile.FieldType.int) | false => (Option.some Jvm.ClassFile.FieldType.int))) | false => (match Nat.blt i 112 with | true => (Option.some Jvm.ClassFile.FieldType.int) | false => (match Nat.blt i 113 with | true => (Option.some Jvm.ClassFile.FieldType.int) | false => (Option.none : Option Jvm.ClassFile.FieldType))))) | false => (match Nat.blt i 120 with | true => (match Nat.blt i 117 with | true => (match Nat.blt i 115 with | true => (Option.some Jvm.ClassFile.FieldType.int) | false => (match Nat.blt i 116 with | true => (Option.some Jvm.ClassFile.FieldType.int) | false => (Option.some Jvm.ClassFile.FieldType.int))) | false => (match Nat.blt i 118 with | true => (Option.some Jvm.ClassFile.FieldType.long) | false => (match Nat.blt i 119 with | true => (Option.some Jvm.ClassFile.FieldType.int) | false => (Option.some Jvm.ClassFile.FieldType.char)))) | false => (match Nat.blt i 123 with | true => (match Nat.blt i 121 with | true => (Option.some Jvm.ClassFile.FieldType.int) | false => (match Nat.blt i 122 with | true => (Option.some Jvm.ClassFile.FieldType.int) | false => (Option.some Jvm.ClassFile.FieldType.long))) | false => (match Nat.blt i 125 with | true => (match Nat.blt i 124 with | true => (Option.some Jvm.ClassFile.FieldType.int) | false => (Option.none : Option Jvm.ClassFile.FieldType)) | false => (match Nat.blt i 126 with | true => (Option.some Jvm.ClassFile.FieldType.char) | false => (Option.some Jvm.ClassFile.FieldType.int)))))) | false => (match Nat.blt i 140 with | true => (match Nat.blt i 133 with | true => (match Nat.blt i 130 with | true => (match Nat.blt i 128 with | true => (Option.some Jvm.ClassFile.FieldType.int) | false => (match Nat.blt i 129 with | true => (Option.some Jvm.ClassFile.FieldType.int) | false => (Option.some Jvm.ClassFile.FieldType.long))) | false => (match Nat.blt i 131 with | true => (Option.some Jvm.ClassFile.FieldType.float) | false => (match Nat.blt i 132 with | true => (Option.some Jvm.ClassFile.FieldType.long) | false => (Option.some (Jvm.ClassFile.FieldType.array Jvm.ClassFile.FieldType.long))))) | false => (match Nat.blt i 136 with | true => (match Nat.blt i 134 with | true => (Option.some Jvm.ClassFile.FieldType.int) | false => (match Nat.blt i 135 with | true => (Option.some Jvm.ClassFile.FieldType.boolean) | false => (Option.some Jvm.ClassFile.FieldType.boolean))) | false => (match Nat.blt i 138 with | true => (match Nat.blt i 137 with | true => (Option.some Jvm.ClassFile.FieldType.boolean) | false => (Option.some Jvm.ClassFile.FieldType.boolean)) | false => (match Nat.blt i 139 with | true => (Option.some Jvm.ClassFile.FieldType.int) | false => (Option.some Jvm.ClassFile.FieldType.double))))) | false => (match Nat.blt i 146 with | true => (match Nat.blt i 143 with | true => (match Nat.blt i 141 with | true => (Option.some (Jvm.ClassFile.FieldType.object "TaperhallModel$Session")) | false => (match Nat.blt i 142 with | true => (Option.some Jvm.ClassFile.FieldType.boolean) | false => (Option.some Jvm.ClassFile.FieldType.boolean))) | false => (match Nat.blt i 144 with | true => (Option.some Jvm.ClassFile.FieldType.boolean) | false => (match Nat.blt i 145 with | true => (Option.some Jvm.ClassFile.FieldType.int) | false => (Option.some Jvm.ClassFile.FieldType.int)))) | false => (match Nat.blt i 149 with | true => (match Nat.blt i 147 with | true => (Option.some Jvm.ClassFile.FieldType.int) | false => (match Nat.blt i 148 with | true => (Option.some Jvm.ClassFile.FieldType.char) | false => (Option.some Jvm.ClassFile.FieldType.int))) | false => (match Nat.blt i 151 with | true => (match Nat.blt i 150 with | true => (Option.some Jvm.ClassFile.FieldType.int) | false => (Option.some Jvm.ClassFile.FieldType.int)) | false => (match Nat.blt i 152 with | true => (Option.some Jvm.ClassFile.FieldType.int) | false => (Option.some Jvm.ClassFile.FieldType.char))))))) | false => (match Nat.blt i 178 with | true => (match Nat.blt i 165 with | true => (match Nat.blt i 159 with | true => (match Nat.blt i 156 with | true => (match Nat.blt i 154 with | true => (Option.some Jvm.ClassFile.FieldType.int) | false => (match Nat.blt i 155 with | true => (Option.some Jvm.ClassFile.FieldType.int) | false => (Option.some Jvm.ClassFile.FieldType.int))) | false => (match Nat.blt i 157 with | true => (Option.some Jvm.ClassFile.FieldType.int) | false => (match Nat.blt i 158 with | true => (Option.some Jvm.ClassFile.FieldType.int) | false => (Option.some Jvm.ClassFile.FieldType.int)))) | false => (match Nat.blt i 162 with | true => (match Nat.blt i 160 with | true => (Option.some Jvm.ClassFile.FieldType.long) | false => (match Nat.blt i 161 with | true => (Option.some Jvm.ClassFile.FieldType.long) | false => (Option.some Jvm.ClassFile.FieldType.char))) | false => (match Nat.blt i 163 with | true => (Option.some Jvm.ClassFile.FieldType.int) | false => (match Nat.blt i 164 with | true => (Option.some Jvm.ClassFile.FieldType.int) | false => (Option.some Jvm.ClassFile.FieldType.int))))) | false => (match Nat.blt i 171 with | true => (match Nat.blt i 168 with | true => (match Nat.blt i 166 with | true => (Option.some Jvm.ClassFile.FieldType.long) | false => (match Nat.blt i 167 with | true => (Option.some Jvm.ClassFile.FieldType.int) | false => (Option.some Jvm.ClassFile.FieldType.int))) | false => (match Nat.blt i 169 with | true => (Option.some Jvm.ClassFile.FieldType.int) | false => (match Nat.blt i 170 with | true => (Option.none : Option Jvm.ClassFile.FieldType) | false => (Option.none : Option Jvm.ClassFile.FieldType)))) | false => (match Nat.blt i 174 with | true => (match Nat.blt i 172 with | true => (Option.none : Option Jvm.ClassFile.FieldType) | false => (match Nat.blt i 173 with | true => (Option.some (Jvm.ClassFile.FieldType.object "java/lang/AbstractStringBuilder")) | false => (Option.none : Option Jvm.ClassFile.FieldType))) | false => (match Nat.blt i 176 with | true => (match Nat.blt i 175 with | true => (Option.some Jvm.ClassFile.FieldType.boolean) | false => (Option.some Jvm.ClassFile.FieldType.int)) | false => (match Nat.blt i 177 with | true => (Option.none : Option Jvm.ClassFile.FieldType) | false => (Option.some Jvm.ClassFile.FieldType.int)))))) | false => (match Nat.blt i 191 with | true => (match Nat.blt i 184 with | true => (match Nat.blt i 181 with | true => (match Nat.blt i 179 with | true => (Option.some Jvm.ClassFile.FieldType.int) | false => (match Nat.blt i 180 with | true => (Option.some Jvm.ClassFile.FieldType.byte) | false => (Option.some Jvm.ClassFile.FieldType.int))) | false => (match Nat.blt i 182 with | true => (Option.some Jvm.ClassFile.FieldType.int) | false => (match Nat.blt i 183 with | true => (Option.some Jvm.ClassFile.FieldType.boolean) | false => (Option.some Jvm.ClassFile.FieldType.int)))) | false => (match Nat.blt i 187 with | true => (match Nat.blt i 185 with | true => (Option.none : Option Jvm.ClassFile.FieldType) | false => (match Nat.blt i 186 with | true => (Option.some (Jvm.ClassFile.FieldType.object "java/lang/StringBuilder")) | false => (Option.some Jvm.ClassFile.FieldType.int))) | false => (match Nat.blt i 189 with | true => (match Nat.blt i 188 with | true => (Option.none : Option Jvm.ClassFile.FieldType) | false => (Option.some Jvm.ClassFile.FieldType.boolean)) | false => (match Nat.blt i 190 with | true => (Option.some Jvm.ClassFile.FieldType.boolean) | false => (Option.some Jvm.ClassFile.FieldType.int))))) | false => (match Nat.blt i 197 with | true => (match Nat.blt i 194 with | true => (match Nat.blt i 192 with | true => (Option.some Jvm.ClassFile.FieldType.int) | false => (match Nat.blt i 193 with | true => (Option.none : Option Jvm.ClassFile.FieldType) | false => (Option.none : Option Jvm.ClassFile.FieldType))) | false => (match Nat.blt i 195 with | true => (Option.none : Option Jvm.ClassFile.FieldType) | false => (match Nat.blt i 196 with | true => (Option.some Jvm.ClassFile.FieldType.boolean) | false => (Option.none : Option Jvm.ClassFile.FieldType)))) | false => (match Nat.blt i 200 with | true => (match Nat.blt i 198 with | true => (Option.some (Jvm.ClassFile.FieldType.array (Jvm.ClassFile.FieldType.object "java/lang/Object"))) | false => (match Nat.blt i 199 with | true => (Option.some (Jvm.ClassFile.FieldType.array (Jvm.ClassFile.FieldType.object "java/lang/Object"))) | false => (Option.some Jvm.ClassFile.FieldType.boolean))) | false => (match Nat.blt i 202 with | true => (match Nat.blt i 201 with | true => (Option.some (Jvm.ClassFile.FieldType.object "java/util/Iterator")) | false => (Option.some Jvm.ClassFile.FieldType.int)) | false => (match Nat.blt i 203 with | true => (Option.none : Option Jvm.ClassFile.FieldType) | false => (Option.some Jvm.ClassFile.FieldType.boolean)))))))))
def s_hx (i : Nat) : List (Nat × Nat × Nat × Nat) := (match Nat.blt i 102 with | true => (match Nat.blt i 51 with | true => (match Nat.blt i 25 with | true => (match Nat.blt i 12 with | true => (match Nat.blt i 6 with | true => (match Nat.blt i 3 with | true => (match Nat.blt i 1 with | true => [] | false => (match Nat.blt i 2 with | true => [] | false => [])) | false => (match Nat.blt i 4 with | true => [] | false => (match Nat.blt i 5 with | true => [] | false => []))) | false => (match Nat.blt i 9 with | true => (match Nat.blt i 7 with | true => [] | false => (match Nat.blt i 8 with | true => [] | false => [])) | false => (match Nat.blt i 10 with | true => [] | false => (match Nat.blt i 11 with | true => [] | false => [])))) | false => (match Nat.blt i 18 with | true => (match Nat.blt i 15 with | true => (match Nat.blt i 13 with | true => [] | false => (match Nat.blt i 14 with | true => [] | false => [])) | false => (match Nat.blt i 16 with | true => [] | false => (match Nat.blt i 17 with | true => [] | false => []))) | false => (match Nat.blt i 21 with | true => (match Nat.blt i 19 with | true => [] | false => (match Nat.blt i 20 with | true => [] | false => [])) | false => (match Nat.blt i 23 with | true => (match Nat.blt i 22 with | true => [] | false => []) | false => (match Nat.blt i 24 with | true => [] | false => []))))) | false => (match Nat.blt i 38 with | true => (match Nat.blt i 31 with | true => (match Nat.blt i 28 with | true => (match Nat.blt i 26 with | true => [] | false => (match Nat.blt i 27 with | true => [] | false => [])) | false => (match Nat.blt i 29 with | true => [] | false => (match Nat.blt i 30 with | true => [] | false => []))) | false => (match Nat.blt i 34 with | true => (match Nat.blt i 32 with | true => [] | false => (match Nat.blt i 33 with | true => [] | false => [])) | false => (match Nat.blt i 36 with | true => (match Nat.blt i 35 with | true => [] | false => []) | false => (match Nat.blt i 37 with | true => [] | false => [])))) | false => (match Nat.blt i 44 with | true => (match Nat.blt i 41 with | true => (match Nat.blt i 39 with | true => [] | false => (match Nat.blt i 40 with | true => [] | false => [])) | false => (match Nat.blt i 42 with | true => [] | false => (match Nat.blt i 43 with | true => [] | false => []))) | false => (match Nat.blt i 47 with | true => (match Nat.blt i 45 with | true => [] | false => (match Nat.blt i 46 with | true => [] | false => [])) | false => (match Nat.blt i 49 with | true => (match Nat.blt i 48 with | true => [] | false => []) | false => (match Nat.blt i 50 with | true => [] | false => [])))))) | false => (match Nat.blt i 76 with | true => (match Nat.blt i 63 with | true => (match Nat.blt i 57 with | true => (match Nat.blt i 54 with | true => (match Nat.blt i 52 with | true => [] | false => (match Nat.blt i 53 with | true => [] | false => [])) | false => (match Nat.blt i 55 with | true => [] | false => (match Nat.blt i 56 with | true => [] | false => []))) | false => (match Nat.blt i 60 with | true => (match Nat.blt i 58 with | true => [] | false => (match Nat.blt i 59 with | true => [] | false => [])) | false => (match Nat.blt i 61 with | true => [] | false => (match Nat.blt i 62 with | true => [] | false => [])))) | false => (match Nat.blt i 69 with | true => (match Nat.blt i 66 with | true => (match Nat.blt i 64 with | true => [] | false => (match Nat.blt i 65 with | true => [] | false => [])) | false => (match Nat.blt i 67 with | true => [] | false => (match Nat.blt i 68 with | true => [] | false => []))) | false => (match Nat.blt i 72 with | true => (match Nat.blt i 70 with | true => [] | false => (match Nat.blt i 71 with | true => [] | false => [])) | false => (match Nat.blt i 74 with | true => (match Nat.blt i 73 with | true => [] | false => []) | false => (match Nat.blt i 75 with | true => [(0, 14, 17, 49), (0, 14, 21, 19)] | false => [(0, 16, 19, 19), (0, 16, 23, 13)]))))) | false => (match Nat.blt i 89 with | true => (match Nat.blt i 82 with | true => (match Nat.blt i 79 with | true => (match Nat.blt i 77 with | true => [(0, 9, 12, 49), (0, 9, 15, 66)] | false => (match Nat.blt i 78 with | true => [(0, 9, 12, 49), (0, 9, 16, 19)] | false => [(0, 10, 13, 49), (0, 10, 17, 19)])) | false => (match Nat.blt i 80 with | true => [(0, 10, 13, 49), (0, 10, 17, 66)] | false => (match Nat.blt i 81 with | true => [(0, 10, 13, 49), (0, 10, 17, 66)] | false => [(0, 9, 12, 49)]))) | false => (match Nat.blt i 85 with | true => (match Nat.blt i 83 with | true => [(0, 10, 13, 49), (0, 10, 17, 19), (0, 10, 21, 21)] | false => (match Nat.blt i 84 with | true => [(0, 10, 13, 49), (0, 10, 17, 19), (0, 10, 21, 66)] | false => [(0, 10, 13, 49), (0, 10, 17, 19), (0, 10, 21, 66)])) | false => (match Nat.blt i 87 with | true => (match Nat.blt i 86 with | true => [(0, 11, 14, 49), (0, 11, 18, 19), (0, 11, 22, 21), (0, 11, 26, 66)] | false => [(0, 8, 11, 31)]) | false => (match Nat.blt i 88 with | true => [(0, 11, 14, 49), (0, 11, 18, 19), (0, 11, 22, 21), (0, 11, 26, 66)] | false => [(0, 10, 13, 49), (0, 10, 17, 19)])))) | false => (match Nat.blt i 95 with | true => (match Nat.blt i 92 with | true => (match Nat.blt i 90 with | true => [(0, 16, 19, 49)] | false => (match Nat.blt i 91 with | true => [(0, 10, 13, 19)] | false => [(0, 7, 10, 31)])) | false => (match Nat.blt i 93 with | true => [(0, 9, 12, 19), (0, 9, 15, 13)] | false => (match Nat.blt i 94 with | true => [(0, 9, 12, 49)] | false => [(0, 10, 13, 49), (0, 10, 17, 19), (0, 10, 21, 21)]))) | false => (match Nat.blt i 98 with | true => (match Nat.blt i 96 with | true => [(0, 10, 13, 49), (0, 10, 17, 19)] | false => (match Nat.blt i 97 with | true => [(0, 9, 12, 49), (0, 9, 15, 21)] | false => [(0, 9, 12, 49), (0, 9, 15, 21)])) | false => (match Nat.blt i 100 with | true => (match Nat.blt i 99 with | true => [(0, 9, 12, 19)] | false => [(0, 10, 13, 19), (0, 10, 17, 66)]) | false => (match Nat.blt i 101 with | true => [(0, 8, 11, 13)] | false => [(0, 14, 17, 19), (0, 14, 21, 21), (0, 14, 25, 13)]))))))) | false => (match Nat.blt i 153 with | true => (match Nat.blt i 127 with | true => (match Nat.blt i 114 with | true => (match Nat.blt i 108 with | true => (match Nat.blt i 105 with | true => (match Nat.blt i 103 with | true => [(0, 10, 13, 49), (0, 10, 17, 19), (0, 10, 21, 21)] | false => (match Nat.blt i 104 with | true => [(0, 9, 12, 19)] | false => [(0, 9, 12, 19)])) | false => (match Nat.blt i 106 with | true => [(0, 9, 12, 19)] | false => (match Nat.blt i 107 with | true => [(0, 12, 15, 49), (0, 12, 19, 19), (0, 12, 23, 21)] | false => [(0, 11, 14, 49), (0, 11, 18, 19)]))) | false => (match Nat.blt i 111 with | true => (match Nat.blt i 109 with | true => [(0, 14, 17, 49), (0, 14, 21, 19), (0, 14, 25, 66)] | false => (match Nat.blt i 110 with | true => [(0, 9, 12, 49), (0, 9, 15, 13)] | false => [(0, 11, 14, 19), (0, 11, 18, 31)])) | false => (match Nat.blt i 112 with | true => [(0, 9, 12, 19), (0, 9, 15, 13)] | false => (match Nat.blt i 113 with | true => [(0, 8, 11, 13)] | false => [])))) | false => (match Nat.blt i 120 with | true => (match Nat.blt i 117 with | true => (match Nat.blt i 115 with | true => [] | false => (match Nat.blt i 116 with | true => [] | false => [])) | false => (match Nat.blt i 118 with | true => [] | false => (match Nat.blt i 119 with | true => [] | false => []))) | false => (match Nat.blt i 123 with | true => (match Nat.blt i 121 with | true => [] | false => (match Nat.blt i 122 with | true => [] | false => [])) | false => (match Nat.blt i 125 with | true => (match Nat.blt i 124 with | true => [] | false => []) | false => (match Nat.blt i 126 with | true => [] | false => []))))) | false => (match Nat.blt i 140 with | true => (match Nat.blt i 133 with | true => (match Nat.blt i 130 with | true => (match Nat.blt i 128 with | true => [] | false => (match Nat.blt i 129 with | true => [] | false => [])) | false => (match Nat.blt i 131 with | true => [] | false => (match Nat.blt i 132 with | true => [] | false => []))) | false => (match Nat.blt i 136 with | true => (match Nat.blt i 134 with | true => [] | false => (match Nat.blt i 135 with | true => [] | false => [])) | false => (match Nat.blt i 138 with | true => (match Nat.blt i 137 with | true => [] | false => []) | false => (match Nat.blt i 139 with | true => [] | false => [])))) | false => (match Nat.blt i 146 with | true => (match Nat.blt i 143 with | true => (match Nat.blt i 141 with | true => [] | false => (match Nat.blt i 142 with | true => [] | false => [])) | false => (match Nat.blt i 144 with | true => [] | false => (match Nat.blt i 145 with | true => [] | false => []))) | false => (match Nat.blt i 149 with | true => (match Nat.blt i 147 with | true => [] | false => (match Nat.blt i 148 with | true => [] | false => [])) | false => (match Nat.blt i 151 with | true => (match Nat.blt i 150 with | true => [] | false => []) | false => (match Nat.blt i 152 with | true => [] | false => [])))))) | false => (match Nat.blt i 178 with | true => (match Nat.blt i 165 with | true => (match Nat.blt i 159 with | true => (match Nat.blt i 156 with | true => (match Nat.blt i 154 with | true => [] | false => (match Nat.blt i 155 with | true => [] | false => [])) | false => (match Nat.blt i 157 with | true => [] | false => (match Nat.blt i 158 with | true => [] | false => []))) | false => (match Nat.blt i 162 with | true => (match Nat.blt i 160 with | true => [] | false => (match Nat.blt i 161 with | true => [] | false => [])) | false => (match Nat.blt i 163 with | true => [] | false => (match Nat.blt i 164 with | true => [] | false => [])))) | false => (match Nat.blt i 171 with | true => (match Nat.blt i 168 with | true => (match Nat.blt i 166 with | true => [] | false => (match Nat.blt i 167 with | true => [] | false => [])) | false => (match Nat.blt i 169 with | true => [] | false => (match Nat.blt i 170 with | true => [] | false => []))) | false => (match Nat.blt i 174 with | true => (match Nat.blt i 172 with | true => [] | false => (match Nat.blt i 173 with | true => [] | false => [])) | false => (match Nat.blt i 176 with | true => (match Nat.blt i 175 with | true => [] | false => []) | false => (match Nat.blt i 177 with | true => [] | false => []))))) | false => (match Nat.blt i 191 with | true => (match Nat.blt i 184 with | true => (match Nat.blt i 181 with | true => (match Nat.blt i 179 with | true => [] | false => (match Nat.blt i 180 with | true => [] | false => [])) | false => (match Nat.blt i 182 with | true => [] | false => (match Nat.blt i 183 with | true => [] | false => []))) | false => (match Nat.blt i 187 with | true => (match Nat.blt i 185 with | true => [] | false => (match Nat.blt i 186 with | true => [] | false => [])) | false => (match Nat.blt i 189 with | true => (match Nat.blt i 188 with | true => [] | false => []) | false => (match Nat.blt i 190 with | true => [] | false => [])))) | false => (match Nat.blt i 197 with | true => (match Nat.blt i 194 with | true => (match Nat.blt i 192 with | true => [] | false => (match Nat.blt i 193 with | true => [] | false => [])) | false => (match Nat.blt i 195 with | true => [] | false => (match Nat.blt i 196 with | true => [] | false => []))) | false => (match Nat.blt i 200 with | true => (match Nat.blt i 198 with | true => [] | false => (match Nat.blt i 199 with | true => [] | false => [])) | false => (match Nat.blt i 202 with | true => (match Nat.blt i 201 with | true => [] | false => []) | false => (match Nat.blt i 203 with | true => [] | false => []))))))))
def s_hw (i : Nat) : List Nat := (match Nat.blt i 102 with | true => (match Nat.blt i 51 with | true => (match Nat.blt i 25 with | true => (match Nat.blt i 12 with | true => (match Nat.blt i 6 with | true => (match Nat.blt i 3 with | true => (match Nat.blt i 1 with | true => [] | false => (match Nat.blt i 2 with | true => [] | false => [])) | false => (match Nat.blt i 4 with | true => [] | false => (match Nat.blt i 5 with | true => [] | false => []))) | false => (match Nat.blt i 9 with | true => (match Nat.blt i 7 with | true => [] | false => (match Nat.blt i 8 with | true => [] | false => [])) | false => (match Nat.blt i 10 with | true => [] | false => (match Nat.blt i 11 with | true => [] | false => [])))) | false => (match Nat.blt i 18 with | true => (match Nat.blt i 15 with | true => (match Nat.blt i 13 with | true => [] | false => (match Nat.blt i 14 with | true => [] | false => [])) | false => (match Nat.blt i 16 with | true => [] | false => (match Nat.blt i 17 with | true => [] | false => []))) | false => (match Nat.blt i 21 with | true => (match Nat.blt i 19 with | true => [] | false => (match Nat.blt i 20 with | true => [] | false => [])) | false => (match Nat.blt i 23 with | true => (match Nat.blt i 22 with | true => [] | false => []) | false => (match Nat.blt i 24 with | true => [] | false => []))))) | false => (match Nat.blt i 38 with | true => (match Nat.blt i 31 with | true => (match Nat.blt i 28 with | true => (match Nat.blt i 26 with | true => [] | false => (match Nat.blt i 27 with | true => [] | false => [])) | false => (match Nat.blt i 29 with | true => [] | false => (match Nat.blt i 30 with | true => [] | false => []))) | false => (match Nat.blt i 34 with | true => (match Nat.blt i 32 with | true => [] | false => (match Nat.blt i 33 with | true => [] | false => [])) | false => (match Nat.blt i 36 with | true => (match Nat.blt i 35 with | true => [] | false => []) | false => (match Nat.blt i 37 with | true => [] | false => [])))) | false => (match Nat.blt i 44 with | true => (match Nat.blt i 41 with | true => (match Nat.blt i 39 with | true => [] | false => (match Nat.blt i 40 with | true => [] | false => [])) | false => (match Nat.blt i 42 with | true => [] | false => (match Nat.blt i 43 with | true => [] | false => []))) | false => (match Nat.blt i 47 with | true => (match Nat.blt i 45 with | true => [] | false => (match Nat.blt i 46 with | true => [] | false => [])) | false => (match Nat.blt i 49 with | true => (match Nat.blt i 48 with | true => [] | false => []) | false => (match Nat.blt i 50 with | true => [] | false => [])))))) | false => (match Nat.blt i 76 with | true => (match Nat.blt i 63 with | true => (match Nat.blt i 57 with | true => (match Nat.blt i 54 with | true => (match Nat.blt i 52 with | true => [] | false => (match Nat.blt i 53 with | true => [] | false => [])) | false => (match Nat.blt i 55 with | true => [] | false => (match Nat.blt i 56 with | true => [] | false => []))) | false => (match Nat.blt i 60 with | true => (match Nat.blt i 58 with | true => [] | false => (match Nat.blt i 59 with | true => [] | false => [])) | false => (match Nat.blt i 61 with | true => [] | false => (match Nat.blt i 62 with | true => [] | false => [])))) | false => (match Nat.blt i 69 with | true => (match Nat.blt i 66 with | true => (match Nat.blt i 64 with | true => [] | false => (match Nat.blt i 65 with | true => [] | false => [])) | false => (match Nat.blt i 67 with | true => [] | false => (match Nat.blt i 68 with | true => [] | false => []))) | false => (match Nat.blt i 72 with | true => (match Nat.blt i 70 with | true => [] | false => (match Nat.blt i 71 with | true => [] | false => [])) | false => (match Nat.blt i 74 with | true => (match Nat.blt i 73 with | true => [] | false => []) | false => (match Nat.blt i 75 with | true => [948, 977, 624, 637] | false => [624, 637, 447, 454]))))) | false => (match Nat.blt i 89 with | true => (match Nat.blt i 82 with | true => (match Nat.blt i 79 with | true => (match Nat.blt i 77 with | true => [948, 977, 1052, 1060] | false => (match Nat.blt i 78 with | true => [948, 977, 624, 637] | false => [948, 977, 624, 637])) | false => (match Nat.blt i 80 with | true => [948, 977, 1052, 1060] | false => (match Nat.blt i 81 with | true => [948, 977, 1052, 1060] | false => [948, 977]))) | false => (match Nat.blt i 85 with | true => (match Nat.blt i 83 with | true => [948, 977, 624, 637, 625, 663] | false => (match Nat.blt i 84 with | true => [948, 977, 624, 637, 1052, 1060] | false => [948, 977, 624, 637, 1052, 1060])) | false => (match Nat.blt i 87 with | true => (match Nat.blt i 86 with | true => [948, 977, 624, 637, 625, 663, 1052, 1060] | false => [700, 720]) | false => (match Nat.blt i 88 with | true => [948, 977, 624, 637, 625, 663, 1052, 1060] | false => [948, 977, 624, 637])))) | false => (match Nat.blt i 95 with | true => (match Nat.blt i 92 with | true => (match Nat.blt i 90 with | true => [948, 977] | false => (match Nat.blt i 91 with | true => [624, 637] | false => [700, 720])) | false => (match Nat.blt i 93 with | true => [624, 637, 447, 454] | false => (match Nat.blt i 94 with | true => [948, 977] | false => [948, 977, 624, 637, 625, 663]))) | false => (match Nat.blt i 98 with | true => (match Nat.blt i 96 with | true => [948, 977, 624, 637] | false => (match Nat.blt i 97 with | true => [948, 977, 625, 663] | false => [948, 977, 625, 663])) | false => (match Nat.blt i 100 with | true => (match Nat.blt i 99 with | true => [624, 637] | false => [624, 637, 1052, 1060]) | false => (match Nat.blt i 101 with | true => [447, 454] | false => [624, 637, 625, 663, 447, 454]))))))) | false => (match Nat.blt i 153 with | true => (match Nat.blt i 127 with | true => (match Nat.blt i 114 with | true => (match Nat.blt i 108 with | true => (match Nat.blt i 105 with | true => (match Nat.blt i 103 with | true => [948, 977, 624, 637, 625, 663] | false => (match Nat.blt i 104 with | true => [624, 637] | false => [624, 637])) | false => (match Nat.blt i 106 with | true => [624, 637] | false => (match Nat.blt i 107 with | true => [948, 977, 624, 637, 625, 663] | false => [948, 977, 624, 637]))) | false => (match Nat.blt i 111 with | true => (match Nat.blt i 109 with | true => [948, 977, 624, 637, 1052, 1060] | false => (match Nat.blt i 110 with | true => [948, 977, 447, 454] | false => [624, 637, 700, 720])) | false => (match Nat.blt i 112 with | true => [624, 637, 447, 454] | false => (match Nat.blt i 113 with | true => [447, 454] | false => [])))) | false => (match Nat.blt i 120 with | true => (match Nat.blt i 117 with | true => (match Nat.blt i 115 with | true => [] | false => (match Nat.blt i 116 with | true => [] | false => [])) | false => (match Nat.blt i 118 with | true => [] | false => (match Nat.blt i 119 with | true => [] | false => []))) | false => (match Nat.blt i 123 with | true => (match Nat.blt i 121 with | true => [] | false => (match Nat.blt i 122 with | true => [] | false => [])) | false => (match Nat.blt i 125 with | true => (match Nat.blt i 124 with | true => [] | false => []) | false => (match Nat.blt i 126 with | true => [] | false => []))))) | false => (match Nat.blt i 140 with | true => (match Nat.blt i 133 with | true => (match Nat.blt i 130 with | true => (match Nat.blt i 128 with | true => [] | false => (match Nat.blt i 129 with | true => [] | false => [])) | false => (match Nat.blt i 131 with | true => [] | false => (match Nat.blt i 132 with | true => [] | false => []))) | false => (match Nat.blt i 136 with | true => (match Nat.blt i 134 with | true => [] | false => (match Nat.blt i 135 with | true => [] | false => [])) | false => (match Nat.blt i 138 with | true => (match Nat.blt i 137 with | true => [] | false => []) | false => (match Nat.blt i 139 with | true => [] | false => [])))) | false => (match Nat.blt i 146 with | true => (match Nat.blt i 143 with | true => (match Nat.blt i 141 with | true => [] | false => (match Nat.blt i 142 with | true => [] | false => [])) | false => (match Nat.blt i 144 with | true => [] | false => (match Nat.blt i 145 with | true => [] | false => []))) | false => (match Nat.blt i 149 with | true => (match Nat.blt i 147 with | true => [] | false => (match Nat.blt i 148 with | true => [] | false => [])) | false => (match Nat.blt i 151 with | true => (match Nat.blt i 150 with | true => [] | false => []) | false => (match Nat.blt i 152 with | true => [] | false => [])))))) | false => (match Nat.blt i 178 with | true => (match Nat.blt i 165 with | true => (match Nat.blt i 159 with | true => (match Nat.blt i 156 with | true => (match Nat.blt i 154 with | true => [] | false => (match Nat.blt i 155 with | true => [] | false => [])) | false => (match Nat.blt i 157 with | true => [] | false => (match Nat.blt i 158 with | true => [] | false => []))) | false => (match Nat.blt i 162 with | true => (match Nat.blt i 160 with | true => [] | false => (match Nat.blt i 161 with | true => [] | false => [])) | false => (match Nat.blt i 163 with | true => [] | false => (match Nat.blt i 164 with | true => [] | false => [])))) | false => (match Nat.blt i 171 with | true => (match Nat.blt i 168 with | true => (match Nat.blt i 166 with | true => [] | false => (match Nat.blt i 167 with | true => [] | false => [])) | false => (match Nat.blt i 169 with | true => [] | false => (match Nat.blt i 170 with | true => [] | false => []))) | false => (match Nat.blt i 174 with | true => (match Nat.blt i 172 with | true => [] | false => (match Nat.blt i 173 with | true => [] | false => [])) | false => (match Nat.blt i 176 with | true => (match Nat.blt i 175 with | true => [] | false => []) | false => (match Nat.blt i 177 with | true => [] | false => []))))) | false => (match Nat.blt i 191 with | true => (match Nat.blt i 184 with | true => (match Nat.blt i 181 with | true => (match Nat.blt i 179 with | true => [] | false => (match Nat.blt i 180 with | true => [] | false => [])) | false => (match Nat.blt i 182 with | true => [] | false => (match Nat.blt i 183 with | true => [] | false => []))) | false => (match Nat.blt i 187 with | true => (match Nat.blt i 185 with | true => [] | false => (match Nat.blt i 186 with | true => [] | false => [])) | false => (match Nat.blt i 189 with | true => (match Nat.blt i 188 with | true => [] | false => []) | false => (match Nat.blt i 190 with | true => [] | false => [])))) | false => (match Nat.blt i 197 with | true => (match Nat.blt i 194 with | true => (match Nat.blt i 192 with | true => [] | false => (match Nat.blt i 193 with | true => [] | false => [])) | false => (match Nat.blt i 195 with | true => [] | false => (match Nat.blt i 196 with | true => [] | false => []))) | false => (match Nat.blt i 200 with | true => (match Nat.blt i 198 with | true => [] | false => (match Nat.blt i 199 with | true => [] | false => [])) | false => (match Nat.blt i 202 with | true => (match Nat.blt i 201 with | true => [] | false => []) | false => (match Nat.blt i 203 with | true => [] | false => []))))))))
def s_exc (i : Nat) : String := match i with
  | 0 => "java/lang/IllegalStateException"
  | 1 => "java/lang/IllegalArgumentException"
  | 2 => "java/lang/IndexOutOfBoundsException"
  | 3 => "java/lang/ArithmeticException"
  | 4 => "java/lang/UnsupportedOperationException"
  | 5 => "java/util/NoSuchElementException"
  | _ => ""
def s_cw (i : Nat) : List Nat := match i with
  | 1 => [1556, 1558, 1560, 1562]
  | 7 => [1649, 1651, 1653, 1655]
  | 8 => [202, 198, 200]
  | 9 => [921, 923, 925, 927, 929, 931, 933, 935, 937, 939, 941]
  | 10 => [800, 802, 804, 806, 808, 810, 812, 814, 816, 818, 820]
  | 11 => [206]
  | 12 => [836, 838, 840]
  | 13 => [879, 881, 883, 885, 887, 889, 891, 893, 895]
  | 14 => [853, 855, 857]
  | 15 => [222, 224, 226, 228, 230, 232]
  | 16 => [538, 540, 542, 544, 546]
  | 17 => [283, 285, 287, 289, 291, 293]
  | 18 => [255, 257, 259, 261, 263, 265]
  | 19 => [307, 309, 311, 313, 315, 317, 319, 321, 323, 325, 327]
  | 20 => [2138, 2140, 2142, 2144, 2146, 2148, 2150, 2152, 2154, 2156, 2158, 2160, 2162, 2164, 2166, 2168, 2170, 2172, 2174, 2176, 2178, 2180, 2182, 2184, 2186, 2188, 2190]
  | 21 => [1612]
  | 22 => [1574, 1576, 1578, 1580, 1582, 1584, 1586, 1588, 1590]
  | _ => []
def s_caw : List Nat := [2607, 2597, 2587, 2588, 2589, 2608, 2606, 2603, 2592, 2609, 2610, 2591, 2611, 2613, 2612, 2593, 2599, 2595, 2594, 2590, 2614, 2600, 2596]
def s_cus : List Nat := [1, 7, 8, 9, 10, 11, 12, 13, 14, 15, 16, 17, 18, 19, 20, 21, 22]
def s_ic (i : Nat) : Nat := match i with
  | 0 => 61
  | 1 => 110
  | 2 => 391
  | 3 => 104
  | 5 => 226
  | _ => 0
def s_aw (i : Nat) : List Nat := match i with
  | 0 => [128, 474, 483, 492, 495, 497, 475, 476, 168, 169, 477, 482, 493, 510, 464, 511, 466, 512, 468, 478, 480, 470, 499, 500, 501, 502, 455, 502, 503, 504, 505, 457, 505, 506, 507, 475, 459, 498, 453, 454, 461, 462, 463, 465, 467, 469, 473, 472, 471]
  | 1 => [128, 474, 483, 492, 495, 497, 475, 476, 168, 169, 477, 482, 493, 510, 464, 511, 466, 512, 468, 478, 480, 470, 645, 646, 647, 502, 455, 502, 503, 504, 505, 457, 505, 506, 507, 475, 459, 644, 636, 637, 638, 487, 639, 640, 641, 642, 473, 472, 643]
  | 2 => [128, 474, 483, 492, 495, 497, 475, 476, 168, 169, 477, 482, 493, 510, 464, 511, 466, 512, 468, 478, 480, 470, 985, 986, 987, 502, 455, 502, 503, 504, 505, 457, 505, 506, 507, 475, 459, 984, 976, 977, 978, 488, 979, 980, 981, 982, 473, 472, 983]
  | 3 => [128, 474, 483, 492, 495, 497, 475, 476, 168, 169, 477, 482, 493, 510, 464, 511, 466, 512, 468, 478, 480, 470, 740, 741, 742, 502, 455, 502, 503, 504, 505, 457, 505, 506, 507, 475, 459, 739, 701, 720, 721, 485, 715, 716, 718, 714, 473, 472, 713]
  | 5 => [128, 474, 483, 492, 495, 497, 475, 476, 168, 169, 477, 482, 493, 510, 464, 511, 466, 512, 468, 478, 480, 470, 1068, 1069, 1070, 502, 455, 502, 503, 504, 505, 457, 505, 506, 507, 475, 459, 1067, 1059, 1060, 1061, 491, 1062, 1063, 1064, 1065, 473, 472, 1066]
  | _ => []
def s_cx (i : Nat) : Nat := (match Nat.blt i 102 with | true => (match Nat.blt i 51 with | true => (match Nat.blt i 25 with | true => (match Nat.blt i 12 with | true => (match Nat.blt i 6 with | true => (match Nat.blt i 3 with | true => (match Nat.blt i 1 with | true => 0 | false => (match Nat.blt i 2 with | true => 166 | false => 970)) | false => (match Nat.blt i 4 with | true => 773 | false => (match Nat.blt i 5 with | true => 1421 | false => 1197))) | false => (match Nat.blt i 9 with | true => (match Nat.blt i 7 with | true => 1271 | false => (match Nat.blt i 8 with | true => 1246 | false => 1260)) | false => (match Nat.blt i 10 with | true => 1239 | false => (match Nat.blt i 11 with | true => 397 | false => 1228)))) | false => (match Nat.blt i 18 with | true => (match Nat.blt i 15 with | true => (match Nat.blt i 13 with | true => 1056 | false => (match Nat.blt i 14 with | true => 341 | false => 1090)) | false => (match Nat.blt i 16 with | true => 1356 | false => (match Nat.blt i 17 with | true => 1508 | false => 1377))) | false => (match Nat.blt i 21 with | true => (match Nat.blt i 19 with | true => 1119 | false => (match Nat.blt i 20 with | true => 1221 | false => 360)) | false => (match Nat.blt i 23 with | true => (match Nat.blt i 22 with | true => 1414 | false => 363) | false => (match Nat.blt i 24 with | true => 419 | false => 752))))) | false => (match Nat.blt i 38 with | true => (match Nat.blt i 31 with | true => (match Nat.blt i 28 with | true => (match Nat.blt i 26 with | true => 974 | false => (match Nat.blt i 27 with | true => 633 | false => 689)) | false => (match Nat.blt i 29 with | true => 1519 | false => (match Nat.blt i 30 with | true => 1249 | false => 652))) | false => (match Nat.blt i 34 with | true => (match Nat.blt i 32 with | true => 692 | false => (match Nat.blt i 33 with | true => 1115 | false => 1101)) | false => (match Nat.blt i 36 with | true => (match Nat.blt i 35 with | true => 1007 | false => 1083) | false => (match Nat.blt i 37 with | true => 1432 | false => 1398)))) | false => (match Nat.blt i 44 with | true => (match Nat.blt i 41 with | true => (match Nat.blt i 39 with | true => 1300 | false => (match Nat.blt i 40 with | true => 1500 | false => 1428)) | false => (match Nat.blt i 42 with | true => 451 | false => (match Nat.blt i 43 with | true => 629 | false => 1000))) | false => (match Nat.blt i 47 with | true => (match Nat.blt i 45 with | true => 1282 | false => (match Nat.blt i 46 with | true => 1108 | false => 1391)) | false => (match Nat.blt i 49 with | true => (match Nat.blt i 48 with | true => 1034 | false => 1446) | false => (match Nat.blt i 50 with | true => 1489 | false => 1289)))))) | false => (match Nat.blt i 76 with | true => (match Nat.blt i 63 with | true => (match Nat.blt i 57 with | true => (match Nat.blt i 54 with | true => (match Nat.blt i 52 with | true => 393 | false => (match Nat.blt i 53 with | true => 731 | false => 749)) | false => (match Nat.blt i 55 with | true => 765 | false => (match Nat.blt i 56 with | true => 333 | false => 825))) | false => (match Nat.blt i 60 with | true => (match Nat.blt i 58 with | true => 779 | false => (match Nat.blt i 59 with | true => 174 | false => 440)) | false => (match Nat.blt i 61 with | true => 524 | false => (match Nat.blt i 62 with | true => 345 | false => 736)))) | false => (match Nat.blt i 69 with | true => (match Nat.blt i 66 with | true => (match Nat.blt i 64 with | true => 830 | false => (match Nat.blt i 65 with | true => 864 | false => 847)) | false => (match Nat.blt i 67 with | true => 213 | false => (match Nat.blt i 68 with | true => 758 | false => 337))) | false => (match Nat.blt i 72 with | true => (match Nat.blt i 70 with | true => 353 | false => (match Nat.blt i 71 with | true => 357 | false => 528)) | false => (match Nat.blt i 74 with | true => (match Nat.blt i 73 with | true => 272 | false => 243) | false => (match Nat.blt i 75 with | true => 947 | false => 769))))) | false => (match Nat.blt i 89 with | true => (match Nat.blt i 82 with | true => (match Nat.blt i 79 with | true => (match Nat.blt i 77 with | true => 1417 | false => (match Nat.blt i 78 with | true => 1193 | false => 1267)) | false => (match Nat.blt i 80 with | true => 1242 | false => (match Nat.blt i 81 with | true => 1256 | false => 1235))) | false => (match Nat.blt i 85 with | true => (match Nat.blt i 83 with | true => 1224 | false => (match Nat.blt i 84 with | true => 1051 | false => 1086)) | false => (match Nat.blt i 87 with | true => (match Nat.blt i 86 with | true => 1352 | false => 1504) | false => (match Nat.blt i 88 with | true => 1373 | false => 1217)))) | false => (match Nat.blt i 95 with | true => (match Nat.blt i 92 with | true => (match Nat.blt i 90 with | true => 1410 | false => (match Nat.blt i 91 with | true => 685 | false => 1515)) | false => (match Nat.blt i 93 with | true => 1111 | false => (match Nat.blt i 94 with | true => 1097 | false => 1003))) | false => (match Nat.blt i 98 with | true => (match Nat.blt i 96 with | true => 1079 | false => (match Nat.blt i 97 with | true => 1394 | false => 1296)) | false => (match Nat.blt i 100 with | true => (match Nat.blt i 99 with | true => 1496 | false => 1424) | false => (match Nat.blt i 101 with | true => 446 | false => 623))))))) | false => (match Nat.blt i 153 with | true => (match Nat.blt i 127 with | true => (match Nat.blt i 114 with | true => (match Nat.blt i 108 with | true => (match Nat.blt i 105 with | true => (match Nat.blt i 103 with | true => 996 | false => (match Nat.blt i 104 with | true => 1278 | false => 1104)) | false => (match Nat.blt i 106 with | true => 1387 | false => (match Nat.blt i 107 with | true => 1030 | false => 1442))) | false => (match Nat.blt i 111 with | true => (match Nat.blt i 109 with | true => 1485 | false => (match Nat.blt i 110 with | true => 1285 | false => 699)) | false => (match Nat.blt i 112 with | true => 745 | false => (match Nat.blt i 113 with | true => 761 | false => 1529)))) | false => (match Nat.blt i 120 with | true => (match Nat.blt i 117 with | true => (match Nat.blt i 115 with | true => 2196 | false => (match Nat.blt i 116 with | true => 2076 | false => 2483)) | false => (match Nat.blt i 118 with | true => 2303 | false => (match Nat.blt i 119 with | true => 2396 | false => 2384))) | false => (match Nat.blt i 123 with | true => (match Nat.blt i 121 with | true => 2392 | false => (match Nat.blt i 122 with | true => 2380 | false => 2554)) | false => (match Nat.blt i 125 with | true => (match Nat.blt i 124 with | true => 2376 | false => 2275) | false => (match Nat.blt i 126 with | true => 2250 | false => 1987))))) | false => (match Nat.blt i 140 with | true => (match Nat.blt i 133 with | true => (match Nat.blt i 130 with | true => (match Nat.blt i 128 with | true => 1991 | false => (match Nat.blt i 129 with | true => 2258 | false => 2456)) | false => (match Nat.blt i 131 with | true => 2560 | false => (match Nat.blt i 132 with | true => 2466 | false => 2461))) | false => (match Nat.blt i 136 with | true => (match Nat.blt i 134 with | true => 2371 | false => (match Nat.blt i 135 with | true => 1628 | false => 2479)) | false => (match Nat.blt i 138 with | true => (match Nat.blt i 137 with | true => 2569 | false => 1690) | false => (match Nat.blt i 139 with | true => 1687 | false => 2565)))) | false => (match Nat.blt i 146 with | true => (match Nat.blt i 143 with | true => (match Nat.blt i 141 with | true => 1623 | false => (match Nat.blt i 142 with | true => 2200 | false => 2388)) | false => (match Nat.blt i 144 with | true => 2516 | false => (match Nat.blt i 145 with | true => 2271 | false => 2262))) | false => (match Nat.blt i 149 with | true => (match Nat.blt i 147 with | true => 2224 | false => (match Nat.blt i 148 with | true => 2254 | false => 2475)) | false => (match Nat.blt i 151 with | true => (match Nat.blt i 150 with | true => 2427 | false => 2545) | false => (match Nat.blt i 152 with | true => 2487 | false => 1600)))))) | false => (match Nat.blt i 178 with | true => (match Nat.blt i 165 with | true => (match Nat.blt i 159 with | true => (match Nat.blt i 156 with | true => (match Nat.blt i 154 with | true => 1619 | false => (match Nat.blt i 155 with | true => 2205 | false => 2401)) | false => (match Nat.blt i 157 with | true => 2266 | false => (match Nat.blt i 158 with | true => 2470 | false => 2245))) | false => (match Nat.blt i 162 with | true => (match Nat.blt i 160 with | true => 1710 | false => (match Nat.blt i 161 with | true => 2512 | false => 2529)) | false => (match Nat.blt i 163 with | true => 2406 | false => (match Nat.blt i 164 with | true => 1596 | false => 2550)))) | false => (match Nat.blt i 171 with | true => (match Nat.blt i 168 with | true => (match Nat.blt i 166 with | true => 1705 | false => (match Nat.blt i 167 with | true => 1714 | false => 2072)) | false => (match Nat.blt i 169 with | true => 1803 | false => (match Nat.blt i 170 with | true => 2085 | false => 1606))) | false => (match Nat.blt i 174 with | true => (match Nat.blt i 172 with | true => 1540 | false => (match Nat.blt i 173 with | true => 1728 | false => 1732)) | false => (match Nat.blt i 176 with | true => (match Nat.blt i 175 with | true => 1753 | false => 1721) | false => (match Nat.blt i 177 with | true => 1810 | false => 382))))) | false => (match Nat.blt i 191 with | true => (match Nat.blt i 184 with | true => (match Nat.blt i 181 with | true => (match Nat.blt i 179 with | true => 389 | false => (match Nat.blt i 180 with | true => 1849 | false => 2308)) | false => (match Nat.blt i 182 with | true => 2312 | false => (match Nat.blt i 183 with | true => 2316 | false => 1845))) | false => (match Nat.blt i 187 with | true => (match Nat.blt i 185 with | true => 1537 | false => (match Nat.blt i 186 with | true => 1725 | false => 1718)) | false => (match Nat.blt i 189 with | true => (match Nat.blt i 188 with | true => 1807 | false => 1756) | false => (match Nat.blt i 190 with | true => 2323 | false => 2320)))) | false => (match Nat.blt i 197 with | true => (match Nat.blt i 194 with | true => (match Nat.blt i 192 with | true => 2328 | false => (match Nat.blt i 193 with | true => 186 | false => 183)) | false => (match Nat.blt i 195 with | true => 180 | false => (match Nat.blt i 196 with | true => 552 | false => 556))) | false => (match Nat.blt i 200 with | true => (match Nat.blt i 198 with | true => 560 | false => (match Nat.blt i 199 with | true => 564 | false => 1512)) | false => (match Nat.blt i 202 with | true => (match Nat.blt i 201 with | true => 1638 | false => 349) | false => (match Nat.blt i 203 with | true => 1643 | false => 1667))))))))
abbrev s_M : Nat := 204
end
section
/-! THE WORLD ROUND A RUN: what holds of the cells from before, where a method begins -/
/-- the statement's words, and one more: a private method is selected through a class below its own -/
def s_tbl : List Cond := Cond.selects RJ4 yJ5_ensureCapacityInternal_d00df yJ5_ensureCapacityInternal_d00df :: lw_tbl
theorem s_selp {C : String} {y : MethodName} {s : State} {args : Array Value} {n : Nat} (hy : y.cls ≠ "java/lang/invoke/MethodHandle" ∧ y.cls ≠ "java/lang/invoke/VarHandle")
    (hins : (Cond.instantiable C n).before args s = true) (hpriv : (Cond.privateMethod y).before args s = true) (hinst : (Cond.instanceMethod y).before args s = true) (hsame : (Cond.sameMethod y.cls y.cls y.name y.desc).before args s = true) :
    (Cond.selects C y y).before args s = true := by
  obtain ⟨c, k, hc, hk, -, -, -, -⟩ := Cond.instantiable_spec hins
  obtain ⟨mk, methM, hnamed, hmethM, -, -⟩ := Cond.instanceMethod_spec hinst
  have hfound : s.methodFound? y.cls y.name y.desc = some mk := State.methodFound?_of_named hnamed hy
  have hcls : s.vm.findClass y.cls = some mk.cls := findClass_of_methodNamed hnamed
  have hsel : selectMethod {} s.vm c mk = .method mk := selectMethod_private hmethM (Cond.privateMethod_at hpriv mk methM hnamed hmethM)
  have hni : (s.vm.classes[mk.cls]?).any (!·.isInterface) = true := by
    have h := hsame
    have hn2 : s.methodNamed? ⟨y.cls, y.name, y.desc⟩ = some mk := hnamed
    simp only [Cond.before, Cond.holds, Cond.value, hcls, hfound, hn2] at h
    simpa using h
  simp only [Cond.before, Cond.holds, Cond.value, hc, hfound, hnamed, hsel]
  simpa using hni
def s_U : List Cond := s_tbl.filter goodWord
theorem s_U_in {w : Cond} (h : w ∈ s_tbl) (g : goodWord w = true) : w ∈ s_U := List.mem_filter.mpr ⟨h, g⟩
def s_cd (i : Nat) : Cond := match s_hx i with
  | [] => .code (s_y i) (s_by i) (s_meta i).1 (s_rt i)
  | z :: r => .codeWith (s_y i) (s_by i) (s_meta i).1 (s_rt i) (z :: r)
def s_ws (i : Nat) : List Cond := s_cd i :: s_U
def s_rm (i : Nat) : Room := { frames := (s_meta i).2.1, cells := (s_meta i).2.2.1, slots := (s_meta i).2.2.2.1, locals := (s_meta i).2.2.2.2.1 }
def s_tys (tc : Nat → ClassId) : List (ClassId × FieldType) := [(tc 0, .int), (tc 1, .char), (tc 2, .byte), (tc 3, .boolean), (tc 4, .long), (tc 5, .double), (tc 6, .object "java/lang/Object")]
def s_nk (w : Cond) : Bool := match w with
  | .fieldLinkNest .. => true
  | .methodLinkNest .. => true
  | .castable .. => true
  | .declares .. => true
  | _ => false
def s_iX : MethodName := ⟨"java/util/Iterator", "hasNext", "()Z"⟩
def s_iY : MethodName := ⟨"java/util/ArrayList$Itr", "hasNext", "()Z"⟩
def s_EnvV (D : va_G) (tc : Nat → ClassId) (ξ : Nat → Nat) (U : State) : Prop :=
  va_K D vwCl (s_tys tc) U ∧ (∀ w ∈ s_tbl, s_nk w = true → va_Nw w U) ∧ va_Fw "java/util/ArrayList$Itr" s_iX s_iY U ∧ va_AO "java/lang/Object" U ∧ vk_R "TaperhallModel" 361 "fgbe" (ξ 2) U ∧ ∀ a b, a < 6 → b < 6 → a ≠ b → va_Nc (s_exc a) (s_exc b) U
def s_EnvZ (ξ : Nat → Nat) (A : Nat → Prop) (U : State) (H : Heap) : Prop :=
  va_Z "java/util/ArrayList" "DEFAULTCAPACITY_EMPTY_ELEMENTDATA" "[Ljava/lang/Object;" (.ref (ξ 1)) A U H ∧ va_T (.object "java/lang/Object") (ξ 1) 0 (fun _ => .null) A U H ∧ va_Z "java/lang/String" "COMPACT_STRINGS" "Z" (.int 1) A U H ∧
  vx_Zq Bundle.tN "UNASSIGNED_STACK" Bundle.steD A U H ∧ vx_Zq Bundle.tN "SUPPRESSED_SENTINEL" Bundle.listD A U H ∧
  va_O "java/lang/String" (ξ 2) A U H ∧ va_OF "java/lang/String" "coder" "B" (.int 0) (ξ 2) A U H ∧ va_OF "java/lang/String" "value" "[B" (.ref (ξ 3)) (ξ 2) A U H ∧ va_T .byte (ξ 3) 4 (fun j => .int (Int32.ofInt (s_fg j))) A U H
def s_Env (D : va_G) (tc : Nat → ClassId) (ξ : Nat → Nat) (xs : Nat → Int32) (A : Nat → Prop) (U : State) : Prop :=
  s_EnvV D tc ξ U ∧ s_EnvZ ξ A U U.heap ∧ va_X (ξ 0) (xs 7).toNatClampNeg xs U U.heap ∧ ξ 0 < U.heap.size ∧ ¬ A (ξ 0)
theorem s_nk_warm {s U : State} (hW : s.WarmedH U.vm) {w : Cond} (hk : s_nk w = true) (h : va_Nw w s) : va_Nw w U := by
  cases w <;> first | exact va_Nw.warmF hW h | exact va_Nw.warmM hW h | exact va_Nw.warmD hW h | exact va_Nw.warmC hW h | exact absurd hk (by simp [s_nk])
theorem s_EnvV.go {D : va_G} {tc : Nat → ClassId} {ξ : Nat → Nat} {s U : State} (h : s_EnvV D tc ξ s) (hW : s.WarmedH U.vm) : s_EnvV D tc ξ U :=
  ⟨va_K.moved hW.alike h.1, fun w hw hk => s_nk_warm hW hk (h.2.1 w hw hk), va_Fw.moved ⟨by decide, by decide⟩ hW.alike h.2.2.1, va_AO.moved hW.alike h.2.2.2.1, vk_R.warm hW h.2.2.2.2.1, fun a b ha hb hab => (h.2.2.2.2.2 a b ha hb hab).moved hW.alike⟩
theorem s_EnvZ.go {ξ : Nat → Nat} {A B : Nat → Prop} {s U : State} {H H1 : Heap} (h : s_EnvZ ξ A s H) (hW : s.vm.Alike U.vm) (hq : ∀ a : Nat, a < H.size → ¬ A a → H1[a]? = H[a]?) (hAB : ∀ q, B q → A q) : s_EnvZ ξ B U H1 := by
  obtain ⟨h1, h2, h3, h4, h5, h6, h7, h8, h9⟩ := h
  exact ⟨((va_Z.moved hW h1).kept hq).narrow hAB, ((va_T.moved hW h2).kept hq).narrow hAB, ((va_Z.moved hW h3).kept hq).narrow hAB, ((vx_Zq.moved hW h4).kept hq).narrow hAB, ((vx_Zq.moved hW h5).kept hq).narrow hAB, ((va_O.moved hW h6).kept hq).narrow hAB, ((va_OF.moved hW h7).kept hq).narrow hAB, ((va_OF.moved hW h8).kept hq).narrow hAB, ((va_T.moved hW h9).kept hq).narrow hAB⟩
theorem s_Env.go {D : va_G} {tc : Nat → ClassId} {ξ : Nat → Nat} {xs : Nat → Int32} {A B : Nat → Prop} {s U : State} (h : s_Env D tc ξ xs A s) (hW : s.WarmedH U.vm) (hz : s.heap.size ≤ U.heap.size) (hq : ∀ a : Nat, a < s.heap.size → ¬ A a → U.heap[a]? = s.heap[a]?) (hAB : ∀ q, B q → A q) : s_Env D tc ξ xs B U := by
  obtain ⟨h1, h2, ⟨scr, x1, x2, x3⟩, h4, h5⟩ := h
  refine ⟨h1.go hW, h2.go hW.alike hq hAB, ⟨scr, ?_, State.isArrayOf_alike hW.alike x2, x3⟩, Nat.lt_of_lt_of_le h4 hz, fun z => h5 (hAB _ z)⟩
  rw [hq _ h4 h5]
  exact x1
/-- what is known of a method's own run -/
def s_Cx (mi : Nat) (p : Program) (l : Launch) (R : Room) (s : State) (m : MethodId) (args : Array Value) (meth : Method) (c : Code) : Prop :=
  p.tables.exec = Jvm.exec ∧ c.code = s_by mi ∧ c.maxLocals = (s_meta mi).1 ∧ meth.sig.returnType = s_rt mi ∧ meth.locks = false ∧ s.vm.findClass (s_own mi) = some m.cls ∧ (∀ w ∈ s_U, w.before args s = true) ∧
  c.exceptionTable.toList = tableOf (s_hx mi) ∧ meth.name = (s_y mi).name ∧ l.stackTraces = false ∧ (s_meta mi).2.1 ≤ R.frames ∧ (s_meta mi).2.2.1 ≤ R.cells ∧ (s_meta mi).2.2.2.1 ≤ R.slots ∧ (s_meta mi).2.2.2.2.1 ≤ R.locals
def s_Qc (D : va_G) (tc : Nat → ClassId) (ξ : Nat → Nat) (ρ : Nat → Int) (k : sZ → Bool) (A : Nat → Prop) (α : Nat → Nat) (b : Nat) : Array Value → State → Outcome → State → Prop := fun _ st oc t =>
  (∃ (z : sZ) (α' : Nat → Nat), k z = true ∧ s_in ρ z.2.2.2 ∧ s_ag α α' b ∧ b ≤ z.2.2.1.length ∧ ((z.1 = 0 ∧ oc = .returned none) ∨ (z.1 = 1 ∧ oc = .returned (some (s_v ρ α' ξ z.2.1)))) ∧ va_P D vwCl (s_h tc ρ α' ξ z.2.2.1) t.heap ∧ va_D A (s_h tc ρ α' ξ z.2.2.1)) ∧ va_F A st t
def s_Xc (D : va_G) (tc : Nat → ClassId) (ξ : Nat → Nat) (ρ : Nat → Int) (k : sZ → Bool) (A : Nat → Prop) (α : Nat → Nat) (b : Nat) : String → State → State → Prop := fun E st t =>
  (∃ (z : sZ) (α' : Nat → Nat) (x : Nat), k z = true ∧ s_in ρ z.2.2.2 ∧ s_ag α α' b ∧ b ≤ z.2.2.1.length ∧ z.1 = x + 2 ∧ E = s_exc x ∧ va_P D vwCl (s_h tc ρ α' ξ z.2.2.1) t.heap ∧ va_D A (s_h tc ρ α' ξ z.2.2.1)) ∧ va_F A st t
def s_ρ (ρ : Nat → Int) (xs : Nat → Int32) : Prop := ρ 0 = 0 ∧ (∀ j : Nat, j < 6 → ρ (j + 1) = (xs j).toInt ∧ Int32.ofInt (ρ (j + 11)) = ((xs j).toUInt32 % 65536).toInt32) ∧ Int32.ofInt (ρ 21) = xs 0 &&& 63 ∧ (256 ≤ ρ 13 → ρ 13 ≤ 65535 → ρ 33 = ρ 13 / 256) ∧ ρ 22 = ((xs 7).toNatClampNeg : Int) ∧ (xs 7).toNatClampNeg ≤ 6
/-- what 'true' is to mean -/
def s_Snd (l : Launch) (D : va_G) (tc : Nat → ClassId) (ξ : Nat → Nat) (xs : Nat → Int32) (ρ : Nat → Int) (mi pc : Nat) (lo : sL) (st : List sV) (h : List sE) (iv : sI) (c n : Nat) (k : sZ → Bool) : Prop :=
  ∀ {p : Program} {e : Env} {R : Room} {s : State} {m : MethodId} {args : Array Value} {below : List Frame} {meth : Method} {cc : Code} {A : Nat → Prop} {α α0 : Nat → Nat} {b0 : Nat} {H : Heap} {locs : List Loc} {ls : Array Slot},
    s_Cx mi p l R s m args meth cc → s_in ρ iv → s_Env D tc ξ xs A s → (∀ q, s.heap.size ≤ q → A q) → va_P D vwCl (s_h tc ρ α ξ h) H → va_D A (s_h tc ρ α ξ h) → va_S A s.heap H locs → lv_has ls (s_meta mi).1 (s_ll ρ α ξ lo) → b0 ≤ h.length → s_ag α0 α b0 →
    W p l e R s m args below meth cc H locs c n (vx_MQ below (s_Qc D tc ξ ρ k A α0 b0) (s_Xc D tc ξ ρ k A α0 b0) args s (s_meta mi).2.2.1 (s_meta mi).2.2.2.1 A) (F0 m pc ls (st.map (s_v ρ α ξ)))
/-- ... of a program's every answer -/
def s_All (l : Launch) (D : va_G) (tc : Nat → ClassId) (ξ : Nat → Nat) (xs : Nat → Int32) (ρ : Nat → Int) (f : sF) : Prop :=
  ∀ mi pc lo st h iv c n k, mi < s_M → f mi pc lo st h iv c n k = true → s_Snd l D tc ξ xs ρ mi pc lo st h iv c n k
end
section
/-! THE ROWS OF THE TABLES AGAINST THE BYTES AND THE STATEMENT'S WORDS: a program that looks, and what it finds -/
def s_hd : List Cond := Cond.selects RJ4 yJ5_ensureCapacityInternal_d00df yJ5_ensureCapacityInternal_d00df :: k2_sels lw_privs
def s_cks : List (List Cond) := [tables_1_1, tables_1_2, tables_1_3, tables_1_4, tables_1_5, tables_1_6, tables_1_7, tables_1_8, tables_1_9, tables_1_10, tables_1_11]
def s_ats (i : Nat) : Option Cond := match Nat.blt i 114 with
  | true => s_hd[i]?
  | false => match s_cks[(i - 114) / 240]? with
    | some r => r[(i - 114) % 240]?
    | none => none
def s_wat (i : Nat) (w : Cond) : Bool := decide (s_ats i = some w)
def s_gat (i : Nat) (w : Cond) : Bool := s_wat i w && goodWord w
def s_off (e : sN) (off : Int) : Bool := decide ((e.1 : Int) + off = (s_tgt e.2.2.2 : Int))
def s_host (i : Nat) : String := match i with
  | 1 => "Taperhall"
  | 2 => "TaperhallModel"
  | _ => "java/util/ArrayList"
def s_pre : List Cond → List Nat → Bool
  | [], _ => true
  | w :: r, i :: is => s_gat i w && s_pre r is
  | _ :: _, [] => false
def s_np (y : MethodName) (n : Nat) : Bool := decide ((parseMethodDescriptor y.desc).map (fun d => d.parameters.length) = some n)
def s_mh (c : String) : Bool := decide (c ≠ "java/lang/invoke/MethodHandle" ∧ c ≠ "java/lang/invoke/VarHandle")
def s_cok (ci : Nat) : Bool := match vwCl[ci]? with
  | some r => s_pre (u_ws r.1 r.2.1 r.2.2) (s_cw ci)
  | none => false
/-- the field's link: by its own class, or by the class named where the field is the same -/
def s_fl (mi ix ci k wi nest sf : Nat) : Bool := match vwCl[ci]? with
  | some r => Nat.blt k r.2.2 && (s_cus.any (Nat.beq ci) && (match nest with
    | 0 => match sf with
      | 0 => s_gat wi (.fieldLink (s_own mi) ix (r.2.1 k).1 (r.2.1 k).2.1 (r.2.1 k).2.2.1)
      | _ => s_gat wi (.fieldLink (s_own mi) ix r.1 (r.2.1 k).2.1 (r.2.1 k).2.2.1) && s_gat sf (.sameField r.1 (r.2.1 k).1 (r.2.1 k).2.1 (r.2.1 k).2.2.1)
    | _ => match sf with
      | 0 => s_wat wi (.fieldLinkNest (s_own mi) ix (r.2.1 k).1 (r.2.1 k).2.1 (r.2.1 k).2.2.1 (s_host nest))
      | _ => s_wat wi (.fieldLinkNest (s_own mi) ix r.1 (r.2.1 k).2.1 (r.2.1 k).2.2.1 (s_host nest)) && s_gat sf (.sameField r.1 (r.2.1 k).1 (r.2.1 k).2.1 (r.2.1 k).2.2.1)))
  | none => false
def s_pty (d : String) (t : Nat) : Bool := match t with
  | 0 => decide (parseFieldDescriptor d = some .int)
  | 1 => decide (parseFieldDescriptor d = some .boolean)
  | 2 => decide (parseFieldDescriptor d = some .char)
  | 3 => decide (parseFieldDescriptor d = some .long)
  | 5 => decide (parseFieldDescriptor d = some .byte)
  | 4 => match parseFieldDescriptor d with
    | some (.object _) => true
    | some (.array _) => true
    | _ => false
  | _ => false
def s_plk (mi ix : Nat) (info : List Nat) : Bool := s_fl mi ix (s_nth info 0) (s_nth info 1) (s_nth info 3) (s_nth info 4) (s_nth info 6) && (match vwCl[s_nth info 0]? with
  | some r => s_pty (r.2.1 (s_nth info 1)).2.2.1 (s_nth info 2) && (match (r.2.1 (s_nth info 1)).2.2.2 with
    | true => decide ((s_y mi).name = "<init>" ∧ (r.2.1 (s_nth info 1)).1 = s_own mi) && Nat.beq (s_nth info 4) 0
    | false => true)
  | none => false)
def s_cln (ci : Nat) : String := match ci with
  | 0 => ""
  | 1001 => "java/lang/String"
  | k + 1 => match vwCl[k]? with
    | some r => r.1
    | none => ""
/-- a call's words: which they are, and that they stand -/
def s_cpre (mi ix : Nat) (info : List Nat) : List Cond := match s_nth info 0 with
  | 1 => [.methodLink (s_own mi) ix (s_y (s_nth info 1)), .static (s_y (s_nth info 1)), .initialized (s_y (s_nth info 1)).cls]
  | 2 => [.methodLink (s_own mi) ix (s_y (s_nth info 1)), .instanceMethod (s_y (s_nth info 1)), .initialized (s_y (s_nth info 1)).cls]
  | 5 => [.methodLink (s_own mi) ix (s_y (s_nth info 1)), .sameMethod (s_y (s_nth info 1)).cls (s_y (s_nth info 1)).cls (s_y (s_nth info 1)).name (s_y (s_nth info 1)).desc, .superclass (s_own mi) (s_y (s_nth info 1)).cls, .instanceMethod (s_y (s_nth info 1)), .initialized (s_y (s_nth info 1)).cls]
  | 12 => [.instanceMethod (s_y (s_nth info 1)), .initialized (s_y (s_nth info 1)).cls]
  | 3 => [.methodLink (s_own mi) ix (s_y (s_nth info 1)), .instanceMethod (s_y (s_nth info 1)), .selects (s_cln (s_nth info 3)) (s_y (s_nth info 1)) (s_y (s_nth info 1)), .initialized (s_cln (s_nth info 3))]
  | 6 => [.methodLink (s_own mi) ix (s_y (s_nth info 1)), .sameMethod (s_y (s_nth info 1)).cls (s_y (s_nth info 1)).cls (s_y (s_nth info 1)).name (s_y (s_nth info 1)).desc, .selects (s_cln (s_nth info 3)) (s_y (s_nth info 1)) (s_y (s_nth info 1)), .instanceMethod (s_y (s_nth info 1)), .initialized (s_y (s_nth info 1)).cls]
  | 13 => [.instanceMethod (s_y (s_nth info 1)), .selects (s_cln (s_nth info 3)) (s_y (s_nth info 1)) (s_y (s_nth info 1)), .initialized (s_y (s_nth info 1)).cls]
  | _ => [.methodLink (s_own mi) ix s_iX, .selects "java/util/ArrayList$Itr" s_iX s_iY, .instanceMethod s_iY, .initialized s_iY.cls]
def s_emp (l : List (Nat × Nat × Nat × Nat)) : Bool := match l with
  | [] => true
  | _ :: _ => false
/-- a receiver of a known class is asked for -/
def s_rci (ci : Nat) : Bool := match ci with
  | 0 => false
  | 1000 => false
  | _ + 1 => true
def s_clk (mi ix : Nat) (info : List Nat) : Bool := s_pre (s_cpre mi ix info) (info.drop 5) && ((Nat.blt 0 (s_nth info 1) && Nat.blt (s_nth info 1) s_M) && (s_mh (s_y (s_nth info 1)).cls && (match s_nth info 0 with
  | 1 => s_np (s_y (s_nth info 1)) (s_nth info 2)
  | 2 => s_np (s_y (s_nth info 1)) (s_nth info 2 - 1) && (Nat.blt 0 (s_nth info 2) && (decide ((s_y (s_nth info 1)).name = "<init>" ∧ s_rt (s_nth info 1) = none) && (s_emp (s_hx (s_nth info 1)) && Nat.beq (s_nth info 3) 1000)))
  | 5 => s_np (s_y (s_nth info 1)) (s_nth info 2 - 1) && (Nat.blt 0 (s_nth info 2) && (decide ((s_y (s_nth info 1)).name ≠ "<init>") && (s_emp (s_hx (s_nth info 1)) && (s_rci (s_nth info 3) && Nat.blt (s_nth info 3) 1000))))
  | 12 => s_np (s_y (s_nth info 1)) (s_nth info 2 - 1) && (Nat.blt 0 (s_nth info 2) && (decide ((s_y (s_nth info 1)).name = "<init>" ∧ s_rt (s_nth info 1) = none) && (s_emp (s_hx (s_nth info 1)) && Nat.beq (s_nth info 3) 1000 && s_wat ((info.drop 5).getLast?.getD 0) (.methodLinkNest (s_own mi) ix (s_y (s_nth info 1)) (s_host (s_nth info 4))))))
  | 3 => s_np (s_y (s_nth info 1)) (s_nth info 2 - 1) && (Nat.blt 0 (s_nth info 2) && (decide ((s_y (s_nth info 1)).cls = s_cln (s_nth info 3)) && (s_emp (s_hx (s_nth info 1)) && s_rci (s_nth info 3))))
  | 6 => s_np (s_y (s_nth info 1)) (s_nth info 2 - 1) && (Nat.blt 0 (s_nth info 2) && (s_emp (s_hx (s_nth info 1)) && s_rci (s_nth info 3)))
  | 13 => s_np (s_y (s_nth info 1)) (s_nth info 2 - 1) && (Nat.blt 0 (s_nth info 2) && (s_emp (s_hx (s_nth info 1)) && (s_rci (s_nth info 3) && s_wat ((info.drop 5).getLast?.getD 0) (.methodLinkNest (s_own mi) ix (s_y (s_nth info 1)) (s_host (s_nth info 4))))))
  | 4 => decide (s_y (s_nth info 1) = s_iY ∧ s_cln (s_nth info 3) = "java/util/ArrayList$Itr") && (Nat.beq (s_nth info 2) 1 && (s_emp (s_hx (s_nth info 1)) && s_rci (s_nth info 3)))
  | _ => false)))
def s_nms : List String := ["java/lang/RuntimeException", "java/lang/Exception"]
def s_pr2 : List Cond → List Nat → Bool
  | [], _ => true
  | w :: r, i :: is => s_wat i w && ((goodWord w || s_nk w) && (vx_ot w && s_pr2 r is))
  | _ :: _, [] => false
def s_ath (x : Nat) : Bool := s_pr2 (vx_at0 RX10 (s_ic x) (s_exc x) s_nms) (s_aw x)
def s_ate (x : Nat) : Bool := match x with
  | 0 => true
  | 1 => true
  | 2 => true
  | 3 => true
  | 5 => true
  | _ => false
def s_tlk (mi ik pc : Nat) (info : List Nat) : Bool := s_pre [.classLink (s_own mi) ik (s_exc (s_nth info 1)), .initialized (s_exc (s_nth info 1))] (info.drop 4) && (decide (s_own mi = RX10) && (Nat.beq (s_nth info 3) (s_ic (s_nth info 1)) && (s_ate (s_nth info 1) && (s_emp (s_hx mi) &&
  (decide (decode (s_by mi) (pc + 3) = .ok (.dup, 1)) && (decide (decode (s_by mi) (pc + 4) = .ok (.invokespecial (s_nth info 3), 3)) && decide (decode (s_by mi) (pc + 7) = .ok (.athrow, 1))))))))
def s_rty (t : Nat) : Option FieldType := match t with
  | 0 => some .int
  | 1 => some .boolean
  | 2 => some .char
  | 5 => some .byte
  | _ => none
def s_isR (r : Option FieldType) : Bool := match r with
  | some (.object _) => true
  | some (.array _) => true
  | _ => false
/-- a field of the four signs' text -/
def s_xlk (mi ix : Nat) (info : List Nat) : Bool := match s_nth info 4 with
  | 1 => s_gat (s_nth info 2) (.fieldLink (s_own mi) ix "java/lang/String" "value" "[B")
  | 2 => s_gat (s_nth info 2) (.fieldLink (s_own mi) ix "java/lang/String" "coder" "B")
  | _ => false
def s_lk (mi : Nat) (e : sN) : Bool := match e.2.1 with
  | .bipush v => decide ((Int8.ofInt v).toInt32 = Int32.ofInt v)
  | .sipush v => decide ((Int16.ofInt v).toInt32 = Int32.ofInt v)
  | .fconst v => Nat.beq v.val 0
  | .dconst v => Nat.beq v.val 0
  | .ifCond _ off => s_off e off
  | .if_icmp _ off => s_off e off
  | .if_acmp _ off => s_off e off
  | .goto off => s_off e off
  | .ifnull off => s_off e off
  | .ifnonnull off => s_off e off
  | .tableswitch d lo hi offs => s_off e d && (decide (hi - lo + 1 = (offs.size : Int)) && decide (offs.toList.map (fun o => (e.1 : Int) + o) = e.2.2.2.tail.map (fun t : Nat => (t : Int))))
  | .ldc ix => s_gat (s_nth e.2.2.2 2) (.constant (s_own mi) ix (Int32.ofInt (s_int (e.2.2.2.take 2))))
  | .ldc_w ix => match e.2.2.2 with
    | 2 :: _ => decide (s_own mi = "TaperhallModel" ∧ ix = 361)
    | _ => s_gat (s_nth e.2.2.2 2) (.constant (s_own mi) ix (Int32.ofInt (s_int (e.2.2.2.take 2))))
  | .ldc2_w ix => s_gat (s_nth e.2.2.2 2) (.constantLong (s_own mi) ix (Int64.ofInt (s_int (e.2.2.2.take 2))))
  | .getfield ix => match s_nth e.2.2.2 4 with
    | 0 => s_fl mi ix (s_nth e.2.2.2 0) (s_nth e.2.2.2 1) (s_nth e.2.2.2 2) (s_nth e.2.2.2 3) (s_nth e.2.2.2 5)
    | _ => s_xlk mi ix e.2.2.2
  | .putfield ix => s_plk mi ix e.2.2.2
  | .getstatic ix => match s_nth e.2.2.2 0 with
    | 1 => s_gat (s_nth e.2.2.2 1) (.fieldLink (s_own mi) ix "java/util/ArrayList" "DEFAULTCAPACITY_EMPTY_ELEMENTDATA" "[Ljava/lang/Object;")
    | _ => s_gat (s_nth e.2.2.2 1) (.fieldLink (s_own mi) ix "java/lang/String" "COMPACT_STRINGS" "Z")
  | .newarray a => s_pre [.arrayClass (Op.newarray.typeOf a)] e.2.2.2
  | .anewarray ix => s_gat (s_nth e.2.2.2 0) (.classLink (s_own mi) ix "java/lang/Object")
  | .new ix => match s_nth e.2.2.2 0 with
    | 0 => match vwCl[s_nth e.2.2.2 1]? with
      | some r => s_cus.any (Nat.beq (s_nth e.2.2.2 1)) && s_gat (s_nth e.2.2.2 2) (.classLink (s_own mi) ix r.1) && s_pre [.instantiable r.1 r.2.2, .initialized r.1] (e.2.2.2.drop 3)
      | none => false
    | _ => s_tlk mi ix e.1 e.2.2.2
  | .invokespecial ix => match s_nth e.2.2.2 0 with
    | 0 => s_gat (s_nth e.2.2.2 1) (.methodLink (s_own mi) ix Lib.objectInit) && s_pre [.instanceMethod Lib.objectInit, .code Lib.objectInit ⟨#[0xb1]⟩ 1 none] (e.2.2.2.drop 2)
    | 2 => s_clk mi ix e.2.2.2
    | 5 => s_clk mi ix e.2.2.2
    | 12 => s_clk mi ix e.2.2.2
    | _ => false
  | .invokestatic ix => Nat.beq (s_nth e.2.2.2 0) 1 && s_clk mi ix e.2.2.2
  | .invokevirtual ix => match s_nth e.2.2.2 0 with
    | 3 => s_clk mi ix e.2.2.2
    | 6 => s_clk mi ix e.2.2.2
    | 13 => s_clk mi ix e.2.2.2
    | _ => false
  | .invokeinterface ix _ => Nat.beq (s_nth e.2.2.2 0) 4 && s_clk mi ix e.2.2.2
  | .ireturn => decide (s_rt mi = s_rty (s_nth e.2.2.2 0))
  | .lreturn => decide (s_rt mi = some .long)
  | .freturn => decide (s_rt mi = some .float)
  | .dreturn => decide (s_rt mi = some .double)
  | .areturn => s_isR (s_rt mi)
  | .return_ => decide (s_rt mi = none)
  | _ => true
/-- an instruction's length -/
def s_ln (e : sN) : Nat := match e.2.1 with
  | .tableswitch .. => e.2.2.1 - e.1
  | .invokeinterface .. => 5
  | .bipush _ => 2
  | .ldc _ => 2
  | .newarray _ => 2
  | .iload _ => 2
  | .lload _ => 2
  | .aload _ => 2
  | .istore _ => 2
  | .lstore _ => 2
  | .astore _ => 2
  | .fstore _ => 2
  | .dstore _ => 2
  | .sipush _ => 3
  | .ldc_w _ => 3
  | .ldc2_w _ => 3
  | .iinc .. => 3
  | .ifCond .. => 3
  | .if_icmp .. => 3
  | .if_acmp .. => 3
  | .goto _ => 3
  | .ifnull _ => 3
  | .ifnonnull _ => 3
  | .getfield _ => 3
  | .putfield _ => 3
  | .getstatic _ => 3
  | .new _ => 3
  | .anewarray _ => 3
  | .invokespecial _ => 3
  | .invokestatic _ => 3
  | .invokevirtual _ => 3
  | _ => 1
def s_rok (mi : Nat) (e : sN) : Bool := decide (decode (s_by mi) e.1 = .ok (e.2.1, s_ln e)) && (Nat.beq e.2.2.1 (e.1 + s_ln e) && s_lk mi e)
/-- the handlers of a method: as the bytes have them, their classes linked -/
def s_hok (own : String) : List (Nat × Nat × Nat × Nat) → List (Nat × Nat × Nat × Nat) → List Nat → Bool
  | [], [], _ => true
  | a :: r, b :: r2, i :: j :: is => Nat.beq a.1 b.1 && (Nat.beq a.2.1 b.2.1 && (Nat.beq a.2.2.1 b.2.2.1 && (Nat.blt 0 a.2.2.2 && (Nat.blt b.2.2.2 6 && (s_gat i (.classLink own a.2.2.2 (s_exc b.2.2.2)) && (s_wat j (.castable (s_exc b.2.2.2) (s_exc b.2.2.2)) && s_hok own r r2 is))))))
  | _, _, _ => false
/-- of a method as a whole: its word stands, its name is plain, its handlers' classes are linked -/
def s_mok (mi : Nat) : Bool := s_wat (s_cx mi) (s_cd mi) && (goodWord (s_cd mi) && (plainFor (s_y mi) && (decide ((s_y mi).cls = s_own mi) && (s_hok (s_own mi) (s_hx mi) (s_meta mi).2.2.2.2.2 (s_hw mi) && (s_code mi).all (s_rok mi)))))
end
section
/-! THE TABLES' CHECKS, BY THE KERNEL -/
theorem s_m_0 : (List.range 2).all (fun i => s_mok (i + 1)) = true := by decide +kernel
theorem s_m_1 : (List.range 5).all (fun i => s_mok (i + 3)) = true := by decide +kernel
theorem s_m_2 : (List.range 10).all (fun i => s_mok (i + 8)) = true := by decide +kernel
theorem s_m_3 : (List.range 5).all (fun i => s_mok (i + 18)) = true := by decide +kernel
theorem s_m_4 : (List.range 7).all (fun i => s_mok (i + 23)) = true := by decide +kernel
theorem s_m_5 : (List.range 7).all (fun i => s_mok (i + 30)) = true := by decide +kernel
theorem s_m_6 : (List.range 8).all (fun i => s_mok (i + 37)) = true := by decide +kernel
theorem s_m_7 : (List.range 8).all (fun i => s_mok (i + 45)) = true := by decide +kernel
theorem s_m_8 : (List.range 4).all (fun i => s_mok (i + 53)) = true := by decide +kernel
theorem s_m_9 : (List.range 3).all (fun i => s_mok (i + 57)) = true := by decide +kernel
end
section
/-! THE TABLES' CHECKS, BY THE KERNEL -/
theorem s_m_10 : (List.range 4).all (fun i => s_mok (i + 60)) = true := by decide +kernel
theorem s_m_11 : (List.range 3).all (fun i => s_mok (i + 64)) = true := by decide +kernel
theorem s_m_12 : (List.range 3).all (fun i => s_mok (i + 67)) = true := by decide +kernel
theorem s_m_13 : (List.range 4).all (fun i => s_mok (i + 70)) = true := by decide +kernel
theorem s_m_14 : (List.range 5).all (fun i => s_mok (i + 74)) = true := by decide +kernel
theorem s_m_15 : (List.range 6).all (fun i => s_mok (i + 79)) = true := by decide +kernel
theorem s_m_16 : (List.range 7).all (fun i => s_mok (i + 85)) = true := by decide +kernel
theorem s_m_17 : (List.range 6).all (fun i => s_mok (i + 92)) = true := by decide +kernel
theorem s_m_18 : (List.range 5).all (fun i => s_mok (i + 98)) = true := by decide +kernel
theorem s_m_19 : (List.range 5).all (fun i => s_mok (i + 103)) = true := by decide +kernel
end
section
/-! THE TABLES' CHECKS, BY THE KERNEL -/
theorem s_m_20 : (List.range 5).all (fun i => s_mok (i + 108)) = true := by decide +kernel
theorem s_m_21 : (List.range 2).all (fun i => s_mok (i + 113)) = true := by decide +kernel
theorem s_m_22 : (List.range 1).all (fun i => s_mok (i + 115)) = true := by decide +kernel
theorem s_m_23 : (List.range 6).all (fun i => s_mok (i + 116)) = true := by decide +kernel
theorem s_m_24 : (List.range 2).all (fun i => s_mok (i + 122)) = true := by decide +kernel
theorem s_m_25 : (List.range 3).all (fun i => s_mok (i + 124)) = true := by decide +kernel
theorem s_m_26 : (List.range 3).all (fun i => s_mok (i + 127)) = true := by decide +kernel
theorem s_m_27 : (List.range 4).all (fun i => s_mok (i + 130)) = true := by decide +kernel
theorem s_m_28 : (List.range 5).all (fun i => s_mok (i + 134)) = true := by decide +kernel
theorem s_m_29 : (List.range 3).all (fun i => s_mok (i + 139)) = true := by decide +kernel
end
section
/-! THE TABLES' CHECKS, BY THE KERNEL -/
theorem s_m_30 : (List.range 3).all (fun i => s_mok (i + 142)) = true := by decide +kernel
theorem s_m_31 : (List.range 6).all (fun i => s_mok (i + 145)) = true := by decide +kernel
theorem s_m_32 : (List.range 1).all (fun i => s_mok (i + 151)) = true := by decide +kernel
theorem s_m_33 : (List.range 3).all (fun i => s_mok (i + 152)) = true := by decide +kernel
theorem s_m_34 : (List.range 2).all (fun i => s_mok (i + 155)) = true := by decide +kernel
theorem s_m_35 : (List.range 5).all (fun i => s_mok (i + 157)) = true := by decide +kernel
theorem s_m_36 : (List.range 4).all (fun i => s_mok (i + 162)) = true := by decide +kernel
theorem s_m_37 : (List.range 1).all (fun i => s_mok (i + 166)) = true := by decide +kernel
theorem s_m_38 : (List.range 5).all (fun i => s_mok (i + 167)) = true := by decide +kernel
theorem s_m_39 : (List.range 4).all (fun i => s_mok (i + 172)) = true := by decide +kernel
end
section
/-! THE TABLES' CHECKS, BY THE KERNEL -/
theorem s_m_40 : (List.range 6).all (fun i => s_mok (i + 176)) = true := by decide +kernel
theorem s_m_41 : (List.range 8).all (fun i => s_mok (i + 182)) = true := by decide +kernel
theorem s_m_42 : (List.range 5).all (fun i => s_mok (i + 190)) = true := by decide +kernel
theorem s_m_43 : (List.range 4).all (fun i => s_mok (i + 195)) = true := by decide +kernel
theorem s_m_44 : (List.range 5).all (fun i => s_mok (i + 199)) = true := by decide +kernel
end
section
/-! THE TABLES' CHECKS, BY THE KERNEL -/
theorem s_r0_0 : s_c0_0.all (s_rok 0) = true := by decide +kernel
theorem s_r0_1 : s_c0_1.all (s_rok 0) = true := by decide +kernel
theorem s_r0_2 : s_c0_2.all (s_rok 0) = true := by decide +kernel
theorem s_r0_3 : s_c0_3.all (s_rok 0) = true := by decide +kernel
theorem s_r0_4 : s_c0_4.all (s_rok 0) = true := by decide +kernel
theorem s_r0_5 : s_c0_5.all (s_rok 0) = true := by decide +kernel
theorem s_r0_6 : s_c0_6.all (s_rok 0) = true := by decide +kernel
theorem s_r0_7 : s_c0_7.all (s_rok 0) = true := by decide +kernel
theorem s_r0_8 : s_c0_8.all (s_rok 0) = true := by decide +kernel
theorem s_r0_9 : s_c0_9.all (s_rok 0) = true := by decide +kernel
theorem s_r0_10 : s_c0_10.all (s_rok 0) = true := by decide +kernel
theorem s_r0_11 : s_c0_11.all (s_rok 0) = true := by decide +kernel
theorem s_r0_12 : s_c0_12.all (s_rok 0) = true := by decide +kernel
theorem s_r0_13 : s_c0_13.all (s_rok 0) = true := by decide +kernel
theorem s_r0_14 : s_c0_14.all (s_rok 0) = true := by decide +kernel
theorem s_r0_15 : s_c0_15.all (s_rok 0) = true := by decide +kernel
theorem s_r0_16 : s_c0_16.all (s_rok 0) = true := by decide +kernel
theorem s_r0_17 : s_c0_17.all (s_rok 0) = true := by decide +kernel
theorem s_r0_18 : s_c0_18.all (s_rok 0) = true := by decide +kernel
theorem s_r0_19 : s_c0_19.all (s_rok 0) = true := by decide +kernel
theorem s_r0_20 : s_c0_20.all (s_rok 0) = true := by decide +kernel
theorem s_r0_21 : s_c0_21.all (s_rok 0) = true := by decide +kernel
theorem s_r0_22 : s_c0_22.all (s_rok 0) = true := by decide +kernel
theorem s_r0_23 : s_c0_23.all (s_rok 0) = true := by decide +kernel
end
section
/-! what follows from the checks -/
theorem s_cus_ok9 : s_cus.all s_cok = true := by decide +kernel
theorem s_ath_ok9 : [0, 1, 2, 3, 5].all s_ath = true := by decide +kernel
theorem s_cus_ok {ci : Nat} (hc : ci ∈ s_cus) : s_cok ci = true := List.all_eq_true.mp s_cus_ok9 ci hc
theorem s_cas_ok : (List.range 23).all (fun ci => match vwCl[ci]? with | some r => s_wat (s_caw.getD ci 0) (.castable r.1 "java/lang/Object") | none => false) = true := by decide +kernel
theorem s_ath_ok {x : Nat} (hx : s_ate x = true) : s_ath x = true := by
  have key : x = 0 ∨ x = 1 ∨ x = 2 ∨ x = 3 ∨ x = 5 := by
    unfold s_ate at hx
    split at hx <;> first | omega | cases hx
  exact List.all_eq_true.mp s_ath_ok9 x (by rcases key with rfl | rfl | rfl | rfl | rfl <;> decide)
theorem s_mok_ok {y : Nat} (hy : y < s_M) (h0 : 0 < y) : s_mok y = true := by
  have hM : s_M = 204 := rfl
  have hc : (1 ≤ y ∧ y < 3) ∨ (3 ≤ y ∧ y < 8) ∨ (8 ≤ y ∧ y < 18) ∨ (18 ≤ y ∧ y < 23) ∨ (23 ≤ y ∧ y < 30) ∨ (30 ≤ y ∧ y < 37) ∨ (37 ≤ y ∧ y < 45) ∨ (45 ≤ y ∧ y < 53) ∨ (53 ≤ y ∧ y < 57) ∨ (57 ≤ y ∧ y < 60) ∨ (60 ≤ y ∧ y < 64) ∨ (64 ≤ y ∧ y < 67) ∨ (67 ≤ y ∧ y < 70) ∨ (70 ≤ y ∧ y < 74) ∨ (74 ≤ y ∧ y < 79) ∨ (79 ≤ y ∧ y < 85) ∨ (85 ≤ y ∧ y < 92) ∨ (92 ≤ y ∧ y < 98) ∨ (98 ≤ y ∧ y < 103) ∨ (103 ≤ y ∧ y < 108) ∨ (108 ≤ y ∧ y < 113) ∨ (113 ≤ y ∧ y < 115) ∨ (115 ≤ y ∧ y < 116) ∨ (116 ≤ y ∧ y < 122) ∨ (122 ≤ y ∧ y < 124) ∨ (124 ≤ y ∧ y < 127) ∨ (127 ≤ y ∧ y < 130) ∨ (130 ≤ y ∧ y < 134) ∨ (134 ≤ y ∧ y < 139) ∨ (139 ≤ y ∧ y < 142) ∨ (142 ≤ y ∧ y < 145) ∨ (145 ≤ y ∧ y < 151) ∨ (151 ≤ y ∧ y < 152) ∨ (152 ≤ y ∧ y < 155) ∨ (155 ≤ y ∧ y < 157) ∨ (157 ≤ y ∧ y < 162) ∨ (162 ≤ y ∧ y < 166) ∨ (166 ≤ y ∧ y < 167) ∨ (167 ≤ y ∧ y < 172) ∨ (172 ≤ y ∧ y < 176) ∨ (176 ≤ y ∧ y < 182) ∨ (182 ≤ y ∧ y < 190) ∨ (190 ≤ y ∧ y < 195) ∨ (195 ≤ y ∧ y < 199) ∨ (199 ≤ y ∧ y < 204) := by omega
  rcases hc with hc | hc | hc | hc | hc | hc | hc | hc | hc | hc | hc | hc | hc | hc | hc | hc | hc | hc | hc | hc | hc | hc | hc | hc | hc | hc | hc | hc | hc | hc | hc | hc | hc | hc | hc | hc | hc | hc | hc | hc | hc | hc | hc | hc | hc
  · have h9 : s_mok (y - 1 + 1) = true := List.all_eq_true.mp s_m_0 (y - 1) (List.mem_range.mpr (by omega))
    rwa [show y - 1 + 1 = y by omega] at h9
  · have h9 : s_mok (y - 3 + 3) = true := List.all_eq_true.mp s_m_1 (y - 3) (List.mem_range.mpr (by omega))
    rwa [show y - 3 + 3 = y by omega] at h9
  · have h9 : s_mok (y - 8 + 8) = true := List.all_eq_true.mp s_m_2 (y - 8) (List.mem_range.mpr (by omega))
    rwa [show y - 8 + 8 = y by omega] at h9
  · have h9 : s_mok (y - 18 + 18) = true := List.all_eq_true.mp s_m_3 (y - 18) (List.mem_range.mpr (by omega))
    rwa [show y - 18 + 18 = y by omega] at h9
  · have h9 : s_mok (y - 23 + 23) = true := List.all_eq_true.mp s_m_4 (y - 23) (List.mem_range.mpr (by omega))
    rwa [show y - 23 + 23 = y by omega] at h9
  · have h9 : s_mok (y - 30 + 30) = true := List.all_eq_true.mp s_m_5 (y - 30) (List.mem_range.mpr (by omega))
    rwa [show y - 30 + 30 = y by omega] at h9
  · have h9 : s_mok (y - 37 + 37) = true := List.all_eq_true.mp s_m_6 (y - 37) (List.mem_range.mpr (by omega))
    rwa [show y - 37 + 37 = y by omega] at h9
  · have h9 : s_mok (y - 45 + 45) = true := List.all_eq_true.mp s_m_7 (y - 45) (List.mem_range.mpr (by omega))
    rwa [show y - 45 + 45 = y by omega] at h9
  · have h9 : s_mok (y - 53 + 53) = true := List.all_eq_true.mp s_m_8 (y - 53) (List.mem_range.mpr (by omega))
    rwa [show y - 53 + 53 = y by omega] at h9
  · have h9 : s_mok (y - 57 + 57) = true := List.all_eq_true.mp s_m_9 (y - 57) (List.mem_range.mpr (by omega))
    rwa [show y - 57 + 57 = y by omega] at h9
  · have h9 : s_mok (y - 60 + 60) = true := List.all_eq_true.mp s_m_10 (y - 60) (List.mem_range.mpr (by omega))
    rwa [show y - 60 + 60 = y by omega] at h9
  · have h9 : s_mok (y - 64 + 64) = true := List.all_eq_true.mp s_m_11 (y - 64) (List.mem_range.mpr (by omega))
    rwa [show y - 64 + 64 = y by omega] at h9
  · have h9 : s_mok (y - 67 + 67) = true := List.all_eq_true.mp s_m_12 (y - 67) (List.mem_range.mpr (by omega))
    rwa [show y - 67 + 67 = y by omega] at h9
  · have h9 : s_mok (y - 70 + 70) = true := List.all_eq_true.mp s_m_13 (y - 70) (List.mem_range.mpr (by omega))
    rwa [show y - 70 + 70 = y by omega] at h9
  · have h9 : s_mok (y - 74 + 74) = true := List.all_eq_true.mp s_m_14 (y - 74) (List.mem_range.mpr (by omega))
    rwa [show y - 74 + 74 = y by omega] at h9
  · have h9 : s_mok (y - 79 + 79) = true := List.all_eq_true.mp s_m_15 (y - 79) (List.mem_range.mpr (by omega))
    rwa [show y - 79 + 79 = y by omega] at h9
  · have h9 : s_mok (y - 85 + 85) = true := List.all_eq_true.mp s_m_16 (y - 85) (List.mem_range.mpr (by omega))
    rwa [show y - 85 + 85 = y by omega] at h9
  · have h9 : s_mok (y - 92 + 92) = true := List.all_eq_true.mp s_m_17 (y - 92) (List.mem_range.mpr (by omega))
    rwa [show y - 92 + 92 = y by omega] at h9
  · have h9 : s_mok (y - 98 + 98) = true := List.all_eq_true.mp s_m_18 (y - 98) (List.mem_range.mpr (by omega))
    rwa [show y - 98 + 98 = y by omega] at h9
  · have h9 : s_mok (y - 103 + 103) = true := List.all_eq_true.mp s_m_19 (y - 103) (List.mem_range.mpr (by omega))
    rwa [show y - 103 + 103 = y by omega] at h9
  · have h9 : s_mok (y - 108 + 108) = true := List.all_eq_true.mp s_m_20 (y - 108) (List.mem_range.mpr (by omega))
    rwa [show y - 108 + 108 = y by omega] at h9
  · have h9 : s_mok (y - 113 + 113) = true := List.all_eq_true.mp s_m_21 (y - 113) (List.mem_range.mpr (by omega))
    rwa [show y - 113 + 113 = y by omega] at h9
  · have h9 : s_mok (y - 115 + 115) = true := List.all_eq_true.mp s_m_22 (y - 115) (List.mem_range.mpr (by omega))
    rwa [show y - 115 + 115 = y by omega] at h9
  · have h9 : s_mok (y - 116 + 116) = true := List.all_eq_true.mp s_m_23 (y - 116) (List.mem_range.mpr (by omega))
    rwa [show y - 116 + 116 = y by omega] at h9
  · have h9 : s_mok (y - 122 + 122) = true := List.all_eq_true.mp s_m_24 (y - 122) (List.mem_range.mpr (by omega))
    rwa [show y - 122 + 122 = y by omega] at h9
  · have h9 : s_mok (y - 124 + 124) = true := List.all_eq_true.mp s_m_25 (y - 124) (List.mem_range.mpr (by omega))
    rwa [show y - 124 + 124 = y by omega] at h9
  · have h9 : s_mok (y - 127 + 127) = true := List.all_eq_true.mp s_m_26 (y - 127) (List.mem_range.mpr (by omega))
    rwa [show y - 127 + 127 = y by omega] at h9
  · have h9 : s_mok (y - 130 + 130) = true := List.all_eq_true.mp s_m_27 (y - 130) (List.mem_range.mpr (by omega))
    rwa [show y - 130 + 130 = y by omega] at h9
  · have h9 : s_mok (y - 134 + 134) = true := List.all_eq_true.mp s_m_28 (y - 134) (List.mem_range.mpr (by omega))
    rwa [show y - 134 + 134 = y by omega] at h9
  · have h9 : s_mok (y - 139 + 139) = true := List.all_eq_true.mp s_m_29 (y - 139) (List.mem_range.mpr (by omega))
    rwa [show y - 139 + 139 = y by omega] at h9
  · have h9 : s_mok (y - 142 + 142) = true := List.all_eq_true.mp s_m_30 (y - 142) (List.mem_range.mpr (by omega))
    rwa [show y - 142 + 142 = y by omega] at h9
  · have h9 : s_mok (y - 145 + 145) = true := List.all_eq_true.mp s_m_31 (y - 145) (List.mem_range.mpr (by omega))
    rwa [show y - 145 + 145 = y by omega] at h9
  · have h9 : s_mok (y - 151 + 151) = true := List.all_eq_true.mp s_m_32 (y - 151) (List.mem_range.mpr (by omega))
    rwa [show y - 151 + 151 = y by omega] at h9
  · have h9 : s_mok (y - 152 + 152) = true := List.all_eq_true.mp s_m_33 (y - 152) (List.mem_range.mpr (by omega))
    rwa [show y - 152 + 152 = y by omega] at h9
  · have h9 : s_mok (y - 155 + 155) = true := List.all_eq_true.mp s_m_34 (y - 155) (List.mem_range.mpr (by omega))
    rwa [show y - 155 + 155 = y by omega] at h9
  · have h9 : s_mok (y - 157 + 157) = true := List.all_eq_true.mp s_m_35 (y - 157) (List.mem_range.mpr (by omega))
    rwa [show y - 157 + 157 = y by omega] at h9
  · have h9 : s_mok (y - 162 + 162) = true := List.all_eq_true.mp s_m_36 (y - 162) (List.mem_range.mpr (by omega))
    rwa [show y - 162 + 162 = y by omega] at h9
  · have h9 : s_mok (y - 166 + 166) = true := List.all_eq_true.mp s_m_37 (y - 166) (List.mem_range.mpr (by omega))
    rwa [show y - 166 + 166 = y by omega] at h9
  · have h9 : s_mok (y - 167 + 167) = true := List.all_eq_true.mp s_m_38 (y - 167) (List.mem_range.mpr (by omega))
    rwa [show y - 167 + 167 = y by omega] at h9
  · have h9 : s_mok (y - 172 + 172) = true := List.all_eq_true.mp s_m_39 (y - 172) (List.mem_range.mpr (by omega))
    rwa [show y - 172 + 172 = y by omega] at h9
  · have h9 : s_mok (y - 176 + 176) = true := List.all_eq_true.mp s_m_40 (y - 176) (List.mem_range.mpr (by omega))
    rwa [show y - 176 + 176 = y by omega] at h9
  · have h9 : s_mok (y - 182 + 182) = true := List.all_eq_true.mp s_m_41 (y - 182) (List.mem_range.mpr (by omega))
    rwa [show y - 182 + 182 = y by omega] at h9
  · have h9 : s_mok (y - 190 + 190) = true := List.all_eq_true.mp s_m_42 (y - 190) (List.mem_range.mpr (by omega))
    rwa [show y - 190 + 190 = y by omega] at h9
  · have h9 : s_mok (y - 195 + 195) = true := List.all_eq_true.mp s_m_43 (y - 195) (List.mem_range.mpr (by omega))
    rwa [show y - 195 + 195 = y by omega] at h9
  · have h9 : s_mok (y - 199 + 199) = true := List.all_eq_true.mp s_m_44 (y - 199) (List.mem_range.mpr (by omega))
    rwa [show y - 199 + 199 = y by omega] at h9
theorem s_ok_rows {mi : Nat} (hm : mi < s_M) : (s_code mi).all (s_rok mi) = true := by
  rcases Nat.eq_zero_or_pos mi with rfl | h0
  · show s_c0.all (s_rok 0) = true
    unfold s_c0
    simp only [List.all_append, Bool.and_eq_true]
    exact ⟨s_r0_0, s_r0_1, s_r0_2, s_r0_3, s_r0_4, s_r0_5, s_r0_6, s_r0_7, s_r0_8, s_r0_9, s_r0_10, s_r0_11, s_r0_12, s_r0_13, s_r0_14, s_r0_15, s_r0_16, s_r0_17, s_r0_18, s_r0_19, s_r0_20, s_r0_21, s_r0_22, s_r0_23⟩
  · have hok := s_mok_ok hm h0
    unfold s_mok at hok
    simp only [Bool.and_eq_true] at hok
    exact hok.2.2.2.2.2
end
section
theorem s_cks_in {r : List Cond} {w : Cond} (hr : r ∈ s_cks) (hw : w ∈ r) : w ∈ tables_1 := by
  unfold s_cks at hr
  simp only [List.mem_cons, List.not_mem_nil, or_false] at hr
  unfold tables_1
  simp only [List.mem_append]
  rcases hr with rfl | rfl | rfl | rfl | rfl | rfl | rfl | rfl | rfl | rfl | rfl <;> simp only [hw, true_or, or_true]
theorem s_wat_v {i : Nat} {w : Cond} (h : s_wat i w = true) : w ∈ s_tbl := by
  have h : s_ats i = some w := of_decide_eq_true h
  unfold s_ats at h
  split at h
  · have h9 : w ∈ s_hd := List.mem_of_getElem? h
    rcases List.mem_cons.mp h9 with rfl | h9
    · exact List.mem_cons_self
    · exact List.mem_cons_of_mem _ (List.mem_append_left _ h9)
  · split at h
    · next r hr => exact List.mem_cons_of_mem _ (List.mem_append_right _ (s_cks_in (List.mem_of_getElem? hr) (List.mem_of_getElem? h)))
    · cases h
theorem s_gat_v {i : Nat} {w : Cond} (h : s_gat i w = true) : w ∈ s_U := by
  unfold s_gat at h
  rw [Bool.and_eq_true] at h
  exact s_U_in (s_wat_v h.1) h.2
theorem s_pre_v : ∀ {ws : List Cond} {is : List Nat}, s_pre ws is = true → ∀ w ∈ ws, w ∈ s_U
  | [], _, _, w, h => absurd h List.not_mem_nil
  | a :: r, [], h, _, _ => by cases h
  | a :: r, i :: is, h, w, hw => by
    unfold s_pre at h
    rw [Bool.and_eq_true] at h
    rcases List.mem_cons.mp hw with rfl | hw
    · exact s_gat_v h.1
    · exact s_pre_v h.2 w hw
theorem s_row {mi : Nat} (hm : mi < s_M) {pc : Nat} {e : sN} (hf : s_find (s_code mi) pc = some e) : decode (s_by mi) pc = .ok (e.2.1, s_ln e) ∧ e.2.2.1 = pc + s_ln e ∧ s_lk mi e = true := by
  obtain ⟨h1, h2⟩ := s_find_v hf
  have h := List.all_eq_true.mp (s_ok_rows hm) e h1
  unfold s_rok at h
  rw [Bool.and_eq_true, Bool.and_eq_true] at h
  obtain ⟨a, b, c⟩ := h
  have a := of_decide_eq_true a
  rw [h2] at a
  have b := Nat.eq_of_beq_eq_true b
  rw [h2] at b
  exact ⟨a, b, c⟩
theorem s_v0 {ρ : Nat → Int} {α ξ : Nat → Nat} {x : sV} (h : s_tag 0 x = true) : s_v ρ α ξ x = .int (Int32.ofInt (s_n ρ x)) := by
  obtain ⟨t, c, n⟩ := x
  cases s_tag_iff.mp h
  rfl
theorem s_v1 {ρ : Nat → Int} {α ξ : Nat → Nat} {x : sV} (h : s_tag 1 x = true) : s_v ρ α ξ x = .long (Int64.ofInt (s_n ρ x)) := by
  obtain ⟨t, c, n⟩ := x
  cases s_tag_iff.mp h
  rfl
theorem s_v5 {ρ : Nat → Int} {α ξ : Nat → Nat} {x : sV} (h : s_tag 5 x = true) : s_v ρ α ξ x = .float 0 := by
  obtain ⟨t, c, n⟩ := x
  cases s_tag_iff.mp h
  rfl
theorem s_v6 {ρ : Nat → Int} {α ξ : Nat → Nat} {x : sV} (h : s_tag 6 x = true) : s_v ρ α ξ x = .double 0 := by
  obtain ⟨t, c, n⟩ := x
  cases s_tag_iff.mp h
  rfl
theorem s_vA {ρ : Nat → Int} {α ξ : Nat → Nat} {x : sV} (h : s_isA x = true) : s_v ρ α ξ x = .null ∨ ∃ a, s_v ρ α ξ x = .ref a := by
  obtain ⟨t, c, n⟩ := x
  unfold s_isA at h
  unfold s_v
  dsimp only at h ⊢
  split at h
  · exact Or.inl rfl
  · exact Or.inr ⟨_, rfl⟩
  · exact Or.inr ⟨_, rfl⟩
  · cases h
section S1
variable {l : Launch} {D : va_G} {tc : Nat → ClassId} {ξ : Nat → Nat} {xs : Nat → Int32} {ρ : Nat → Int} {f : sF}
variable {mi pc npc : Nat} {lo : sL} {st : List sV} {h : List sE} {iv : sI} {c n : Nat} {k : sZ → Bool}
theorem v_iconst (hih : s_All l D tc ξ xs ρ f) (hρ : s_ρ ρ xs) (hm : mi < s_M) {v : Int} (hd : decode (s_by mi) pc = .ok (.iconst v, 1)) (hn : npc = pc + 1) (hh : f mi npc lo ((0, v, 0) :: st) h iv c n k = true) : s_Snd l D tc ξ xs ρ mi pc lo st h iv c n k := by
  intro p e R s m args below meth cc A α α0 b0 H locs ls X hin hE hA hP hD hS hl hb0 hag
  subst hn
  refine lv_iconst X.1 X.2.1 hd (v := Int32.ofInt (ρ 0 + v)) (by rw [hρ.1, Int.zero_add]) ?_
  exact hih mi _ lo _ h iv c n k hm hh X hin hE hA hP hD hS hl hb0 hag
end S1
end
section
section S2
variable {l : Launch} {D : va_G} {tc : Nat → ClassId} {ξ α : Nat → Nat} {xs : Nat → Int32} {ρ : Nat → Int} {f : sF}
variable {mi pc npc : Nat} {lo : sL} {st : List sV} {h : List sE} {iv : sI} {c n : Nat} {k : sZ → Bool}
theorem s_add_n {iv : sI} (hin : s_in ρ iv) {x y z : sV} (hz : s_add iv x y = some z) : z.1 = x.1 ∧ s_n ρ z = s_n ρ x + s_n ρ y := by
  unfold s_add at hz
  split at hz
  · next e =>
    cases hz
    have := s_isk_v hin e
    refine ⟨rfl, ?_⟩
    unfold s_n at *
    dsimp only at *
    omega
  · split at hz
    · next e =>
      cases hz
      have := s_isk_v hin e
      refine ⟨rfl, ?_⟩
      unfold s_n at *
      dsimp only at *
      omega
    · cases hz
theorem s_sub_n {iv : sI} (hin : s_in ρ iv) {x y z : sV} (hz : s_sub iv x y = some z) : z.1 = x.1 ∧ s_n ρ z = s_n ρ x - s_n ρ y := by
  unfold s_sub at hz
  split at hz
  · next e =>
    cases hz
    have := s_isk_v hin e
    refine ⟨rfl, ?_⟩
    unfold s_n at *
    dsimp only at *
    omega
  · cases hz
theorem s_mul_n {iv : sI} (hin : s_in ρ iv) (h0 : ρ 0 = 0) {x y z : sV} (hz : s_mul iv x y = some z) : z.1 = x.1 ∧ s_n ρ z = s_n ρ x * s_n ρ y := by
  unfold s_mul at hz
  split at hz
  · next e =>
    rw [Bool.and_eq_true] at e
    cases hz
    refine ⟨rfl, ?_⟩
    rw [s_isk_v hin e.1, s_isk_v hin e.2]
    show ρ 0 + s_lo iv x * s_lo iv y = _
    rw [h0, Int.zero_add]
  · cases hz
theorem s_addI {iv : sI} (hin : s_in ρ iv) {x y z : sV} (h1 : s_tag 0 x = true) (_ : s_tag 0 y = true) (hz : s_add iv x y = some z) : Value.int (Int32.ofInt (s_n ρ x) + Int32.ofInt (s_n ρ y)) = s_v ρ α ξ z := by
  obtain ⟨a, b⟩ := s_add_n hin hz
  rw [s_v0 (s_tag_iff.mpr (a.trans (s_tag_iff.mp h1))), b, Int32.ofInt_add]
theorem s_addL {iv : sI} (hin : s_in ρ iv) {x y z : sV} (h1 : s_tag 1 x = true) (_ : s_tag 1 y = true) (hz : s_add iv x y = some z) : Value.long (Int64.ofInt (s_n ρ x) + Int64.ofInt (s_n ρ y)) = s_v ρ α ξ z := by
  obtain ⟨a, b⟩ := s_add_n hin hz
  rw [s_v1 (s_tag_iff.mpr (a.trans (s_tag_iff.mp h1))), b, Int64.ofInt_add]
theorem s_subI {iv : sI} (hin : s_in ρ iv) {x y z : sV} (h1 : s_tag 0 x = true) (_ : s_tag 0 y = true) (hz : s_sub iv x y = some z) : Value.int (Int32.ofInt (s_n ρ x) - Int32.ofInt (s_n ρ y)) = s_v ρ α ξ z := by
  obtain ⟨a, b⟩ := s_sub_n hin hz
  rw [s_v0 (s_tag_iff.mpr (a.trans (s_tag_iff.mp h1))), b, Int32.ofInt_sub]
theorem s_r32_64 {iv : sI} {x : sV} (h : s_r32 iv x = true) : s_r64 iv x = true := by
  unfold s_r32 at h
  unfold s_r64
  rw [Bool.and_eq_true, s_ile_iff, s_ile_iff] at h ⊢
  omega
theorem v_bipush (hih : s_All l D tc ξ xs ρ f) (hρ : s_ρ ρ xs) (hm : mi < s_M) {v : Int} (hd : decode (s_by mi) pc = .ok (.bipush v, 2)) (hn : npc = pc + 2) (hh : f mi npc lo ((0, v, 0) :: st) h iv c n k = true) (hv : (Int8.ofInt v).toInt32 = Int32.ofInt v) : s_Snd l D tc ξ xs ρ mi pc lo st h iv c n k := by
  intro p e R s m args below meth cc A α α0 b0 H locs ls X hin hE hA hP hD hS hl hb0 hag
  subst hn
  refine lv_bipush X.1 X.2.1 hd (v := Int32.ofInt (ρ 0 + v)) (by rw [hρ.1, Int.zero_add]; exact hv) ?_
  exact hih mi _ lo _ h iv c n k hm hh X hin hE hA hP hD hS (hl) hb0 hag
theorem v_sipush (hih : s_All l D tc ξ xs ρ f) (hρ : s_ρ ρ xs) (hm : mi < s_M) {v : Int} (hd : decode (s_by mi) pc = .ok (.sipush v, 3)) (hn : npc = pc + 3) (hh : f mi npc lo ((0, v, 0) :: st) h iv c n k = true) (hv : (Int16.ofInt v).toInt32 = Int32.ofInt v) : s_Snd l D tc ξ xs ρ mi pc lo st h iv c n k := by
  intro p e R s m args below meth cc A α α0 b0 H locs ls X hin hE hA hP hD hS hl hb0 hag
  subst hn
  refine lv_sipush X.1 X.2.1 hd (v := Int32.ofInt (ρ 0 + v)) (by rw [hρ.1, Int.zero_add]; exact hv) ?_
  exact hih mi _ lo _ h iv c n k hm hh X hin hE hA hP hD hS (hl) hb0 hag
theorem v_lconst (hih : s_All l D tc ξ xs ρ f) (hρ : s_ρ ρ xs) (hm : mi < s_M) {v : Fin 2} (hd : decode (s_by mi) pc = .ok (.lconst v, 1)) (hn : npc = pc + 1) (hh : f mi npc lo ((1, Int.ofNat v.val, 0) :: st) h iv c n k = true) : s_Snd l D tc ξ xs ρ mi pc lo st h iv c n k := by
  intro p e R s m args below meth cc A α α0 b0 H locs ls X hin hE hA hP hD hS hl hb0 hag
  subst hn
  refine lv_lconst X.1 X.2.1 hd (v := Int64.ofInt (ρ 0 + Int.ofNat v.val)) (by rw [hρ.1, Int.zero_add]; rfl) ?_
  exact hih mi _ lo _ h iv c n k hm hh X hin hE hA hP hD hS (hl) hb0 hag
theorem v_fconst (hih : s_All l D tc ξ xs ρ f) (hρ : s_ρ ρ xs) (hm : mi < s_M) (hd : decode (s_by mi) pc = .ok (.fconst 0, 1)) (hn : npc = pc + 1) (hh : f mi npc lo ((5, 0, 0) :: st) h iv c n k = true) : s_Snd l D tc ξ xs ρ mi pc lo st h iv c n k := by
  intro p e R s m args below meth cc A α α0 b0 H locs ls X hin hE hA hP hD hS hl hb0 hag
  subst hn
  refine lv_fconst0 X.1 X.2.1 hd ?_
  exact hih mi _ lo _ h iv c n k hm hh X hin hE hA hP hD hS (hl) hb0 hag
theorem v_dconst (hih : s_All l D tc ξ xs ρ f) (hρ : s_ρ ρ xs) (hm : mi < s_M) (hd : decode (s_by mi) pc = .ok (.dconst 0, 1)) (hn : npc = pc + 1) (hh : f mi npc lo ((6, 0, 0) :: st) h iv c n k = true) : s_Snd l D tc ξ xs ρ mi pc lo st h iv c n k := by
  intro p e R s m args below meth cc A α α0 b0 H locs ls X hin hE hA hP hD hS hl hb0 hag
  subst hn
  refine lv_dconst0 X.1 X.2.1 hd ?_
  exact hih mi _ lo _ h iv c n k hm hh X hin hE hA hP hD hS (hl) hb0 hag
theorem v_null (hih : s_All l D tc ξ xs ρ f) (hρ : s_ρ ρ xs) (hm : mi < s_M) (hd : decode (s_by mi) pc = .ok (.aconst_null, 1)) (hn : npc = pc + 1) (hh : f mi npc lo ((2, 0, 0) :: st) h iv c n k = true) : s_Snd l D tc ξ xs ρ mi pc lo st h iv c n k := by
  intro p e R s m args below meth cc A α α0 b0 H locs ls X hin hE hA hP hD hS hl hb0 hag
  subst hn
  refine lv_null X.1 X.2.1 hd ?_
  exact hih mi _ lo _ h iv c n k hm hh X hin hE hA hP hD hS (hl) hb0 hag
theorem v_ldc (hih : s_All l D tc ξ xs ρ f) (hρ : s_ρ ρ xs) (hm : mi < s_M) {ix : Nat} {v : Int} (hd : decode (s_by mi) pc = .ok (.ldc ix, 2)) (hn : npc = pc + 2) (hh : f mi npc lo ((0, v, 0) :: st) h iv c n k = true) (hw : Cond.constant (s_own mi) ix (Int32.ofInt v) ∈ s_U) : s_Snd l D tc ξ xs ρ mi pc lo st h iv c n k := by
  intro p e R s m args below meth cc A α α0 b0 H locs ls X hin hE hA hP hD hS hl hb0 hag
  subst hn
  refine lv_ldc X.1 X.2.1 (v := Int32.ofInt (ρ 0 + v)) X.2.2.2.2.2.1 (by rw [hρ.1, Int.zero_add]; exact X.2.2.2.2.2.2.1 _ hw) hd ?_
  exact hih mi _ lo _ h iv c n k hm hh X hin hE hA hP hD hS (hl) hb0 hag
theorem v_ldcw (hih : s_All l D tc ξ xs ρ f) (hρ : s_ρ ρ xs) (hm : mi < s_M) {ix : Nat} {v : Int} (hd : decode (s_by mi) pc = .ok (.ldc_w ix, 3)) (hn : npc = pc + 3) (hh : f mi npc lo ((0, v, 0) :: st) h iv c n k = true) (hw : Cond.constant (s_own mi) ix (Int32.ofInt v) ∈ s_U) : s_Snd l D tc ξ xs ρ mi pc lo st h iv c n k := by
  intro p e R s m args below meth cc A α α0 b0 H locs ls X hin hE hA hP hD hS hl hb0 hag
  subst hn
  refine lv_ldcw X.1 X.2.1 (v := Int32.ofInt (ρ 0 + v)) X.2.2.2.2.2.1 (by rw [hρ.1, Int.zero_add]; exact X.2.2.2.2.2.2.1 _ hw) hd ?_
  exact hih mi _ lo _ h iv c n k hm hh X hin hE hA hP hD hS (hl) hb0 hag
theorem v_ldc2 (hih : s_All l D tc ξ xs ρ f) (hρ : s_ρ ρ xs) (hm : mi < s_M) {ix : Nat} {v : Int} (hd : decode (s_by mi) pc = .ok (.ldc2_w ix, 3)) (hn : npc = pc + 3) (hh : f mi npc lo ((1, v, 0) :: st) h iv c n k = true) (hw : Cond.constantLong (s_own mi) ix (Int64.ofInt v) ∈ s_U) : s_Snd l D tc ξ xs ρ mi pc lo st h iv c n k := by
  intro p e R s m args below meth cc A α α0 b0 H locs ls X hin hE hA hP hD hS hl hb0 hag
  subst hn
  refine lv_ldc2 X.1 X.2.1 (v := Int64.ofInt (ρ 0 + v)) X.2.2.2.2.2.1 (by rw [hρ.1, Int.zero_add]; exact X.2.2.2.2.2.2.1 _ hw) hd ?_
  exact hih mi _ lo _ h iv c n k hm hh X hin hE hA hP hD hS (hl) hb0 hag
theorem v_iload (hih : s_All l D tc ξ xs ρ f) (hρ : s_ρ ρ xs) (hm : mi < s_M) {i : Nat} (hd : decode (s_by mi) pc = .ok (.iload i, 2)) (hn : npc = pc + 2) (hh : s_load f mi npc lo st h iv c n k (s_tag 0) i = true) : s_Snd l D tc ξ xs ρ mi pc lo st h iv c n k := by
  intro p e R s m args below meth cc A α α0 b0 H locs ls X hin hE hA hP hD hS hl hb0 hag
  subst hn
  unfold s_load at hh
  split at hh
  · next v hv =>
    rw [Bool.and_eq_true] at hh
    have hg := s_ll_get hv hl
    rw [s_v0 hh.1] at hg
    refine lv_iload X.1 X.2.1 hd hg ?_
    rw [← s_v0 (ρ := ρ) (α := α) (ξ := ξ) hh.1]
    exact hih mi _ lo _ h iv c n k hm hh.2 X hin hE hA hP hD hS hl hb0 hag
  · cases hh
theorem v_iload_n (hih : s_All l D tc ξ xs ρ f) (hρ : s_ρ ρ xs) (hm : mi < s_M) {i : Fin 4} (hd : decode (s_by mi) pc = .ok (.iload_n i, 1)) (hn : npc = pc + 1) (hh : s_load f mi npc lo st h iv c n k (s_tag 0) i.val = true) : s_Snd l D tc ξ xs ρ mi pc lo st h iv c n k := by
  intro p e R s m args below meth cc A α α0 b0 H locs ls X hin hE hA hP hD hS hl hb0 hag
  subst hn
  unfold s_load at hh
  split at hh
  · next v hv =>
    rw [Bool.and_eq_true] at hh
    have hg := s_ll_get hv hl
    rw [s_v0 hh.1] at hg
    refine lv_iload_n X.1 X.2.1 hd rfl hg ?_
    rw [← s_v0 (ρ := ρ) (α := α) (ξ := ξ) hh.1]
    exact hih mi _ lo _ h iv c n k hm hh.2 X hin hE hA hP hD hS hl hb0 hag
  · cases hh
theorem v_lload (hih : s_All l D tc ξ xs ρ f) (hρ : s_ρ ρ xs) (hm : mi < s_M) {i : Nat} (hd : decode (s_by mi) pc = .ok (.lload i, 2)) (hn : npc = pc + 2) (hh : s_load f mi npc lo st h iv c n k (s_tag 1) i = true) : s_Snd l D tc ξ xs ρ mi pc lo st h iv c n k := by
  intro p e R s m args below meth cc A α α0 b0 H locs ls X hin hE hA hP hD hS hl hb0 hag
  subst hn
  unfold s_load at hh
  split at hh
  · next v hv =>
    rw [Bool.and_eq_true] at hh
    have hg := s_ll_get hv hl
    rw [s_v1 hh.1] at hg
    refine lv_lload X.1 X.2.1 hd hg ?_
    rw [← s_v1 (ρ := ρ) (α := α) (ξ := ξ) hh.1]
    exact hih mi _ lo _ h iv c n k hm hh.2 X hin hE hA hP hD hS hl hb0 hag
  · cases hh
theorem v_lload_n (hih : s_All l D tc ξ xs ρ f) (hρ : s_ρ ρ xs) (hm : mi < s_M) {i : Fin 4} (hd : decode (s_by mi) pc = .ok (.lload_n i, 1)) (hn : npc = pc + 1) (hh : s_load f mi npc lo st h iv c n k (s_tag 1) i.val = true) : s_Snd l D tc ξ xs ρ mi pc lo st h iv c n k := by
  intro p e R s m args below meth cc A α α0 b0 H locs ls X hin hE hA hP hD hS hl hb0 hag
  subst hn
  unfold s_load at hh
  split at hh
  · next v hv =>
    rw [Bool.and_eq_true] at hh
    have hg := s_ll_get hv hl
    rw [s_v1 hh.1] at hg
    refine lv_lload_n X.1 X.2.1 hd rfl hg ?_
    rw [← s_v1 (ρ := ρ) (α := α) (ξ := ξ) hh.1]
    exact hih mi _ lo _ h iv c n k hm hh.2 X hin hE hA hP hD hS hl hb0 hag
  · cases hh
theorem v_aload (hih : s_All l D tc ξ xs ρ f) (hρ : s_ρ ρ xs) (hm : mi < s_M) {i : Nat} (hd : decode (s_by mi) pc = .ok (.aload i, 2)) (hn : npc = pc + 2) (hh : s_load f mi npc lo st h iv c n k (s_isA) i = true) : s_Snd l D tc ξ xs ρ mi pc lo st h iv c n k := by
  intro p e R s m args below meth cc A α α0 b0 H locs ls X hin hE hA hP hD hS hl hb0 hag
  subst hn
  unfold s_load at hh
  split at hh
  · next v hv =>
    rw [Bool.and_eq_true] at hh
    have hg := s_ll_get hv hl
    rcases s_vA (ρ := ρ) (α := α) (ξ := ξ) hh.1 with hz | ⟨a, hz⟩
    · rw [hz] at hg
      refine lv_aloadN X.1 X.2.1 hd hg ?_
      rw [← hz]
      exact hih mi _ lo _ h iv c n k hm hh.2 X hin hE hA hP hD hS hl hb0 hag
    · rw [hz] at hg
      refine lv_aload X.1 X.2.1 hd hg ?_
      rw [← hz]
      exact hih mi _ lo _ h iv c n k hm hh.2 X hin hE hA hP hD hS hl hb0 hag
  · cases hh
theorem v_aload_n (hih : s_All l D tc ξ xs ρ f) (hρ : s_ρ ρ xs) (hm : mi < s_M) {i : Fin 4} (hd : decode (s_by mi) pc = .ok (.aload_n i, 1)) (hn : npc = pc + 1) (hh : s_load f mi npc lo st h iv c n k (s_isA) i.val = true) : s_Snd l D tc ξ xs ρ mi pc lo st h iv c n k := by
  intro p e R s m args below meth cc A α α0 b0 H locs ls X hin hE hA hP hD hS hl hb0 hag
  subst hn
  unfold s_load at hh
  split at hh
  · next v hv =>
    rw [Bool.and_eq_true] at hh
    have hg := s_ll_get hv hl
    rcases s_vA (ρ := ρ) (α := α) (ξ := ξ) hh.1 with hz | ⟨a, hz⟩
    · rw [hz] at hg
      refine lv_aload_nN X.1 X.2.1 hd rfl hg ?_
      rw [← hz]
      exact hih mi _ lo _ h iv c n k hm hh.2 X hin hE hA hP hD hS hl hb0 hag
    · rw [hz] at hg
      refine lv_aload_n X.1 X.2.1 hd rfl hg ?_
      rw [← hz]
      exact hih mi _ lo _ h iv c n k hm hh.2 X hin hE hA hP hD hS hl hb0 hag
  · cases hh
theorem v_istore (hih : s_All l D tc ξ xs ρ f) (hρ : s_ρ ρ xs) (hm : mi < s_M) {i : Nat} (hd : decode (s_by mi) pc = .ok (.istore i, 2)) (hn : npc = pc + 2) (hh : s_sto f s_P mi npc lo st h iv c n k (s_tag 0) i = true) : s_Snd l D tc ξ xs ρ mi pc lo st h iv c n k := by
  intro p e R s m args below meth cc A α α0 b0 H locs ls X hin hE hA hP hD hS hl hb0 hag
  subst hn
  unfold s_sto at hh
  split at hh
  · next v r =>
    rw [Bool.and_eq_true, Bool.and_eq_true] at hh
    obtain ⟨h1, h2, h3⟩ := hh
    have h2 : i < (s_meta mi).1 := by simpa [Nat.blt_eq] using h2
    rw [List.map_cons]
    rw [s_v0 h1]
    refine lv_istore X.1 X.2.1 hd (lv' := s_ll ρ α ξ (s_put lo i v)) hl h2 (by rw [← s_ll_put, s_v0 h1]) (fun ls hl => ?_)
    exact hih mi _ _ r h iv c n k hm h3 X hin hE hA hP hD hS hl hb0 hag
  · cases hh
theorem v_istore_n (hih : s_All l D tc ξ xs ρ f) (hρ : s_ρ ρ xs) (hm : mi < s_M) {i : Fin 4} (hd : decode (s_by mi) pc = .ok (.istore_n i, 1)) (hn : npc = pc + 1) (hh : s_sto f s_P mi npc lo st h iv c n k (s_tag 0) i.val = true) : s_Snd l D tc ξ xs ρ mi pc lo st h iv c n k := by
  intro p e R s m args below meth cc A α α0 b0 H locs ls X hin hE hA hP hD hS hl hb0 hag
  subst hn
  unfold s_sto at hh
  split at hh
  · next v r =>
    rw [Bool.and_eq_true, Bool.and_eq_true] at hh
    obtain ⟨h1, h2, h3⟩ := hh
    have h2 : i.val < (s_meta mi).1 := by simpa [Nat.blt_eq] using h2
    rw [List.map_cons]
    rw [s_v0 h1]
    refine lv_istore_n X.1 X.2.1 hd rfl (lv' := s_ll ρ α ξ (s_put lo i.val v)) hl h2 (by rw [← s_ll_put, s_v0 h1]) (fun ls hl => ?_)
    exact hih mi _ _ r h iv c n k hm h3 X hin hE hA hP hD hS hl hb0 hag
  · cases hh
theorem v_fstore (hih : s_All l D tc ξ xs ρ f) (hρ : s_ρ ρ xs) (hm : mi < s_M) {i : Nat} (hd : decode (s_by mi) pc = .ok (.fstore i, 2)) (hn : npc = pc + 2) (hh : s_sto f s_P mi npc lo st h iv c n k (s_tag 5) i = true) : s_Snd l D tc ξ xs ρ mi pc lo st h iv c n k := by
  intro p e R s m args below meth cc A α α0 b0 H locs ls X hin hE hA hP hD hS hl hb0 hag
  subst hn
  unfold s_sto at hh
  split at hh
  · next v r =>
    rw [Bool.and_eq_true, Bool.and_eq_true] at hh
    obtain ⟨h1, h2, h3⟩ := hh
    have h2 : i < (s_meta mi).1 := by simpa [Nat.blt_eq] using h2
    rw [List.map_cons]
    rw [s_v5 h1]
    refine lv_fstore X.1 X.2.1 hd (lv' := s_ll ρ α ξ (s_put lo i v)) hl h2 (by rw [← s_ll_put, s_v5 h1]) (fun ls hl => ?_)
    exact hih mi _ _ r h iv c n k hm h3 X hin hE hA hP hD hS hl hb0 hag
  · cases hh
theorem v_lstore (hih : s_All l D tc ξ xs ρ f) (hρ : s_ρ ρ xs) (hm : mi < s_M) {i : Nat} (hd : decode (s_by mi) pc = .ok (.lstore i, 2)) (hn : npc = pc + 2) (hh : s_sto2 f s_P mi npc lo st h iv c n k (s_tag 1) i = true) : s_Snd l D tc ξ xs ρ mi pc lo st h iv c n k := by
  intro p e R s m args below meth cc A α α0 b0 H locs ls X hin hE hA hP hD hS hl hb0 hag
  subst hn
  unfold s_sto2 at hh
  split at hh
  · next v r =>
    rw [Bool.and_eq_true, Bool.and_eq_true] at hh
    obtain ⟨h1, h2, h3⟩ := hh
    have h2 : i + 1 < (s_meta mi).1 := by simpa [Nat.blt_eq] using h2
    rw [List.map_cons]
    rw [s_v1 h1]
    refine lv_lstore X.1 X.2.1 hd (lv' := s_ll ρ α ξ (s_put2 lo i v)) hl h2 (by rw [← s_ll_put2, s_v1 h1]) (fun ls hl => ?_)
    exact hih mi _ _ r h iv c n k hm h3 X hin hE hA hP hD hS hl hb0 hag
  · cases hh
theorem v_lstore_n (hih : s_All l D tc ξ xs ρ f) (hρ : s_ρ ρ xs) (hm : mi < s_M) {i : Fin 4} (hd : decode (s_by mi) pc = .ok (.lstore_n i, 1)) (hn : npc = pc + 1) (hh : s_sto2 f s_P mi npc lo st h iv c n k (s_tag 1) i.val = true) : s_Snd l D tc ξ xs ρ mi pc lo st h iv c n k := by
  intro p e R s m args below meth cc A α α0 b0 H locs ls X hin hE hA hP hD hS hl hb0 hag
  subst hn
  unfold s_sto2 at hh
  split at hh
  · next v r =>
    rw [Bool.and_eq_true, Bool.and_eq_true] at hh
    obtain ⟨h1, h2, h3⟩ := hh
    have h2 : i.val + 1 < (s_meta mi).1 := by simpa [Nat.blt_eq] using h2
    rw [List.map_cons]
    rw [s_v1 h1]
    refine lv_lstore_n X.1 X.2.1 hd rfl (lv' := s_ll ρ α ξ (s_put2 lo i.val v)) hl h2 (by rw [← s_ll_put2, s_v1 h1]) (fun ls hl => ?_)
    exact hih mi _ _ r h iv c n k hm h3 X hin hE hA hP hD hS hl hb0 hag
  · cases hh
theorem v_dstore (hih : s_All l D tc ξ xs ρ f) (hρ : s_ρ ρ xs) (hm : mi < s_M) {i : Nat} (hd : decode (s_by mi) pc = .ok (.dstore i, 2)) (hn : npc = pc + 2) (hh : s_sto2 f s_P mi npc lo st h iv c n k (s_tag 6) i = true) : s_Snd l D tc ξ xs ρ mi pc lo st h iv c n k := by
  intro p e R s m args below meth cc A α α0 b0 H locs ls X hin hE hA hP hD hS hl hb0 hag
  subst hn
  unfold s_sto2 at hh
  split at hh
  · next v r =>
    rw [Bool.and_eq_true, Bool.and_eq_true] at hh
    obtain ⟨h1, h2, h3⟩ := hh
    have h2 : i + 1 < (s_meta mi).1 := by simpa [Nat.blt_eq] using h2
    rw [List.map_cons]
    rw [s_v6 h1]
    refine lv_dstore X.1 X.2.1 hd (lv' := s_ll ρ α ξ (s_put2 lo i v)) hl h2 (by rw [← s_ll_put2, s_v6 h1]) (fun ls hl => ?_)
    exact hih mi _ _ r h iv c n k hm h3 X hin hE hA hP hD hS hl hb0 hag
  · cases hh
theorem v_astore (hih : s_All l D tc ξ xs ρ f) (hρ : s_ρ ρ xs) (hm : mi < s_M) {i : Nat} (hd : decode (s_by mi) pc = .ok (.astore i, 2)) (hn : npc = pc + 2) (hh : s_sto f s_P mi npc lo st h iv c n k (s_isA) i = true) : s_Snd l D tc ξ xs ρ mi pc lo st h iv c n k := by
  intro p e R s m args below meth cc A α α0 b0 H locs ls X hin hE hA hP hD hS hl hb0 hag
  subst hn
  unfold s_sto at hh
  split at hh
  · next v r =>
    rw [Bool.and_eq_true, Bool.and_eq_true] at hh
    obtain ⟨h1, h2, h3⟩ := hh
    have h2 : i < (s_meta mi).1 := by simpa [Nat.blt_eq] using h2
    rw [List.map_cons]
    rcases s_vA (ρ := ρ) (α := α) (ξ := ξ) h1 with hz | ⟨a, hz⟩
    · rw [hz]
      refine lv_astoreN X.1 X.2.1 hd (lv' := s_ll ρ α ξ (s_put lo i v)) hl h2 (by rw [← s_ll_put, hz]) (fun ls hl => ?_)
      exact hih mi _ _ r h iv c n k hm h3 X hin hE hA hP hD hS hl hb0 hag
    · rw [hz]
      refine lv_astore X.1 X.2.1 hd (lv' := s_ll ρ α ξ (s_put lo i v)) hl h2 (by rw [← s_ll_put, hz]) (fun ls hl => ?_)
      exact hih mi _ _ r h iv c n k hm h3 X hin hE hA hP hD hS hl hb0 hag
  · cases hh
theorem v_astore_n (hih : s_All l D tc ξ xs ρ f) (hρ : s_ρ ρ xs) (hm : mi < s_M) {i : Fin 4} (hd : decode (s_by mi) pc = .ok (.astore_n i, 1)) (hn : npc = pc + 1) (hh : s_sto f s_P mi npc lo st h iv c n k (s_isA) i.val = true) : s_Snd l D tc ξ xs ρ mi pc lo st h iv c n k := by
  intro p e R s m args below meth cc A α α0 b0 H locs ls X hin hE hA hP hD hS hl hb0 hag
  subst hn
  unfold s_sto at hh
  split at hh
  · next v r =>
    rw [Bool.and_eq_true, Bool.and_eq_true] at hh
    obtain ⟨h1, h2, h3⟩ := hh
    have h2 : i.val < (s_meta mi).1 := by simpa [Nat.blt_eq] using h2
    rw [List.map_cons]
    rcases s_vA (ρ := ρ) (α := α) (ξ := ξ) h1 with hz | ⟨a, hz⟩
    · rw [hz]
      refine lv_astore_nN X.1 X.2.1 hd rfl (lv' := s_ll ρ α ξ (s_put lo i.val v)) hl h2 (by rw [← s_ll_put, hz]) (fun ls hl => ?_)
      exact hih mi _ _ r h iv c n k hm h3 X hin hE hA hP hD hS hl hb0 hag
    · rw [hz]
      refine lv_astore_n X.1 X.2.1 hd rfl (lv' := s_ll ρ α ξ (s_put lo i.val v)) hl h2 (by rw [← s_ll_put, hz]) (fun ls hl => ?_)
      exact hih mi _ _ r h iv c n k hm h3 X hin hE hA hP hD hS hl hb0 hag
  · cases hh
theorem v_iadd (hih : s_All l D tc ξ xs ρ f) (hρ : s_ρ ρ xs) (hm : mi < s_M) (hd : decode (s_by mi) pc = .ok (.iadd, 1)) (hn : npc = pc + 1) (hh : s_bin f mi npc lo st h iv c n k 0 s_add = true) : s_Snd l D tc ξ xs ρ mi pc lo st h iv c n k := by
  intro p e R s m args below meth cc A α α0 b0 H locs ls X hin hE hA hP hD hS hl hb0 hag
  subst hn
  unfold s_bin at hh
  split at hh
  · next y x r =>
    rw [Bool.and_eq_true, Bool.and_eq_true] at hh
    obtain ⟨h1, h2, h3⟩ := hh
    split at h3
    · next z hz =>
      rw [List.map_cons, List.map_cons, s_v0 h1, s_v0 h2]
      refine lv_iadd X.1 X.2.1 hd ?_
      have hq := s_addI (α := α) (ξ := ξ) hin h1 h2 hz
      rw [hq]
      exact hih mi _ lo (z :: r) h iv c n k hm h3 X hin hE hA hP hD hS hl hb0 hag
    · cases h3
  · cases hh
theorem v_isub (hih : s_All l D tc ξ xs ρ f) (hρ : s_ρ ρ xs) (hm : mi < s_M) (hd : decode (s_by mi) pc = .ok (.isub, 1)) (hn : npc = pc + 1) (hh : s_bin f mi npc lo st h iv c n k 0 s_sub = true) : s_Snd l D tc ξ xs ρ mi pc lo st h iv c n k := by
  intro p e R s m args below meth cc A α α0 b0 H locs ls X hin hE hA hP hD hS hl hb0 hag
  subst hn
  unfold s_bin at hh
  split at hh
  · next y x r =>
    rw [Bool.and_eq_true, Bool.and_eq_true] at hh
    obtain ⟨h1, h2, h3⟩ := hh
    split at h3
    · next z hz =>
      rw [List.map_cons, List.map_cons, s_v0 h1, s_v0 h2]
      refine lv_isub X.1 X.2.1 hd ?_
      have hq := s_subI (α := α) (ξ := ξ) hin h1 h2 hz
      rw [hq]
      exact hih mi _ lo (z :: r) h iv c n k hm h3 X hin hE hA hP hD hS hl hb0 hag
    · cases h3
  · cases hh
theorem v_ladd (hih : s_All l D tc ξ xs ρ f) (hρ : s_ρ ρ xs) (hm : mi < s_M) (hd : decode (s_by mi) pc = .ok (.ladd, 1)) (hn : npc = pc + 1) (hh : s_bin f mi npc lo st h iv c n k 1 s_add = true) : s_Snd l D tc ξ xs ρ mi pc lo st h iv c n k := by
  intro p e R s m args below meth cc A α α0 b0 H locs ls X hin hE hA hP hD hS hl hb0 hag
  subst hn
  unfold s_bin at hh
  split at hh
  · next y x r =>
    rw [Bool.and_eq_true, Bool.and_eq_true] at hh
    obtain ⟨h1, h2, h3⟩ := hh
    split at h3
    · next z hz =>
      rw [List.map_cons, List.map_cons, s_v1 h1, s_v1 h2]
      refine lv_ladd X.1 X.2.1 hd ?_
      have hq := s_addL (α := α) (ξ := ξ) hin h1 h2 hz
      rw [hq]
      exact hih mi _ lo (z :: r) h iv c n k hm h3 X hin hE hA hP hD hS hl hb0 hag
    · cases h3
  · cases hh
theorem v_lmul (hih : s_All l D tc ξ xs ρ f) (hρ : s_ρ ρ xs) (hm : mi < s_M) (hd : decode (s_by mi) pc = .ok (.lmul, 1)) (hn : npc = pc + 1) (hh : s_bin f mi npc lo st h iv c n k 1 s_mul = true) : s_Snd l D tc ξ xs ρ mi pc lo st h iv c n k := by
  intro p e R s m args below meth cc A α α0 b0 H locs ls X hin hE hA hP hD hS hl hb0 hag
  subst hn
  unfold s_bin at hh
  split at hh
  · next y x r =>
    rw [Bool.and_eq_true, Bool.and_eq_true] at hh
    obtain ⟨h1, h2, h3⟩ := hh
    split at h3
    · next z hz =>
      rw [List.map_cons, List.map_cons, s_v1 h1, s_v1 h2]
      refine lv_lmul X.1 X.2.1 hd ?_
      obtain ⟨a, b⟩ := s_mul_n hin hρ.1 hz
      rw [← Int64.ofInt_mul, ← b, ← s_v1 (ρ := ρ) (α := α) (ξ := ξ) (s_tag_iff.mpr (a.trans (s_tag_iff.mp h1)))]
      exact hih mi _ lo (z :: r) h iv c n k hm h3 X hin hE hA hP hD hS hl hb0 hag
    · cases h3
  · cases hh
theorem v_iinc (hih : s_All l D tc ξ xs ρ f) (hρ : s_ρ ρ xs) (hm : mi < s_M) {i : Nat} {d : Int} (hd : decode (s_by mi) pc = .ok (.iinc i d, 3)) (hn : npc = pc + 3) (hh : (match s_get lo i with | some v => s_tag 0 v && (Nat.blt i (s_P.2.1 mi).1 && f mi npc (s_put lo i (0, v.2.1 + d, v.2.2)) st h iv c n k) | none => false) = true) : s_Snd l D tc ξ xs ρ mi pc lo st h iv c n k := by
  intro p e R s m args below meth cc A α α0 b0 H locs ls X hin hE hA hP hD hS hl hb0 hag
  subst hn
  split at hh
  · next v hv =>
    rw [Bool.and_eq_true, Bool.and_eq_true] at hh
    obtain ⟨h1, h2, h3⟩ := hh
    have h2 : i < (s_meta mi).1 := by simpa [Nat.blt_eq] using h2
    obtain ⟨q, hq⟩ := List.getElem?_of_mem (show (i, s_v ρ α ξ v) ∈ s_ll ρ α ξ lo from List.mem_map.mpr ⟨(i, v), s_get_v hv, rfl⟩)
    rw [s_v0 h1] at hq
    refine lv_iinc X.1 X.2.1 (v := Int32.ofInt (ρ v.2.2 + (v.2.1 + d))) (lv' := s_ll ρ α ξ (s_put lo i (0, v.2.1 + d, v.2.2))) hd hl hq ?_ h2 (by rw [← s_ll_put]; rfl) (fun ls hl => ?_)
    · rw [← Int32.ofInt_add]
      unfold s_n
      rw [Int.add_assoc]
    · exact hih mi _ _ _ h iv c n k hm h3 X hin hE hA hP hD hS hl hb0 hag
  · cases hh
theorem v_dup (hih : s_All l D tc ξ xs ρ f) (hρ : s_ρ ρ xs) (hm : mi < s_M) (hd : decode (s_by mi) pc = .ok (.dup, 1)) (hn : npc = pc + 1) (hh : (match st with | x :: r => Nat.beq (s_cat x) 1 && f mi npc lo (x :: x :: r) h iv c n k | [] => false) = true) : s_Snd l D tc ξ xs ρ mi pc lo st h iv c n k := by
  intro p e R s m args below meth cc A α α0 b0 H locs ls X hin hE hA hP hD hS hl hb0 hag
  subst hn
  split at hh
  · next x r =>
    rw [Bool.and_eq_true] at hh
    rw [List.map_cons]
    refine lv_dup X.1 X.2.1 hd (by rw [s_cat_v]; exact Nat.eq_of_beq_eq_true hh.1) ?_
    exact hih mi _ lo (x :: x :: r) h iv c n k hm hh.2 X hin hE hA hP hD hS hl hb0 hag
  · cases hh
theorem v_pop (hih : s_All l D tc ξ xs ρ f) (hρ : s_ρ ρ xs) (hm : mi < s_M) (hd : decode (s_by mi) pc = .ok (.pop, 1)) (hn : npc = pc + 1) (hh : (match st with | x :: r => Nat.beq (s_cat x) 1 && f mi npc lo r h iv c n k | [] => false) = true) : s_Snd l D tc ξ xs ρ mi pc lo st h iv c n k := by
  intro p e R s m args below meth cc A α α0 b0 H locs ls X hin hE hA hP hD hS hl hb0 hag
  subst hn
  split at hh
  · next x r =>
    rw [Bool.and_eq_true] at hh
    rw [List.map_cons]
    refine lv_pop X.1 X.2.1 hd (by rw [s_cat_v]; exact Nat.eq_of_beq_eq_true hh.1) ?_
    exact hih mi _ lo r h iv c n k hm hh.2 X hin hE hA hP hD hS hl hb0 hag
  · cases hh
theorem v_dup_x1 (hih : s_All l D tc ξ xs ρ f) (hρ : s_ρ ρ xs) (hm : mi < s_M) (hd : decode (s_by mi) pc = .ok (.dup_x1, 1)) (hn : npc = pc + 1) (hh : (match st with | x :: y :: r => Nat.beq (s_cat x) 1 && (Nat.beq (s_cat y) 1 && f mi npc lo (x :: y :: x :: r) h iv c n k) | _ => false) = true) : s_Snd l D tc ξ xs ρ mi pc lo st h iv c n k := by
  intro p e R s m args below meth cc A α α0 b0 H locs ls X hin hE hA hP hD hS hl hb0 hag
  subst hn
  split at hh
  · next x y r =>
    rw [Bool.and_eq_true, Bool.and_eq_true] at hh
    rw [List.map_cons, List.map_cons]
    refine lv_dup_x1 X.1 X.2.1 hd (by rw [s_cat_v]; exact Nat.eq_of_beq_eq_true hh.1) (by rw [s_cat_v]; exact Nat.eq_of_beq_eq_true hh.2.1) ?_
    exact hih mi _ lo (x :: y :: x :: r) h iv c n k hm hh.2.2 X hin hE hA hP hD hS hl hb0 hag
  · cases hh
theorem v_i2l (hih : s_All l D tc ξ xs ρ f) (hρ : s_ρ ρ xs) (hm : mi < s_M) (hd : decode (s_by mi) pc = .ok (.i2l, 1)) (hn : npc = pc + 1) (hh : (match st with | x :: r => s_tag 0 x && (s_r32 iv x && f mi npc lo ((1, x.2) :: r) h iv c n k) | [] => false) = true) : s_Snd l D tc ξ xs ρ mi pc lo st h iv c n k := by
  intro p e R s m args below meth cc A α α0 b0 H locs ls X hin hE hA hP hD hS hl hb0 hag
  subst hn
  split at hh
  · next x r =>
    rw [Bool.and_eq_true, Bool.and_eq_true] at hh
    obtain ⟨h1, h2, h3⟩ := hh
    rw [List.map_cons, s_v0 h1]
    refine lv_i2l X.1 X.2.1 (v := Int64.ofInt (s_n ρ x)) hd ?_ ?_
    · rw [← Int64.toInt_inj, Int32.toInt_toInt64, s_r32_v hin h2, s_r64_v hin (s_r32_64 h2)]
    · exact hih mi _ lo ((1, x.2) :: r) h iv c n k hm h3 X hin hE hA hP hD hS hl hb0 hag
  · cases hh
theorem v_l2i (hih : s_All l D tc ξ xs ρ f) (hρ : s_ρ ρ xs) (hm : mi < s_M) (hd : decode (s_by mi) pc = .ok (.l2i, 1)) (hn : npc = pc + 1) (hh : (match st with | x :: r => s_tag 1 x && (s_r32 iv x && f mi npc lo ((0, x.2) :: r) h iv c n k) | [] => false) = true) : s_Snd l D tc ξ xs ρ mi pc lo st h iv c n k := by
  intro p e R s m args below meth cc A α α0 b0 H locs ls X hin hE hA hP hD hS hl hb0 hag
  subst hn
  split at hh
  · next x r =>
    rw [Bool.and_eq_true, Bool.and_eq_true] at hh
    obtain ⟨h1, h2, h3⟩ := hh
    rw [List.map_cons, s_v1 h1]
    refine lv_l2i X.1 X.2.1 (v := Int32.ofInt (s_n ρ x)) hd ?_ ?_
    · rw [← Int32.ofInt_int64ToInt, s_r64_v hin (s_r32_64 h2)]
    · exact hih mi _ lo ((0, x.2) :: r) h iv c n k hm h3 X hin hE hA hP hD hS hl hb0 hag
  · cases hh
theorem v_goto (hih : s_All l D tc ξ xs ρ f) (hρ : s_ρ ρ xs) (hm : mi < s_M) {off : Int} {t : Nat} (hd : decode (s_by mi) pc = .ok (.goto off, 3)) (hn : npc = pc + 3) (hh : f mi t lo st h iv c n k = true) (ht : (pc : Int) + off = (t : Int)) : s_Snd l D tc ξ xs ρ mi pc lo st h iv c n k := by
  intro p e R s m args below meth cc A α α0 b0 H locs ls X hin hE hA hP hD hS hl hb0 hag
  subst hn
  refine lv_goto X.1 X.2.1 hd ht ?_
  exact hih mi _ lo _ h iv c n k hm hh X hin hE hA hP hD hS (hl) hb0 hag
end S2
end
section
section S3
variable {l : Launch} {D : va_G} {tc : Nat → ClassId} {ξ : Nat → Nat} {xs : Nat → Int32} {ρ : Nat → Int} {f : sF}
variable {mi pc npc : Nat} {lo : sL} {st : List sV} {h : List sE} {iv : sI} {c n : Nat} {k : sZ → Bool}
theorem s_cmp_go (hih : s_All l D tc ξ xs ρ f) (hm : mi < s_M) {o : Jvm.ClassFile.Cond} {x y : sV} {rest : List sV} {tgt : Nat} (hh : s_cmp f mi pc lo st h iv c n k o x y rest tgt npc = true) {p : Program} {e : Env} {R : Room} {s : State} {m : MethodId} {args : Array Value} {below : List Frame} {meth : Method} {cc : Code} {A : Nat → Prop} {α α0 : Nat → Nat} {b0 : Nat} {H : Heap} {locs : List Loc} {ls : Array Slot} (X : s_Cx mi p l R s m args meth cc) (hin : s_in ρ iv) (hE : s_Env D tc ξ xs A s) (hA : ∀ q, s.heap.size ≤ q → A q) (hP : va_P D vwCl (s_h tc ρ α ξ h) H) (hD : va_D A (s_h tc ρ α ξ h)) (hS : va_S A s.heap H locs) (hl : lv_has ls (s_meta mi).1 (s_ll ρ α ξ lo)) (hb0 : b0 ≤ h.length) (hag : s_ag α0 α b0)
    (br : (s_ho o (s_n ρ x) (s_n ρ y) → W p l e R s m args below meth cc H locs c n (vx_MQ below (s_Qc D tc ξ ρ k A α0 b0) (s_Xc D tc ξ ρ k A α0 b0) args s (s_meta mi).2.2.1 (s_meta mi).2.2.2.1 A) (F0 m tgt ls (rest.map (s_v ρ α ξ)))) → (¬ s_ho o (s_n ρ x) (s_n ρ y) → W p l e R s m args below meth cc H locs c n (vx_MQ below (s_Qc D tc ξ ρ k A α0 b0) (s_Xc D tc ξ ρ k A α0 b0) args s (s_meta mi).2.2.1 (s_meta mi).2.2.2.1 A) (F0 m npc ls (rest.map (s_v ρ α ξ)))) → W p l e R s m args below meth cc H locs c n (vx_MQ below (s_Qc D tc ξ ρ k A α0 b0) (s_Xc D tc ξ ρ k A α0 b0) args s (s_meta mi).2.2.1 (s_meta mi).2.2.2.1 A) (F0 m pc ls (st.map (s_v ρ α ξ)))) : W p l e R s m args below meth cc H locs c n (vx_MQ below (s_Qc D tc ξ ρ k A α0 b0) (s_Xc D tc ξ ρ k A α0 b0) args s (s_meta mi).2.2.1 (s_meta mi).2.2.2.1 A) (F0 m pc ls (st.map (s_v ρ α ξ))) := by
  unfold s_cmp at hh
  split at hh
  · next hd => exact br (fun _ => hih mi tgt lo rest h iv c n k hm hh X hin hE hA hP hD hS hl hb0 hag) (fun q => absurd ((s_dec_v hin hd).mpr rfl) q)
  · next hd => exact br (fun q => absurd ((s_dec_v hin hd).mp q) (by simp)) (fun _ => hih mi npc lo rest h iv c n k hm hh X hin hE hA hP hD hS hl hb0 hag)
  · unfold s_spl at hh
    rw [Bool.and_eq_true] at hh
    rcases s_spl_v hin (s_cut o iv x y).1 (s_cut o iv x y).2 with q | q
    · exact hih mi pc lo st h _ c n k hm hh.1 X q hE hA hP hD hS hl hb0 hag
    · exact hih mi pc lo st h _ c n k hm hh.2 X q hE hA hP hD hS hl hb0 hag
theorem s_iL {u v : Int} (hu : (Int32.ofInt u).toInt = u) (hv : (Int32.ofInt v).toInt = v) : (Int32.ofInt u < Int32.ofInt v ↔ u < v) ∧ (Int32.ofInt u ≤ Int32.ofInt v ↔ u ≤ v) ∧ (Int32.ofInt u = Int32.ofInt v ↔ u = v) := by
  refine ⟨?_, ?_, ?_⟩
  · rw [Int32.lt_iff_toInt_lt, hu, hv]
  · rw [Int32.le_iff_toInt_le, hu, hv]
  · rw [← Int32.toInt_inj, hu, hv]
theorem s_lL {u v : Int} (hu : (Int64.ofInt u).toInt = u) (hv : (Int64.ofInt v).toInt = v) : (Int64.ofInt u < Int64.ofInt v ↔ u < v) ∧ (Int64.ofInt u = Int64.ofInt v ↔ u = v) := by
  refine ⟨?_, ?_⟩
  · rw [Int64.lt_iff_toInt_lt, hu, hv]
  · rw [← Int64.toInt_inj, hu, hv]
theorem v_icmp (hih : s_All l D tc ξ xs ρ f) (hρ : s_ρ ρ xs) (hm : mi < s_M) {o : Jvm.ClassFile.Cond} {off : Int} {tgt : Nat} (hd : decode (s_by mi) pc = .ok (.if_icmp o off, 3)) (hn : npc = pc + 3) (ht : (pc : Int) + off = (tgt : Int)) (hh : s_icm f mi pc npc lo st h iv c n k o tgt = true) : s_Snd l D tc ξ xs ρ mi pc lo st h iv c n k := by
  intro p e R s m args below meth cc A α α0 b0 H locs ls X hin hE hA hP hD hS hl hb0 hag
  unfold s_icm at hh
  split at hh
  · next y x r =>
    rw [Bool.and_eq_true, Bool.and_eq_true, Bool.and_eq_true, Bool.and_eq_true] at hh
    obtain ⟨h1, h2, h3, h4, h5⟩ := hh
    have a1 := s_iL (s_r32_v hin h3) (s_r32_v hin h4)
    have a2 := s_iL (s_r32_v hin h4) (s_r32_v hin h3)
    refine s_cmp_go hih hm h5 X hin hE hA hP hD hS hl hb0 hag (fun kt kf => ?_)
    subst hn
    rw [List.map_cons, List.map_cons, s_v0 h1, s_v0 h2]
    cases o
    · exact lv_icmp_eq X.1 X.2.1 hd ht (fun q => kt (by simp only [s_ho]; first | exact a1.1.mp q | exact a2.1.mp q | exact a1.2.1.mp q | exact a2.2.1.mp q | exact a1.2.2.mp q | exact fun z => q (a1.2.2.mpr z))) (fun q => kf (by simp only [s_ho]; first | exact fun z => q (a1.1.mpr z) | exact fun z => q (a2.1.mpr z) | exact fun z => q (a1.2.1.mpr z) | exact fun z => q (a2.2.1.mpr z) | exact fun z => q (a1.2.2.mpr z) | exact fun z => q (fun w => z (a1.2.2.mp w)) | exact fun z => z (a1.2.2.mp q)))
    · exact lv_icmp_ne X.1 X.2.1 hd ht (fun q => kt (by simp only [s_ho]; first | exact a1.1.mp q | exact a2.1.mp q | exact a1.2.1.mp q | exact a2.2.1.mp q | exact a1.2.2.mp q | exact fun z => q (a1.2.2.mpr z))) (fun q => kf (by simp only [s_ho]; first | exact fun z => q (a1.1.mpr z) | exact fun z => q (a2.1.mpr z) | exact fun z => q (a1.2.1.mpr z) | exact fun z => q (a2.2.1.mpr z) | exact fun z => q (a1.2.2.mpr z) | exact fun z => q (fun w => z (a1.2.2.mp w)) | exact fun z => z (a1.2.2.mp q)))
    · exact lv_icmp_lt X.1 X.2.1 hd ht (fun q => kt (by simp only [s_ho]; first | exact a1.1.mp q | exact a2.1.mp q | exact a1.2.1.mp q | exact a2.2.1.mp q | exact a1.2.2.mp q | exact fun z => q (a1.2.2.mpr z))) (fun q => kf (by simp only [s_ho]; first | exact fun z => q (a1.1.mpr z) | exact fun z => q (a2.1.mpr z) | exact fun z => q (a1.2.1.mpr z) | exact fun z => q (a2.2.1.mpr z) | exact fun z => q (a1.2.2.mpr z) | exact fun z => q (fun w => z (a1.2.2.mp w)) | exact fun z => z (a1.2.2.mp q)))
    · exact lv_icmp_ge X.1 X.2.1 hd ht (fun q => kt (by simp only [s_ho]; first | exact a1.1.mp q | exact a2.1.mp q | exact a1.2.1.mp q | exact a2.2.1.mp q | exact a1.2.2.mp q | exact fun z => q (a1.2.2.mpr z))) (fun q => kf (by simp only [s_ho]; first | exact fun z => q (a1.1.mpr z) | exact fun z => q (a2.1.mpr z) | exact fun z => q (a1.2.1.mpr z) | exact fun z => q (a2.2.1.mpr z) | exact fun z => q (a1.2.2.mpr z) | exact fun z => q (fun w => z (a1.2.2.mp w)) | exact fun z => z (a1.2.2.mp q)))
    · exact lv_icmp_gt X.1 X.2.1 hd ht (fun q => kt (by simp only [s_ho]; first | exact a1.1.mp q | exact a2.1.mp q | exact a1.2.1.mp q | exact a2.2.1.mp q | exact a1.2.2.mp q | exact fun z => q (a1.2.2.mpr z))) (fun q => kf (by simp only [s_ho]; first | exact fun z => q (a1.1.mpr z) | exact fun z => q (a2.1.mpr z) | exact fun z => q (a1.2.1.mpr z) | exact fun z => q (a2.2.1.mpr z) | exact fun z => q (a1.2.2.mpr z) | exact fun z => q (fun w => z (a1.2.2.mp w)) | exact fun z => z (a1.2.2.mp q)))
    · exact lv_icmp_le X.1 X.2.1 hd ht (fun q => kt (by simp only [s_ho]; first | exact a1.1.mp q | exact a2.1.mp q | exact a1.2.1.mp q | exact a2.2.1.mp q | exact a1.2.2.mp q | exact fun z => q (a1.2.2.mpr z))) (fun q => kf (by simp only [s_ho]; first | exact fun z => q (a1.1.mpr z) | exact fun z => q (a2.1.mpr z) | exact fun z => q (a1.2.1.mpr z) | exact fun z => q (a2.2.1.mpr z) | exact fun z => q (a1.2.2.mpr z) | exact fun z => q (fun w => z (a1.2.2.mp w)) | exact fun z => z (a1.2.2.mp q)))
  · cases hh
theorem v_ifc (hih : s_All l D tc ξ xs ρ f) (hρ : s_ρ ρ xs) (hm : mi < s_M) {o : Jvm.ClassFile.Cond} {off : Int} {tgt : Nat} (hd : decode (s_by mi) pc = .ok (.ifCond o off, 3)) (hn : npc = pc + 3) (ht : (pc : Int) + off = (tgt : Int)) (hh : s_ifc f mi pc npc lo st h iv c n k o tgt = true) : s_Snd l D tc ξ xs ρ mi pc lo st h iv c n k := by
  intro p e R s m args below meth cc A α α0 b0 H locs ls X hin hE hA hP hD hS hl hb0 hag
  unfold s_ifc at hh
  split at hh
  · next x r =>
    rw [Bool.and_eq_true, Bool.and_eq_true] at hh
    obtain ⟨h1, h3, h5⟩ := hh
    have e0 : s_n ρ (0, 0, 0) = 0 := by
      show ρ 0 + 0 = 0
      rw [hρ.1]
      rfl
    have a1 := s_iL (s_r32_v hin h3) (show (Int32.ofInt 0).toInt = 0 by decide)
    have a2 := s_iL (show (Int32.ofInt 0).toInt = 0 by decide) (s_r32_v hin h3)
    refine s_cmp_go hih hm h5 X hin hE hA hP hD hS hl hb0 hag (fun kt kf => ?_)
    rw [e0] at kt kf
    subst hn
    rw [List.map_cons, s_v0 h1]
    cases o
    · exact lv_if_eq X.1 X.2.1 hd ht (fun q => kt (by simp only [s_ho]; first | exact a1.1.mp q | exact a2.1.mp q | exact a1.2.1.mp q | exact a2.2.1.mp q | exact a1.2.2.mp q | exact fun z => q (a1.2.2.mpr z))) (fun q => kf (by simp only [s_ho]; first | exact fun z => q (a1.1.mpr z) | exact fun z => q (a2.1.mpr z) | exact fun z => q (a1.2.1.mpr z) | exact fun z => q (a2.2.1.mpr z) | exact fun z => q (a1.2.2.mpr z) | exact fun z => q (fun w => z (a1.2.2.mp w)) | exact fun z => z (a1.2.2.mp q)))
    · exact lv_if_ne X.1 X.2.1 hd ht (fun q => kt (by simp only [s_ho]; first | exact a1.1.mp q | exact a2.1.mp q | exact a1.2.1.mp q | exact a2.2.1.mp q | exact a1.2.2.mp q | exact fun z => q (a1.2.2.mpr z))) (fun q => kf (by simp only [s_ho]; first | exact fun z => q (a1.1.mpr z) | exact fun z => q (a2.1.mpr z) | exact fun z => q (a1.2.1.mpr z) | exact fun z => q (a2.2.1.mpr z) | exact fun z => q (a1.2.2.mpr z) | exact fun z => q (fun w => z (a1.2.2.mp w)) | exact fun z => z (a1.2.2.mp q)))
    · exact lv_if_lt X.1 X.2.1 hd ht (fun q => kt (by simp only [s_ho]; first | exact a1.1.mp q | exact a2.1.mp q | exact a1.2.1.mp q | exact a2.2.1.mp q | exact a1.2.2.mp q | exact fun z => q (a1.2.2.mpr z))) (fun q => kf (by simp only [s_ho]; first | exact fun z => q (a1.1.mpr z) | exact fun z => q (a2.1.mpr z) | exact fun z => q (a1.2.1.mpr z) | exact fun z => q (a2.2.1.mpr z) | exact fun z => q (a1.2.2.mpr z) | exact fun z => q (fun w => z (a1.2.2.mp w)) | exact fun z => z (a1.2.2.mp q)))
    · exact lv_if_ge X.1 X.2.1 hd ht (fun q => kt (by simp only [s_ho]; first | exact a1.1.mp q | exact a2.1.mp q | exact a1.2.1.mp q | exact a2.2.1.mp q | exact a1.2.2.mp q | exact fun z => q (a1.2.2.mpr z))) (fun q => kf (by simp only [s_ho]; first | exact fun z => q (a1.1.mpr z) | exact fun z => q (a2.1.mpr z) | exact fun z => q (a1.2.1.mpr z) | exact fun z => q (a2.2.1.mpr z) | exact fun z => q (a1.2.2.mpr z) | exact fun z => q (fun w => z (a1.2.2.mp w)) | exact fun z => z (a1.2.2.mp q)))
    · exact lv_if_gt X.1 X.2.1 hd ht (fun q => kt (by simp only [s_ho]; first | exact a1.1.mp q | exact a2.1.mp q | exact a1.2.1.mp q | exact a2.2.1.mp q | exact a1.2.2.mp q | exact fun z => q (a1.2.2.mpr z))) (fun q => kf (by simp only [s_ho]; first | exact fun z => q (a1.1.mpr z) | exact fun z => q (a2.1.mpr z) | exact fun z => q (a1.2.1.mpr z) | exact fun z => q (a2.2.1.mpr z) | exact fun z => q (a1.2.2.mpr z) | exact fun z => q (fun w => z (a1.2.2.mp w)) | exact fun z => z (a1.2.2.mp q)))
    · exact lv_if_le X.1 X.2.1 hd ht (fun q => kt (by simp only [s_ho]; first | exact a1.1.mp q | exact a2.1.mp q | exact a1.2.1.mp q | exact a2.2.1.mp q | exact a1.2.2.mp q | exact fun z => q (a1.2.2.mpr z))) (fun q => kf (by simp only [s_ho]; first | exact fun z => q (a1.1.mpr z) | exact fun z => q (a2.1.mpr z) | exact fun z => q (a1.2.1.mpr z) | exact fun z => q (a2.2.1.mpr z) | exact fun z => q (a1.2.2.mpr z) | exact fun z => q (fun w => z (a1.2.2.mp w)) | exact fun z => z (a1.2.2.mp q)))
  · cases hh
theorem v_lcm (hih : s_All l D tc ξ xs ρ f) (hρ : s_ρ ρ xs) (hm : mi < s_M) (hd : decode (s_by mi) pc = .ok (.lcmp, 1)) (hn : npc = pc + 1) (hh : s_lcm f s_P mi pc npc lo st h iv c n k = true) : s_Snd l D tc ξ xs ρ mi pc lo st h iv c n k := by
  intro p e R s m args below meth cc A α α0 b0 H locs ls X hin hE hA hP hD hS hl hb0 hag
  unfold s_lcm at hh
  split at hh
  · next y x r =>
    rw [Bool.and_eq_true, Bool.and_eq_true, Bool.and_eq_true, Bool.and_eq_true] at hh
    obtain ⟨h1, h2, h3, h4, h5⟩ := hh
    split at h5
    · next e9 hf =>
      split at h5
      · next o off he =>
        obtain ⟨d1, d2, d3⟩ := s_row hm hf
        obtain ⟨t9, i9, n9, f9⟩ := e9
        dsimp only at he d1 d2 d3 h5
        subst he
        have d1 : decode (s_by mi) npc = .ok (.ifCond o off, 3) := d1
        have d2 : n9 = npc + 3 := d2
        have a1 := s_lL (s_r64_v hin h3) (s_r64_v hin h4)
        have a2 := s_lL (s_r64_v hin h4) (s_r64_v hin h3)
        refine s_cmp_go hih hm h5 X hin hE hA hP hD hS hl hb0 hag (fun kt kf => ?_)
        have ht : (npc : Int) + off = (s_tgt f9 : Int) := by
          have h0 : t9 = npc := (s_find_v hf).2
          have q : s_off (t9, .ifCond o off, n9, f9) off = true := d3
          have q := of_decide_eq_true q
          rw [← h0]
          exact q
        subst hn
        subst d2
        rw [List.map_cons, List.map_cons, s_v1 h1, s_v1 h2]
        refine W.lcmp X.1 X.2.1 hd ?_
        have v1 : lg_cmp (Int64.ofInt (s_n ρ x)) (Int64.ofInt (s_n ρ y)) = if s_n ρ y < s_n ρ x then 1 else if s_n ρ x < s_n ρ y then -1 else 0 := by
          unfold lg_cmp
          by_cases z1 : s_n ρ y < s_n ρ x
          · simp [a2.1.mpr z1, z1]
          · by_cases z2 : s_n ρ x < s_n ρ y
            · simp [z1, z2, a1.1, a2.1]
              try (intro w; exfalso; have := a1.2.mp w; omega)
            · have z3 : s_n ρ x = s_n ρ y := by omega
              simp [z3]
        rw [v1]
        cases o
        · exact lv_if_eq X.1 X.2.1 d1 ht (fun q => kt (by simp only [s_ho]; revert q; split <;> (try split) <;> intro q <;> first | omega | (exfalso; revert q; decide) | skip)) (fun q => kf (by simp only [s_ho]; revert q; split <;> (try split) <;> intro q <;> first | omega | (exfalso; revert q; decide) | skip))
        · exact lv_if_ne X.1 X.2.1 d1 ht (fun q => kt (by simp only [s_ho]; revert q; split <;> (try split) <;> intro q <;> first | omega | (exfalso; revert q; decide) | skip)) (fun q => kf (by simp only [s_ho]; revert q; split <;> (try split) <;> intro q <;> first | omega | (exfalso; revert q; decide) | skip))
        · exact lv_if_lt X.1 X.2.1 d1 ht (fun q => kt (by simp only [s_ho]; revert q; split <;> (try split) <;> intro q <;> first | omega | (exfalso; revert q; decide) | skip)) (fun q => kf (by simp only [s_ho]; revert q; split <;> (try split) <;> intro q <;> first | omega | (exfalso; revert q; decide) | skip))
        · exact lv_if_ge X.1 X.2.1 d1 ht (fun q => kt (by simp only [s_ho]; revert q; split <;> (try split) <;> intro q <;> first | omega | (exfalso; revert q; decide) | skip)) (fun q => kf (by simp only [s_ho]; revert q; split <;> (try split) <;> intro q <;> first | omega | (exfalso; revert q; decide) | skip))
        · exact lv_if_gt X.1 X.2.1 d1 ht (fun q => kt (by simp only [s_ho]; revert q; split <;> (try split) <;> intro q <;> first | omega | (exfalso; revert q; decide) | skip)) (fun q => kf (by simp only [s_ho]; revert q; split <;> (try split) <;> intro q <;> first | omega | (exfalso; revert q; decide) | skip))
        · exact lv_if_le X.1 X.2.1 d1 ht (fun q => kt (by simp only [s_ho]; revert q; split <;> (try split) <;> intro q <;> first | omega | (exfalso; revert q; decide) | skip)) (fun q => kf (by simp only [s_ho]; revert q; split <;> (try split) <;> intro q <;> first | omega | (exfalso; revert q; decide) | skip))
      · cases h5
    · cases h5
  · cases hh
end S3
end
section
section S4
variable {l : Launch} {D : va_G} {tc : Nat → ClassId} {ξ : Nat → Nat} {xs : Nat → Int32} {ρ : Nat → Int} {f : sF}
variable {mi pc npc : Nat} {lo : sL} {st : List sV} {h : List sE} {iv : sI} {c n : Nat} {k : sZ → Bool}
theorem s_nat {a : Int} (h0 : 0 ≤ a) (h1 : a < 4294967296) : ∃ m : Nat, a = (m : Int) ∧ m < 2 ^ 32 ∧ Int32.ofInt a = nI m := by
  obtain ⟨m, rfl⟩ := Int.eq_ofNat_of_zero_le h0
  exact ⟨m, rfl, by omega, rfl⟩
theorem s_i2c_v {a : Int} (h0 : 0 ≤ a) (h1 : a ≤ 65535) : ((Int32.ofInt a).toUInt32 % 65536).toInt32 = Int32.ofInt a := by
  obtain ⟨m, hm, h2, h3⟩ := s_nat h0 (by omega)
  rw [h3, pk_char, pk_tn h2, Nat.mod_eq_of_lt (by omega)]
theorem s_i2b_v {a : Int} (h0 : -128 ≤ a) (h1 : a ≤ 127) : (Int32.ofInt a).toInt8.toInt32 = Int32.ofInt a := by
  rw [← Int32.toInt_inj, Int8.toInt_toInt32, Int32.toInt_toInt8, Int32.toInt_ofInt_of_le (by show -(2:Int)^31 ≤ _; omega) (by show _ < (2:Int)^31; omega)]
  rw [Int.bmod_def]
  split <;> omega
theorem s_i2b_w {a : Int} (h0 : 128 ≤ a) (h1 : a ≤ 255) : (Int32.ofInt a).toInt8.toInt32 = Int32.ofInt (a - 256) := by
  rw [← Int32.toInt_inj, Int8.toInt_toInt32, Int32.toInt_toInt8, Int32.toInt_ofInt_of_le (by show -(2:Int)^31 ≤ _; omega) (by show _ < (2:Int)^31; omega), Int32.toInt_ofInt_of_le (by show -(2:Int)^31 ≤ _; omega) (by show _ < (2:Int)^31; omega)]
  rw [Int.bmod_def]
  split <;> omega
theorem v_i2c (hih : s_All l D tc ξ xs ρ f) (hρ : s_ρ ρ xs) (hm : mi < s_M) (hd : decode (s_by mi) pc = .ok (.i2c, 1)) (hn : npc = pc + 1) (hh : s_i2c f mi pc npc lo st h iv c n k = true) : s_Snd l D tc ξ xs ρ mi pc lo st h iv c n k := by
  intro p e R s m args below meth cc A α α0 b0 H locs ls X hin hE hA hP hD hS hl hb0 hag
  unfold s_i2c at hh
  split at hh
  · next x r =>
    rw [Bool.and_eq_true] at hh
    obtain ⟨h1, h2⟩ := hh
    subst hn
    rw [List.map_cons]
    split at h2
    · next hr =>
      have q := s_rg_v hin hr
      rw [s_v0 h1]
      refine lv_i2c X.1 X.2.1 (v := Int32.ofInt (s_n ρ x)) hd (s_i2c_v q.1 q.2) ?_
      rw [← s_v0 (ρ := ρ) (α := α) (ξ := ξ) h1]
      exact hih mi _ lo (x :: r) h iv c n k hm h2 X hin hE hA hP hD hS hl hb0 hag
    · split at h2
      · next hr =>
        rw [Bool.and_eq_true, Bool.and_eq_true, Bool.and_eq_true, s_ile_iff, s_ile_iff] at hr
        obtain ⟨q1, q2, q3, q4⟩ := hr
        have q3 := Nat.le_of_ble_eq_true q3
        have q4 := Nat.le_of_ble_eq_true q4
        obtain ⟨j, hj⟩ : ∃ j, x.2.2 = j + 1 := ⟨x.2.2 - 1, by omega⟩
        have hz := hρ.2.1 j (by omega)
        rw [s_v0 h1]
        have e1 : s_n ρ x = (xs j).toInt := by
          unfold s_n
          rw [hj, hz.1]
          omega
        refine lv_i2c X.1 X.2.1 (v := Int32.ofInt (ρ (x.2.2 + 10) + 0)) hd ?_ ?_
        · rw [e1, Int32.ofInt_toInt, ← hz.2, hj, Int.add_zero]
        · exact hih mi _ lo ((0, 0, x.2.2 + 10) :: r) h iv c n k hm h2 X hin hE hA hP hD hS hl hb0 hag
      · cases h2
  · cases hh
theorem v_i2b (hih : s_All l D tc ξ xs ρ f) (hρ : s_ρ ρ xs) (hm : mi < s_M) (hd : decode (s_by mi) pc = .ok (.i2b, 1)) (hn : npc = pc + 1) (hh : s_i2b f mi pc npc lo st h iv c n k = true) : s_Snd l D tc ξ xs ρ mi pc lo st h iv c n k := by
  intro p e R s m args below meth cc A α α0 b0 H locs ls X hin hE hA hP hD hS hl hb0 hag
  unfold s_i2b at hh
  split at hh
  · next x r =>
    rw [Bool.and_eq_true] at hh
    obtain ⟨h1, h2⟩ := hh
    split at h2
    · next hr =>
      have q := s_rg_v hin hr
      subst hn
      rw [List.map_cons, s_v0 h1]
      refine lv_i2b X.1 X.2.1 (v := Int32.ofInt (s_n ρ x)) hd (s_i2b_v q.1 q.2) ?_
      rw [← s_v0 (ρ := ρ) (α := α) (ξ := ξ) h1]
      exact hih mi _ lo (x :: r) h iv c n k hm h2 X hin hE hA hP hD hS hl hb0 hag
    · split at h2
      · next hr =>
        have q := s_rg_v hin hr
        subst hn
        rw [List.map_cons, s_v0 h1]
        refine lv_i2b X.1 X.2.1 (v := Int32.ofInt (ρ x.2.2 + (x.2.1 - 256))) hd ?_ ?_
        · rw [s_i2b_w q.1 q.2]
          unfold s_n
          congr 1
          omega
        · exact hih mi _ lo ((0, x.2.1 - 256, x.2.2) :: r) h iv c n k hm h2 X hin hE hA hP hD hS hl hb0 hag
      · unfold s_spl at h2
        rw [Bool.and_eq_true] at h2
        rcases s_spl_v hin _ _ with q | q
        · exact hih mi pc lo _ h _ c n k hm h2.1 X q hE hA hP hD hS hl hb0 hag
        · exact hih mi pc lo _ h _ c n k hm h2.2 X q hE hA hP hD hS hl hb0 hag
  · cases hh
theorem v_ush (hih : s_All l D tc ξ xs ρ f) (hρ : s_ρ ρ xs) (hm : mi < s_M) (hd : decode (s_by mi) pc = .ok (.iushr, 1)) (hn : npc = pc + 1) (hh : s_ush f mi pc npc lo st h iv c n k = true) : s_Snd l D tc ξ xs ρ mi pc lo st h iv c n k := by
  intro p e R s m args below meth cc A α α0 b0 H locs ls X hin hE hA hP hD hS hl hb0 hag
  unfold s_ush at hh
  split at hh
  · next y x r =>
    rw [Bool.and_eq_true, Bool.and_eq_true, Bool.and_eq_true] at hh
    obtain ⟨h1, h3, h4, h2⟩ := hh
    have q8 := s_rg_v hin h4
    have e8 : s_n ρ y = 8 := by omega
    split at h2
    · next hr =>
      have q := s_rg_v hin hr
      subst hn
      rw [List.map_cons, List.map_cons, s_v0 h1, s_v0 h3, e8]
      obtain ⟨m, hm1, hm2, hm3⟩ := s_nat q.1 (by omega)
      refine lv_iushr X.1 X.2.1 (v := Int32.ofInt (ρ 0 + 0)) hd ?_ ?_
      · rw [hm3, pk_ushrN hm2 _ 8 (by decide), Nat.div_eq_of_lt (by omega), hρ.1]
        rfl
      · exact hih mi _ lo ((0, 0, 0) :: r) h iv c n k hm h2 X hin hE hA hP hD hS hl hb0 hag
    · split at h2
      · next hr =>
        rw [Bool.and_eq_true, Bool.and_eq_true, Bool.and_eq_true, s_ile_iff, s_ile_iff] at hr
        obtain ⟨q0, q1, q2, q3⟩ := hr
        have q := s_rg_v hin q0
        have q1 := Nat.eq_of_beq_eq_true q1
        have e1 : s_n ρ x = ρ 13 := by
          unfold s_n
          rw [q1]
          omega
        rw [e1] at q
        have e2 := hρ.2.2.2.1 q.1 q.2
        subst hn
        rw [List.map_cons, List.map_cons, s_v0 h1, s_v0 h3, e8, e1]
        obtain ⟨m, hm1, hm2, hm3⟩ := s_nat (a := ρ 13) (by omega) (by omega)
        refine lv_iushr X.1 X.2.1 (v := Int32.ofInt (ρ 33 + 0)) hd ?_ ?_
        · rw [hm3, pk_ushrN hm2 _ 8 (by decide), e2, hm1]
          rfl
        · exact hih mi _ lo ((0, 0, 33) :: r) h iv c n k hm h2 X hin hE hA hP hD hS hl hb0 hag
      · unfold s_spl at h2
        rw [Bool.and_eq_true] at h2
        rcases s_spl_v hin _ _ with q | q
        · exact hih mi pc lo _ h _ c n k hm h2.1 X q hE hA hP hD hS hl hb0 hag
        · exact hih mi pc lo _ h _ c n k hm h2.2 X q hE hA hP hD hS hl hb0 hag
  · cases hh
theorem v_shr (hih : s_All l D tc ξ xs ρ f) (hρ : s_ρ ρ xs) (hm : mi < s_M) (hd : decode (s_by mi) pc = .ok (.ishr, 1)) (hn : npc = pc + 1) (hh : s_shr f mi npc lo st h iv c n k = true) : s_Snd l D tc ξ xs ρ mi pc lo st h iv c n k := by
  intro p e R s m args below meth cc A α α0 b0 H locs ls X hin hE hA hP hD hS hl hb0 hag
  unfold s_shr at hh
  split at hh
  · next y x r =>
    rw [Bool.and_eq_true, Bool.and_eq_true, Bool.and_eq_true] at hh
    obtain ⟨h1, h3, h4, h2⟩ := hh
    have q8 := s_rg_v hin h4
    have e8 : s_n ρ y = 0 := by omega
    subst hn
    rw [List.map_cons, List.map_cons, s_v0 h1, s_v0 h3, e8]
    refine lv_ishr X.1 X.2.1 hd ?_
    have e : (Int32.ofInt (s_n ρ x)) >>> ((Int32.ofInt 0) &&& 31) = Int32.ofInt (s_n ρ x) := by
      rw [← Int32.toInt_inj, pk_shr _ _ 0 (by decide)]
      simp
    rw [e, ← s_v0 (ρ := ρ) (α := α) (ξ := ξ) h1]
    exact hih mi _ lo (x :: r) h iv c n k hm h2 X hin hE hA hP hD hS hl hb0 hag
  · cases hh
theorem v_and (hih : s_All l D tc ξ xs ρ f) (hρ : s_ρ ρ xs) (hm : mi < s_M) (hd : decode (s_by mi) pc = .ok (.iand, 1)) (hn : npc = pc + 1) (hh : s_and f mi npc lo st h iv c n k = true) : s_Snd l D tc ξ xs ρ mi pc lo st h iv c n k := by
  intro p e R s m args below meth cc A α α0 b0 H locs ls X hin hE hA hP hD hS hl hb0 hag
  unfold s_and at hh
  split at hh
  · next y x r =>
    rw [Bool.and_eq_true, Bool.and_eq_true, Bool.and_eq_true, Bool.and_eq_true, Bool.and_eq_true, Bool.and_eq_true, s_ile_iff, s_ile_iff] at hh
    obtain ⟨h1, h3, h4, h5, h6, h7, h2⟩ := hh
    have q8 := s_rg_v hin h4
    have e8 : s_n ρ y = 63 := by omega
    have h5 := Nat.eq_of_beq_eq_true h5
    have e1 : s_n ρ x = (xs 0).toInt := by
      unfold s_n
      rw [h5, (hρ.2.1 0 (by omega)).1]
      omega
    subst hn
    rw [List.map_cons, List.map_cons, s_v0 h1, s_v0 h3, e8, e1, Int32.ofInt_toInt]
    refine lv_iand X.1 X.2.1 hd ?_
    have e : xs 0 &&& Int32.ofInt 63 = Int32.ofInt (ρ 21 + 0) := by
      rw [Int.add_zero, hρ.2.2.1]
      rfl
    rw [e]
    exact hih mi _ lo ((0, 0, 21) :: r) h iv c n k hm h2 X hin hE hA hP hD hS hl hb0 hag
  · cases hh
theorem v_tab (hih : s_All l D tc ξ xs ρ f) (hρ : s_ρ ρ xs) (hm : mi < s_M) {d lw hw : Int} {offs : Array Int} {info : List Nat} {ln : Nat} (hd : decode (s_by mi) pc = .ok (.tableswitch d lw hw offs, ln)) (ht : (pc : Int) + d = (s_tgt info : Int)) (hsz : hw - lw + 1 = (offs.size : Int)) (hoff : offs.toList.map (fun o => (pc : Int) + o) = info.tail.map (fun t : Nat => (t : Int))) (hh : s_tab f mi pc lo st h iv c n k lw info = true) : s_Snd l D tc ξ xs ρ mi pc lo st h iv c n k := by
  intro p e R s m args below meth cc A α α0 b0 H locs ls X hin hE hA hP hD hS hl hb0 hag
  unfold s_tab at hh
  split at hh
  · next x r =>
    rw [Bool.and_eq_true, Bool.and_eq_true] at hh
    obtain ⟨h1, h2, h3⟩ := hh
    split at h3
    · next hk =>
      have e1 := s_isk_v hin hk
      have e2 := s_r32_v hin h2
      rw [List.map_cons, s_v0 h1]
      split at h3
      · next j hj =>
        have hj : s_lo iv x - lw = (j : Int) := hj
        split at h3
        · next t htt =>
          have hlen : j < info.tail.length := (List.getElem?_eq_some_iff.mp htt).1
          have hl2 := congrArg List.length hoff
          rw [List.length_map, List.length_map, Array.length_toList] at hl2
          have hg : (offs.toList.map (fun o => (pc : Int) + o))[j]? = some (t : Int) := by
            rw [hoff, List.getElem?_map, htt]
            rfl
          rw [List.getElem?_map] at hg
          cases ho : offs.toList[j]? with
          | none => rw [ho] at hg; cases hg
          | some o =>
            rw [ho] at hg
            have hg : (pc : Int) + o = (t : Int) := Option.some.inj hg
            refine lv_tableIn X.1 X.2.1 (off := o) (tgt := t) hd (by omega) (by omega) ?_ hg ?_
            · have : ((Int32.ofInt (s_n ρ x)).toInt - lw).toNat = j := by omega
              rw [this, ← Array.getElem?_toList]
              exact ho
            · exact hih mi t lo r h iv c n k hm h3 X hin hE hA hP hD hS hl hb0 hag
        · next htt =>
          have hlen : info.tail.length ≤ j := List.getElem?_eq_none_iff.mp htt
          have hl2 := congrArg List.length hoff
          rw [List.length_map, List.length_map, Array.length_toList] at hl2
          refine lv_tableOut X.1 X.2.1 hd (Or.inr (by omega)) ht ?_
          exact hih mi _ lo r h iv c n k hm h3 X hin hE hA hP hD hS hl hb0 hag
      · next hj =>
        have hneg : s_lo iv x - lw < 0 := by
          by_cases q : s_lo iv x - lw < 0
          · exact q
          · obtain ⟨j, hj2⟩ := Int.eq_ofNat_of_zero_le (show 0 ≤ s_lo iv x - lw by omega)
            exact absurd hj2 (hj j)
        refine lv_tableOut X.1 X.2.1 hd (Or.inl (by omega)) ht ?_
        exact hih mi _ lo r h iv c n k hm h3 X hin hE hA hP hD hS hl hb0 hag
    · unfold s_spl at h3
      rw [Bool.and_eq_true] at h3
      rcases s_spl_v hin _ _ with q | q
      · exact hih mi pc lo _ h _ c n k hm h3.1 X q hE hA hP hD hS hl hb0 hag
      · exact hih mi pc lo _ h _ c n k hm h3.2 X q hE hA hP hD hS hl hb0 hag
  · cases hh
theorem s_v2 {α : Nat → Nat} {x : sV} (h : x.1 = 2) : s_v ρ α ξ x = .null := by
  obtain ⟨t, c, n⟩ := x
  cases h
  rfl
theorem s_v3 {α : Nat → Nat} {x : sV} (h : x.1 = 3) : s_v ρ α ξ x = .ref (α x.2.2) := by
  obtain ⟨t, c, n⟩ := x
  cases h
  rfl
theorem s_v4 {α : Nat → Nat} {x : sV} (h : x.1 = 4) : s_v ρ α ξ x = .ref (ξ x.2.2) := by
  obtain ⟨t, c, n⟩ := x
  cases h
  rfl
theorem v_ifnull (hih : s_All l D tc ξ xs ρ f) (hρ : s_ρ ρ xs) (hm : mi < s_M) {off : Int} {tgt : Nat} (hd : decode (s_by mi) pc = .ok (.ifnull off, 3)) (hn : npc = pc + 3) (ht : (pc : Int) + off = (tgt : Int)) (hh : s_nul f mi npc lo st h iv c n k tgt = true) : s_Snd l D tc ξ xs ρ mi pc lo st h iv c n k := by
  intro p e R s m args below meth cc A α α0 b0 H locs ls X hin hE hA hP hD hS hl hb0 hag
  unfold s_nul at hh
  split at hh
  · next x r =>
    subst hn
    rw [List.map_cons]
    split at hh
    · next he =>
      rw [s_v2 he]
      refine lv_ifnullN X.1 X.2.1 hd ht ?_
      exact hih mi _ lo r h iv c n k hm hh X hin hE hA hP hD hS hl hb0 hag
    · next he =>
      rw [s_v3 he]
      refine lv_ifnull X.1 X.2.1 hd ?_
      exact hih mi _ lo r h iv c n k hm hh X hin hE hA hP hD hS hl hb0 hag
    · next he =>
      rw [s_v4 he]
      refine lv_ifnull X.1 X.2.1 hd ?_
      exact hih mi _ lo r h iv c n k hm hh X hin hE hA hP hD hS hl hb0 hag
    · cases hh
  · cases hh
theorem v_ifnonnull (hih : s_All l D tc ξ xs ρ f) (hρ : s_ρ ρ xs) (hm : mi < s_M) {off : Int} {tgt : Nat} (hd : decode (s_by mi) pc = .ok (.ifnonnull off, 3)) (hn : npc = pc + 3) (ht : (pc : Int) + off = (tgt : Int)) (hh : (match st with | x :: r => (match x.1 with | 2 => f mi npc lo r h iv c n k | 3 => f mi tgt lo r h iv c n k | 4 => f mi tgt lo r h iv c n k | _ => false) | [] => false) = true) : s_Snd l D tc ξ xs ρ mi pc lo st h iv c n k := by
  intro p e R s m args below meth cc A α α0 b0 H locs ls X hin hE hA hP hD hS hl hb0 hag
  split at hh
  · next x r =>
    subst hn
    rw [List.map_cons]
    split at hh
    · next he =>
      rw [s_v2 he]
      refine lv_ifnonnullN X.1 X.2.1 hd ?_
      exact hih mi _ lo r h iv c n k hm hh X hin hE hA hP hD hS hl hb0 hag
    · next he =>
      rw [s_v3 he]
      refine lv_ifnonnull X.1 X.2.1 hd ht ?_
      exact hih mi _ lo r h iv c n k hm hh X hin hE hA hP hD hS hl hb0 hag
    · next he =>
      rw [s_v4 he]
      refine lv_ifnonnull X.1 X.2.1 hd ht ?_
      exact hih mi _ lo r h iv c n k hm hh X hin hE hA hP hD hS hl hb0 hag
    · cases hh
  · cases hh
theorem v_acmp_eq (hih : s_All l D tc ξ xs ρ f) (hρ : s_ρ ρ xs) (hm : mi < s_M) {off : Int} {tgt : Nat} (hd : decode (s_by mi) pc = .ok (.if_acmp .eq off, 3)) (ht : (pc : Int) + off = (tgt : Int)) (hh : s_acn f mi tgt lo st h iv c n k = true) : s_Snd l D tc ξ xs ρ mi pc lo st h iv c n k := by
  intro p e R s m args below meth cc A α α0 b0 H locs ls X hin hE hA hP hD hS hl hb0 hag
  unfold s_acn at hh
  split at hh
  · next y x r =>
    rw [Bool.and_eq_true, Bool.and_eq_true, Bool.and_eq_true] at hh
    obtain ⟨h1, h2, h3, h4⟩ := hh
    have h3 := Nat.eq_of_beq_eq_true h3
    rw [List.map_cons, List.map_cons, s_v4 (s_tag_iff.mp h1), s_v4 (s_tag_iff.mp h2), ← h3]
    refine lv_acmp_eq X.1 X.2.1 (rx := some (ξ x.2.2)) (ry := some (ξ x.2.2)) hd ht (fun q => ?_) (fun q => ?_)
    · exact hih mi _ lo r h iv c n k hm h4 X hin hE hA hP hD hS hl hb0 hag
    · exact absurd rfl q
  · cases hh
theorem v_acmp_ne (hih : s_All l D tc ξ xs ρ f) (hρ : s_ρ ρ xs) (hm : mi < s_M) {off : Int} {tgt : Nat} (hd : decode (s_by mi) pc = .ok (.if_acmp .ne off, 3)) (ht : (pc : Int) + off = (tgt : Int)) (hh : s_acn f mi (pc + 3) lo st h iv c n k = true) : s_Snd l D tc ξ xs ρ mi pc lo st h iv c n k := by
  intro p e R s m args below meth cc A α α0 b0 H locs ls X hin hE hA hP hD hS hl hb0 hag
  unfold s_acn at hh
  split at hh
  · next y x r =>
    rw [Bool.and_eq_true, Bool.and_eq_true, Bool.and_eq_true] at hh
    obtain ⟨h1, h2, h3, h4⟩ := hh
    have h3 := Nat.eq_of_beq_eq_true h3
    rw [List.map_cons, List.map_cons, s_v4 (s_tag_iff.mp h1), s_v4 (s_tag_iff.mp h2), ← h3]
    refine lv_acmp_ne X.1 X.2.1 (rx := some (ξ x.2.2)) (ry := some (ξ x.2.2)) hd ht (fun q => ?_) (fun q => ?_)
    · exact absurd rfl q
    · exact hih mi _ lo r h iv c n k hm h4 X hin hE hA hP hD hS hl hb0 hag
  · cases hh
end S4
end
section
section S5
variable {l : Launch} {D : va_G} {tc : Nat → ClassId} {ξ : Nat → Nat} {xs : Nat → Int32} {ρ : Nat → Int} {f : sF}
variable {mi pc npc : Nat} {lo : sL} {st : List sV} {h : List sE} {iv : sI} {c n : Nat} {k : sZ → Bool}
theorem s_dI {ρ : Nat → Int} (h0 : ρ 0 = 0) : Value.int 0 = Value.int (Int32.ofInt (ρ 0 + 0)) := by rw [h0]; rfl
theorem s_dL {ρ : Nat → Int} (h0 : ρ 0 = 0) : Value.long 0 = Value.long (Int64.ofInt (ρ 0 + 0)) := by rw [h0]; rfl
theorem s_cls {α : Nat → Nat} (h0 : ρ 0 = 0) {ci : Nat} {r : vw_C} (hr : vwCl[ci]? = some r) : ∃ ty : Nat → FieldType, (∀ k, k < r.2.2 → parseFieldDescriptor (r.2.1 k).2.2.1 = some (ty k)) ∧ (∀ a, a < r.2.2 → ∀ b, b < r.2.2 → a ≠ b → (r.2.1 a).2.1 ≠ (r.2.1 b).2.1) ∧ (s_dflt ci).length = r.2.2 ∧ ∀ j, j < r.2.2 → defaultValue (ty j) = vp_V ((s_dflt ci).map (fun q => s_v ρ α ξ q.2)) j := by
  match ci, hr with
  | 0, hr => cases hr; exact ⟨tyJ0, tyJ0_ok, nmJ0, rfl, lt_s (lt_s (lt_s (lt_s (lt_0) (rfl)) (s_dI h0)) (s_dI h0)) (s_dI h0)⟩
  | 1, hr => cases hr; exact ⟨tyJ4, tyJ4_ok, nmJ4, rfl, lt_s (lt_s (lt_s (lt_s (lt_0) (rfl)) (s_dI h0)) (s_dI h0)) (s_dI h0)⟩
  | 2, hr => cases hr; exact ⟨tyJ6, tyJ6_ok, nmJ6, rfl, lt_s (lt_0) (s_dI h0)⟩
  | 3, hr => cases hr; exact ⟨tyJ11, tyJ11_ok, nmJ11, rfl, lt_s (lt_0) (s_dI h0)⟩
  | 4, hr => cases hr; exact ⟨tyJ13, tyJ13_ok, nmJ13, rfl, lt_s (lt_0) (s_dL h0)⟩
  | 5, hr => cases hr; exact ⟨tyJx00060, tyJx00060_ok, nmJx00060, rfl, lt_s (lt_s (lt_s (lt_s (lt_s (lt_s (lt_0) (rfl)) (rfl)) (rfl)) (rfl)) (s_dI h0)) (rfl)⟩
  | 6, hr => cases hr; exact ⟨tyJx7c733, tyJx7c733_ok, nmJx7c733, rfl, lt_s (lt_s (lt_s (lt_s (lt_s (lt_s (lt_0) (rfl)) (rfl)) (rfl)) (rfl)) (s_dI h0)) (rfl)⟩
  | 7, hr => cases hr; exact ⟨tyJx35411, tyJx35411_ok, nmJx35411, rfl, lt_s (lt_s (lt_s (lt_s (lt_0) (s_dI h0)) (s_dI h0)) (s_dI h0)) (rfl)⟩
  | 8, hr => cases hr; exact ⟨tyJx4a65c, tyJx4a65c_ok, nmJx4a65c, rfl, lt_s (lt_s (lt_s (lt_0) (s_dI h0)) (rfl)) (s_dI h0)⟩
  | 9, hr => cases hr; exact ⟨tyX0, tyX0_ok, nmX0, rfl, lt_s (lt_s (lt_s (lt_s (lt_s (lt_s (lt_s (lt_s (lt_s (lt_s (lt_s (lt_0) (s_dI h0)) (s_dI h0)) (s_dI h0)) (rfl)) (rfl)) (rfl)) (rfl)) (s_dI h0)) (s_dI h0)) (s_dI h0)) (s_dI h0)⟩
  | 10, hr => cases hr; exact ⟨tyX1, tyX1_ok, nmX1, rfl, lt_s (lt_s (lt_s (lt_s (lt_s (lt_s (lt_s (lt_s (lt_s (lt_s (lt_s (lt_0) (s_dI h0)) (rfl)) (s_dI h0)) (s_dI h0)) (s_dI h0)) (s_dI h0)) (s_dI h0)) (s_dI h0)) (s_dI h0)) (s_dI h0)) (s_dI h0)⟩
  | 11, hr => cases hr; exact ⟨tyX2, tyX2_ok, nmX2, rfl, lt_s (lt_0) (rfl)⟩
  | 12, hr => cases hr; exact ⟨tyX3, tyX3_ok, nmX3, rfl, lt_s (lt_s (lt_s (lt_0) (rfl)) (rfl)) (rfl)⟩
  | 13, hr => cases hr; exact ⟨tyX4, tyX4_ok, nmX4, rfl, lt_s (lt_s (lt_s (lt_s (lt_s (lt_s (lt_s (lt_s (lt_s (lt_0) (rfl)) (rfl)) (rfl)) (rfl)) (rfl)) (rfl)) (s_dI h0)) (s_dI h0)) (s_dI h0)⟩
  | 14, hr => cases hr; exact ⟨tyX5, tyX5_ok, nmX5, rfl, lt_s (lt_s (lt_s (lt_0) (rfl)) (rfl)) (s_dI h0)⟩
  | 15, hr => cases hr; exact ⟨tyX6, tyX6_ok, nmX6, rfl, lt_s (lt_s (lt_s (lt_s (lt_s (lt_s (lt_0) (rfl)) (rfl)) (rfl)) (rfl)) (s_dI h0)) (s_dI h0)⟩
  | 16, hr => cases hr; exact ⟨tyX7, tyX7_ok, nmX7, rfl, lt_s (lt_s (lt_s (lt_s (lt_s (lt_0) (s_dI h0)) (s_dI h0)) (s_dI h0)) (s_dI h0)) (s_dI h0)⟩
  | 17, hr => cases hr; exact ⟨tyX8, tyX8_ok, nmX8, rfl, lt_s (lt_s (lt_s (lt_s (lt_s (lt_s (lt_0) (rfl)) (rfl)) (rfl)) (s_dI h0)) (s_dI h0)) (s_dI h0)⟩
  | 18, hr => cases hr; exact ⟨tyX9, tyX9_ok, nmX9, rfl, lt_s (lt_s (lt_s (lt_s (lt_s (lt_s (lt_0) (s_dI h0)) (s_dI h0)) (s_dI h0)) (s_dI h0)) (s_dI h0)) (s_dI h0)⟩
  | 19, hr => cases hr; exact ⟨tyX10, tyX10_ok, nmX10, rfl, lt_s (lt_s (lt_s (lt_s (lt_s (lt_s (lt_s (lt_s (lt_s (lt_s (lt_s (lt_0) (rfl)) (rfl)) (rfl)) (rfl)) (rfl)) (rfl)) (s_dI h0)) (s_dI h0)) (s_dI h0)) (s_dI h0)) (s_dI h0)⟩
  | 20, hr => cases hr; exact ⟨tyX11, tyX11_ok, nmX11, rfl, lt_s (lt_s (lt_s (lt_s (lt_s (lt_s (lt_s (lt_s (lt_s (lt_s (lt_s (lt_s (lt_s (lt_s (lt_s (lt_s (lt_s (lt_s (lt_s (lt_s (lt_s (lt_s (lt_s (lt_s (lt_s (lt_s (lt_s (lt_0) (s_dI h0)) (s_dI h0)) (s_dI h0)) (s_dI h0)) (s_dI h0)) (s_dI h0)) (s_dI h0)) (s_dI h0)) (s_dI h0)) (rfl)) (rfl)) (rfl)) (s_dL h0)) (s_dL h0)) (s_dL h0)) (s_dI h0)) (s_dI h0)) (s_dI h0)) (s_dI h0)) (s_dI h0)) (rfl)) (rfl)) (rfl)) (rfl)) (s_dI h0)) (s_dI h0)) (s_dI h0)⟩
  | 21, hr => cases hr; exact ⟨tyX12, tyX12_ok, nmX12, rfl, lt_s (lt_0) (rfl)⟩
  | 22, hr => cases hr; exact ⟨tyX13, tyX13_ok, nmX13, rfl, lt_s (lt_s (lt_s (lt_s (lt_s (lt_s (lt_s (lt_s (lt_s (lt_0) (s_dI h0)) (rfl)) (rfl)) (rfl)) (s_dI h0)) (s_dI h0)) (s_dI h0)) (s_dI h0)) (s_dL h0)⟩
  | j + 23, hr => exact absurd hr (by simp [vwCl])
theorem s_cus_v {ci : Nat} (hc : ci ∈ s_cus) {r : vw_C} (hr : vwCl[ci]? = some r) : ∀ w ∈ u_ws r.1 r.2.1 r.2.2, w ∈ s_U := by
  have h := s_cus_ok hc
  unfold s_cok at h
  rw [hr] at h
  exact s_pre_v h
theorem s_obj_v {x : sV} {ci : Nat} {fs : List (Nat × sV)} (hh : s_obj h x ci = some fs) : x.1 = 3 ∧ ∃ z : Nat, h[x.2.2]? = some (0, ci, z, fs) := by
  obtain ⟨t, q, a⟩ := x
  unfold s_obj at hh
  dsimp only at hh ⊢
  split at hh
  · split at hh
    · next e he =>
      split at hh
      · next hb =>
        rw [Bool.and_eq_true] at hb
        have b1 := Nat.eq_of_beq_eq_true hb.1
        have b2 := Nat.eq_of_beq_eq_true hb.2
        obtain ⟨e1, e2, e3, e4⟩ := e
        dsimp only at b1 b2 hh
        subst b1; subst b2
        cases hh
        exact ⟨rfl, e3, he⟩
      · cases hh
    · cases hh
  · cases hh
theorem s_arr_v {x : sV} {kd : Nat} {e : sE} (hh : s_arr h x kd = some e) : x.1 = 3 ∧ h[x.2.2]? = some e ∧ e.1 = kd := by
  obtain ⟨t, q, a⟩ := x
  unfold s_arr at hh
  dsimp only at hh ⊢
  split at hh
  · split at hh
    · next e2 he =>
      split at hh
      · next hb =>
        cases hh
        exact ⟨rfl, he, Nat.eq_of_beq_eq_true hb⟩
      · cases hh
    · cases hh
  · cases hh
theorem s_ix_v (hin : s_in ρ iv) {x : sV} {b j : Nat} (hh : s_ix iv x b = some j) : s_tag 0 x = true ∧ s_n ρ x = (j : Int) ∧ j < b ∧ j < 1000000 := by
  unfold s_ix at hh
  split at hh
  · next e =>
    rw [Bool.and_eq_true] at e
    split at hh
    · next i hi =>
      split at hh
      · next hb =>
        rw [Bool.and_eq_true, Nat.blt_eq, Nat.blt_eq] at hb
        cases hh
        exact ⟨e.1, by rw [s_isk_v hin e.2]; exact hi, hb.1, hb.2⟩
      · cases hh
    · cases hh
  · cases hh
theorem s_ixI {j b : Nat} (h1 : j < b) (h2 : j < 1000000) : vp_in (Int32.ofInt (j : Int)) b ∧ (Int32.ofInt (j : Int)).toNatClampNeg = j := by
  have e : (Int32.ofInt (j : Int)) = nI j := rfl
  have e2 : (nI j).toNatClampNeg = j := nI_clamp (by omega)
  rw [e]
  refine ⟨fun q => ?_, e2⟩
  rcases q with q | q
  · exact nI_pos (by omega) q
  · omega
theorem s_any_v {ci : Nat} (h : s_cus.any (Nat.beq ci) = true) : ci ∈ s_cus := by
  obtain ⟨z, h1, h2⟩ := List.any_eq_true.mp h
  rw [Nat.eq_of_beq_eq_true h2]
  exact h1
theorem s_fl_v {mi ix ci k wi nest sf : Nat} (hh : s_fl mi ix ci k wi nest sf = true) {p : Program} {l : Launch} {R : Room} {s : State} {m : MethodId} {args : Array Value} {meth : Method} {cc : Code} {A : Nat → Prop} (X : s_Cx mi p l R s m args meth cc) (hE : s_Env D tc ξ xs A s) :
    ci ∈ s_cus ∧ ∃ r : vw_C, vwCl[ci]? = some r ∧ k < r.2.2 ∧ ∃ ref : String, (∀ x, s.fieldFound? (r.2.1 k).1 (r.2.1 k).2.1 (r.2.1 k).2.2.1 = some x → s.fieldFound? ref (r.2.1 k).2.1 (r.2.1 k).2.2.1 = some x) ∧
      ((nest = 0 ∧ (Cond.fieldLink (s_own mi) ix ref (r.2.1 k).2.1 (r.2.1 k).2.2.1).before args s = true) ∨ (nest ≠ 0 ∧ (Cond.fieldLinkNest (s_own mi) ix ref (r.2.1 k).2.1 (r.2.1 k).2.2.1 (s_host nest)).before args s = true)) := by
  have hts := X.2.2.2.2.2.2.1
  have hnw : ∀ w ∈ s_tbl, s_nk w = true → w.before args s = true := fun w hw hk => by
    cases w <;> first | exact va_Nw.use rfl (hE.1.2.1 _ hw hk) | exact absurd hk (by simp [s_nk])
  unfold s_fl at hh
  split at hh
  · next r hr =>
    rw [Bool.and_eq_true, Bool.and_eq_true, Nat.blt_eq] at hh
    refine ⟨s_any_v hh.2.1, r, hr, hh.1, ?_⟩
    have h2 := hh.2.2
    split at h2
    · split at h2
      · exact ⟨_, fun _ q => q, Or.inl ⟨rfl, hts _ (s_gat_v h2)⟩⟩
      · rw [Bool.and_eq_true] at h2
        exact ⟨_, fun x q => u_same (hts _ (s_gat_v h2.2)) x q, Or.inl ⟨rfl, hts _ (s_gat_v h2.1)⟩⟩
    · next hne =>
      split at h2
      · exact ⟨_, fun _ q => q, Or.inr ⟨hne, hnw _ (s_wat_v h2) rfl⟩⟩
      · rw [Bool.and_eq_true] at h2
        exact ⟨_, fun x q => u_same (hts _ (s_gat_v h2.2)) x q, Or.inr ⟨hne, hnw _ (s_wat_v h2.1) rfl⟩⟩
  · cases hh
theorem v_gf (hih : s_All l D tc ξ xs ρ f) (hρ : s_ρ ρ xs) (hm : mi < s_M) {ix : Nat} {info : List Nat} (hd : decode (s_by mi) pc = .ok (.getfield ix, 3)) (hn : npc = pc + 3) (h0 : s_nth info 4 = 0 → s_fl mi ix (s_nth info 0) (s_nth info 1) (s_nth info 2) (s_nth info 3) (s_nth info 5) = true) (h9 : s_nth info 4 ≠ 0 → s_xlk mi ix info = true) (hh : s_gf f mi npc lo st h iv c n k info = true) : s_Snd l D tc ξ xs ρ mi pc lo st h iv c n k := by
  intro p e R s m args below meth cc A α α0 b0 H locs ls X hin hE hA hP hD hS hl hb0 hag
  unfold s_gf at hh
  split at hh
  · next x r =>
    subst hn
    rw [List.map_cons]
    split at hh
    · next hx =>
      rw [Bool.and_eq_true] at hh
      obtain ⟨hz, hh⟩ := hh
      split at hh
      · next fs hfs =>
        split at hh
        · next v hv =>
          have a1 := h0 (Nat.eq_of_beq_eq_true hz)
          obtain ⟨-, z, hcell⟩ := s_obj_v hfs
          obtain ⟨a2, r9, hr, hk, ref, hsame, hlink⟩ := s_fl_v a1 X hE
          obtain ⟨C9, T9, N9⟩ := r9
          have hg := s_h_get (tc := tc) (ρ := ρ) (α := α) (ξ := ξ) hcell
          have hv2 : ((fs.map (fun q => s_v ρ α ξ q.2)))[s_nth info 1]? = some (s_v ρ α ξ v.2) := by
            rw [List.getElem?_map, hv]
            rfl
          rw [s_v3 hx]
          rcases hlink with ⟨-, hlink⟩ | ⟨-, hlink⟩
          · refine va_get (D := D) X.1 X.2.1 X.2.2.2.2.2.2.1 (s_cus_v a2 hr) X.2.2.2.2.2.1 hE.1.1 hP _ hg hr _ hk hlink hsame hv2 hd ?_
            exact hih mi _ lo (v.2 :: r) h iv c n k hm hh X hin hE hA hP hD hS hl hb0 hag
          · refine va_getN (D := D) X.1 X.2.1 X.2.2.2.2.2.2.1 (s_cus_v a2 hr) X.2.2.2.2.2.1 hE.1.1 hP _ hg hr _ hk hlink hsame hv2 hd ?_
            exact hih mi _ lo (v.2 :: r) h iv c n k hm hh X hin hE hA hP hD hS hl hb0 hag
        · cases hh
      · cases hh
    · next hx =>
      rw [Bool.and_eq_true] at hh
      obtain ⟨q1, q2⟩ := hh
      have q1 := Nat.eq_of_beq_eq_true q1
      rw [s_v4 hx, q1]
      have hx9 : s_nth info 4 ≠ 0 → s_xlk mi ix info = true := h9
      split at q2
      · next e =>
        have w := hx9 (by omega)
        unfold s_xlk at w
        rw [e] at w
        have w := X.2.2.2.2.2.2.1 _ (s_gat_v w)
        refine vk_getf X.1 X.2.1 hE.2.1.2.2.2.2.2.2.2.1 hS X.2.2.2.2.2.1 w (fun _ q => q) hd ?_
        exact hih mi _ lo ((4, 0, 3) :: r) h iv c n k hm q2 X hin hE hA hP hD hS hl hb0 hag
      · next e =>
        have w := hx9 (by omega)
        unfold s_xlk at w
        rw [e] at w
        have w := X.2.2.2.2.2.2.1 _ (s_gat_v w)
        refine vk_getf X.1 X.2.1 hE.2.1.2.2.2.2.2.2.1 hS X.2.2.2.2.2.1 w (fun _ q => q) hd ?_
        have e2 : Value.int 0 = s_v ρ α ξ (0, 0, 0) := s_dI hρ.1
        rw [e2]
        exact hih mi _ lo ((0, 0, 0) :: r) h iv c n k hm q2 X hin hE hA hP hD hS hl hb0 hag
      · cases q2
    · cases hh
  · cases hh
theorem s_fit_v (hin : s_in ρ iv) {α : Nat → Nat} {t : Nat} {v : sV} {d : String} (hf : s_fit iv t v = true) (hp : s_pty d t = true) : ∃ ty, parseFieldDescriptor d = some ty ∧ narrow ty (s_v ρ α ξ v) = s_v ρ α ξ v ∧ fits ty (s_v ρ α ξ v) = true := by
  unfold s_fit at hf
  split at hf
  · exact ⟨.int, of_decide_eq_true hp, by rw [s_v0 hf]; rfl, by rw [s_v0 hf]; rfl⟩
  · rw [Bool.and_eq_true] at hf
    have q := s_rg_v hin hf.2
    refine ⟨.boolean, of_decide_eq_true hp, ?_⟩
    rw [s_v0 hf.1]
    rcases (show s_n ρ v = 0 ∨ s_n ρ v = 1 by omega) with e | e <;> rw [e] <;> decide
  · rw [Bool.and_eq_true] at hf
    have q := s_rg_v hin hf.2
    refine ⟨.char, of_decide_eq_true hp, ?_⟩
    rw [s_v0 hf.1]
    obtain ⟨m, hm1, hm2, hm3⟩ := s_nat q.1 (by omega)
    rw [hm3]
    exact pk_charN (by omega)
  · exact ⟨.long, of_decide_eq_true hp, by rw [s_v1 hf]; rfl, by rw [s_v1 hf]; rfl⟩
  · have hp : (match parseFieldDescriptor d with | some (.object _) => true | some (.array _) => true | _ => false) = true := hp
    split at hp
    · next q e =>
      refine ⟨_, e, ?_⟩
      rcases s_vA (ρ := ρ) (α := α) (ξ := ξ) hf with z | ⟨a, z⟩ <;> rw [z] <;> exact ⟨rfl, rfl⟩
    · next q e =>
      refine ⟨_, e, ?_⟩
      rcases s_vA (ρ := ρ) (α := α) (ξ := ξ) hf with z | ⟨a, z⟩ <;> rw [z] <;> exact ⟨rfl, rfl⟩
    · cases hp
  · rw [Bool.and_eq_true] at hf
    have q := s_rg_v hin hf.2
    refine ⟨.byte, of_decide_eq_true hp, ?_⟩
    rw [s_v0 hf.1, ← s_i2b_v q.1 q.2]
    exact ⟨pk_nb _, pk_fb _⟩
  · cases hf
theorem v_pf (hih : s_All l D tc ξ xs ρ f) (hρ : s_ρ ρ xs) (hm : mi < s_M) {ix : Nat} {info : List Nat} (hd : decode (s_by mi) pc = .ok (.putfield ix, 3)) (hn : npc = pc + 3) (h0 : s_plk mi ix info = true) (hh : s_pf f mi npc lo st h iv c n k info = true) : s_Snd l D tc ξ xs ρ mi pc lo st h iv c n k := by
  intro p e R s m args below meth cc A α α0 b0 H locs ls X hin hE hA hP hD hS hl hb0 hag
  unfold s_pf at hh
  split at hh
  · next v x r =>
    split at hh
    · next fs hfs =>
      rw [Bool.and_eq_true, Bool.and_eq_true, Nat.blt_eq] at hh
      obtain ⟨b1, b2, b3⟩ := hh
      subst hn
      obtain ⟨hx, z, hcell⟩ := s_obj_v hfs
      unfold s_plk at h0
      rw [Bool.and_eq_true] at h0
      obtain ⟨a1, a2⟩ := h0
      obtain ⟨h1, r9, hr, hk, ref, hsame, hlink⟩ := s_fl_v a1 X hE
      rw [hr] at a2
      dsimp only at a2
      rw [Bool.and_eq_true] at a2
      obtain ⟨C9, T9, N9⟩ := r9
      dsimp only at hk hsame hlink a2
      have hg := s_h_get (tc := tc) (ρ := ρ) (α := α) (ξ := ξ) hcell
      obtain ⟨ty, t1, t2, t3⟩ := s_fit_v (ξ := ξ) (α := α) hin b2 a2.1
      obtain ⟨ty0, u1, u2, -, -⟩ := s_cls (ξ := ξ) (α := α) hρ.1 hr
      rw [List.map_cons, List.map_cons, s_v3 hx]
      have hset : (s_h tc ρ α ξ h).set x.2.2 (α x.2.2, .inr (s_nth info 0, (fs.map (fun q => s_v ρ α ξ q.2)).set (s_nth info 1) (s_v ρ α ξ v))) = s_h tc ρ α ξ (h.set x.2.2 (0, s_nth info 0, fs.length, fs.set (s_nth info 1) (0, v))) := by
        rw [← s_h_set]
        show _ = (s_h tc ρ α ξ h).set x.2.2 (α x.2.2, .inr (s_nth info 0, (fs.set (s_nth info 1) (0, v)).map (fun q => s_v ρ α ξ q.2)))
        rw [List.map_set]
      have hb0' : b0 ≤ (h.set x.2.2 (0, s_nth info 0, fs.length, fs.set (s_nth info 1) (0, v))).length := by rw [List.length_set]; exact hb0
      cases hfin : (T9 (s_nth info 1)).2.2.2 with
      | true =>
        have a3 := a2.2
        rw [hfin] at a3
        dsimp only at a3
        rw [Bool.and_eq_true] at a3
        obtain ⟨c1, c2⟩ := of_decide_eq_true a3.1
        rcases hlink with ⟨-, hlink⟩ | ⟨hne, -⟩
        · refine va_putF (D := D) X.1 X.2.1 X.2.2.2.2.2.2.1 (s_cus_v h1 hr) ty0 u1 u2 X.2.2.2.2.2.1 hE.1.1 hP hD hS _ hg hr _ hk hlink hsame hfin (by rw [X.2.2.2.2.2.2.2.2.1]; exact c1) c2 t1 t2 t3 (by rw [List.length_map]; exact b1) hd (fun H1 locs1 hP1 hD1 hS1 => ?_)
          rw [hset] at hP1 hD1
          exact hih mi _ lo r _ iv c n k hm b3 X hin hE hA hP1 hD1 hS1 hl hb0' hag
        · exact absurd (Nat.eq_of_beq_eq_true a3.2) hne
      | false =>
        rcases hlink with ⟨-, hlink⟩ | ⟨-, hlink⟩
        · refine va_put (D := D) X.1 X.2.1 X.2.2.2.2.2.2.1 (s_cus_v h1 hr) ty0 u1 u2 X.2.2.2.2.2.1 hE.1.1 hP hD hS _ hg hr _ hk hlink hsame hfin t1 t2 t3 (by rw [List.length_map]; exact b1) hd (fun H1 locs1 hP1 hD1 hS1 => ?_)
          rw [hset] at hP1 hD1
          exact hih mi _ lo r _ iv c n k hm b3 X hin hE hA hP1 hD1 hS1 hl hb0' hag
        · refine va_putN (D := D) X.1 X.2.1 X.2.2.2.2.2.2.1 (s_cus_v h1 hr) ty0 u1 u2 X.2.2.2.2.2.1 hE.1.1 hP hD hS _ hg hr _ hk hlink hsame hfin t1 t2 t3 (by rw [List.length_map]; exact b1) hd (fun H1 locs1 hP1 hD1 hS1 => ?_)
          rw [hset] at hP1 hD1
          exact hih mi _ lo r _ iv c n k hm b3 X hin hE hA hP1 hD1 hS1 hl hb0' hag
    · cases hh
  · cases hh
end S5
end
section
section S6
variable {l : Launch} {D : va_G} {tc : Nat → ClassId} {ξ : Nat → Nat} {xs : Nat → Int32} {ρ : Nat → Int} {f : sF}
variable {mi pc npc : Nat} {lo : sL} {st : List sV} {h : List sE} {iv : sI} {c n : Nat} {k : sZ → Bool}
theorem s_cas {ci : Nat} {r : vw_C} (hr : vwCl[ci]? = some r) : Cond.castable r.1 "java/lang/Object" ∈ s_tbl := by
  have hlt : ci < 23 := (List.getElem?_eq_some_iff.mp hr).1
  have h := List.all_eq_true.mp s_cas_ok ci (List.mem_range.mpr hlt)
  rw [hr] at h
  exact s_wat_v h
theorem s_tys_v {tc : Nat → ClassId} {t : Nat} (h : t < 7) : (s_tys tc)[t]? = some (tc t, s_ft t) := by
  rcases (show t = 0 ∨ t = 1 ∨ t = 2 ∨ t = 3 ∨ t = 4 ∨ t = 5 ∨ t = 6 by omega) with rfl | rfl | rfl | rfl | rfl | rfl | rfl <;> rfl
theorem s_e_arr {α : Nat → Nat} {e : sE} (h : e.1 ≠ 0) : ∃ x, s_e tc ρ α ξ e = .inl (tc e.2.1, e.2.2.1, x) := by
  unfold s_e
  split
  · next q => exact absurd q h
  · exact ⟨_, rfl⟩
  · exact ⟨_, rfl⟩
  · exact ⟨_, rfl⟩
  · exact ⟨_, rfl⟩
theorem v_gs1 (hih : s_All l D tc ξ xs ρ f) (hρ : s_ρ ρ xs) (hm : mi < s_M) {ix : Nat} (hw : Cond.fieldLink (s_own mi) ix "java/util/ArrayList" "DEFAULTCAPACITY_EMPTY_ELEMENTDATA" "[Ljava/lang/Object;" ∈ s_U) (hd : decode (s_by mi) pc = .ok (.getstatic ix, 3)) (hn : npc = pc + 3) (hh : f mi npc lo ((4, 0, 1) :: st) h iv c n k = true) : s_Snd l D tc ξ xs ρ mi pc lo st h iv c n k := by
  intro p e R s m args below meth cc A α α0 b0 H locs ls X hin hE hA hP hD hS hl hb0 hag
  subst hn
  refine va_gets X.1 X.2.1 hE.2.1.1 hS X.2.2.2.2.2.1 (X.2.2.2.2.2.2.1 _ hw) (fun _ q => q) hd ?_
  exact hih mi _ lo ((4, 0, 1) :: st) h iv c n k hm hh X hin hE hA hP hD hS hl hb0 hag
theorem v_gs2 (hih : s_All l D tc ξ xs ρ f) (hρ : s_ρ ρ xs) (hm : mi < s_M) {ix : Nat} (hw : Cond.fieldLink (s_own mi) ix "java/lang/String" "COMPACT_STRINGS" "Z" ∈ s_U) (hd : decode (s_by mi) pc = .ok (.getstatic ix, 3)) (hn : npc = pc + 3) (hh : f mi npc lo ((0, 1, 0) :: st) h iv c n k = true) : s_Snd l D tc ξ xs ρ mi pc lo st h iv c n k := by
  intro p e R s m args below meth cc A α α0 b0 H locs ls X hin hE hA hP hD hS hl hb0 hag
  subst hn
  refine va_gets X.1 X.2.1 hE.2.1.2.2.1 hS X.2.2.2.2.2.1 (X.2.2.2.2.2.2.1 _ hw) (fun _ q => q) hd ?_
  have e2 : Value.int 1 = s_v ρ α ξ (0, 1, 0) := by
    show _ = Value.int (Int32.ofInt (ρ 0 + 1))
    rw [hρ.1]
    rfl
  rw [e2]
  exact hih mi _ lo ((0, 1, 0) :: st) h iv c n k hm hh X hin hE hA hP hD hS hl hb0 hag
theorem v_len (hih : s_All l D tc ξ xs ρ f) (hρ : s_ρ ρ xs) (hm : mi < s_M) (hd : decode (s_by mi) pc = .ok (.arraylength, 1)) (hn : npc = pc + 1) (hh : s_len f mi npc lo st h iv c n k = true) : s_Snd l D tc ξ xs ρ mi pc lo st h iv c n k := by
  intro p e R s m args below meth cc A α α0 b0 H locs ls X hin hE hA hP hD hS hl hb0 hag
  unfold s_len at hh
  split at hh
  · next x r =>
    subst hn
    rw [List.map_cons]
    split at hh
    · next hx =>
      split at hh
      · next e he =>
        rw [Bool.and_eq_true, Bool.and_eq_true, Nat.blt_eq, Nat.blt_eq] at hh
        obtain ⟨q1, q2, q3⟩ := hh
        have hg := s_h_get (tc := tc) (ρ := ρ) (α := α) (ξ := ξ) he
        obtain ⟨y, hy⟩ := s_e_arr (tc := tc) (ρ := ρ) (α := α) (ξ := ξ) (e := e) (by omega)
        rw [hy] at hg
        rw [s_v3 hx]
        refine va_alen X.1 X.2.1 hE.1.1 hP _ e.2.1 hg (s_tys_v q2) (v := Int32.ofInt (ρ 0 + Int.ofNat e.2.2.1)) ?_ hd ?_
        · rw [hρ.1, Int.zero_add]
          rfl
        · exact hih mi _ lo ((0, Int.ofNat e.2.2.1, 0) :: r) h iv c n k hm q3 X hin hE hA hP hD hS hl hb0 hag
      · cases hh
    · next hx =>
      rw [s_v4 hx]
      split at hh
      · next e =>
        rw [e]
        refine va_slen X.1 X.2.1 hE.2.2.1 hE.2.2.2.1 hE.2.2.2.2 hS hd ?_
        have e2 : Value.int (Int32.ofNat (xs 7).toNatClampNeg) = s_v ρ α ξ (0, 0, 22) := by
          show _ = Value.int (Int32.ofInt (ρ 22 + 0))
          rw [hρ.2.2.2.2.1, Int.add_zero]
          rfl
        rw [e2]
        exact hih mi _ lo ((0, 0, 22) :: r) h iv c n k hm hh X hin hE hA hP hD hS hl hb0 hag
      · next e =>
        rw [e]
        refine va_tlen X.1 X.2.1 hE.2.1.2.1 hS rfl hd ?_
        have e2 : Value.int (Int32.ofNat 0) = s_v ρ α ξ (0, 0, 0) := by
          show _ = Value.int (Int32.ofInt (ρ 0 + 0))
          rw [hρ.1]
          rfl
        rw [e2]
        exact hih mi _ lo ((0, 0, 0) :: r) h iv c n k hm hh X hin hE hA hP hD hS hl hb0 hag
      · next e =>
        rw [e]
        refine va_tlen X.1 X.2.1 hE.2.1.2.2.2.2.2.2.2.2 hS rfl hd ?_
        have e2 : Value.int (Int32.ofNat 4) = s_v ρ α ξ (0, 4, 0) := by
          show _ = Value.int (Int32.ofInt (ρ 0 + 4))
          rw [hρ.1]
          rfl
        rw [e2]
        exact hih mi _ lo ((0, 4, 0) :: r) h iv c n k hm hh X hin hE hA hP hD hS hl hb0 hag
      · cases hh
    · cases hh
  · cases hh
theorem v_ial (hih : s_All l D tc ξ xs ρ f) (hρ : s_ρ ρ xs) (hm : mi < s_M) (hd : decode (s_by mi) pc = .ok (.iaload, 1)) (hn : npc = pc + 1) (hh : s_ial f mi npc lo st h iv c n k = true) : s_Snd l D tc ξ xs ρ mi pc lo st h iv c n k := by
  intro p e R s m args below meth cc A α α0 b0 H locs ls X hin hE hA hP hD hS hl hb0 hag
  unfold s_ial at hh
  split at hh
  · next y x r =>
    rw [Bool.and_eq_true, Bool.and_eq_true] at hh
    obtain ⟨q1, q2, q3⟩ := hh
    replace q2 := Nat.eq_of_beq_eq_true q2
    split at q3
    · next j hj =>
      obtain ⟨j1, j2, j3, j4⟩ := s_ix_v hin hj
      have j5 : j < (xs 7).toNatClampNeg := by
        have h1 := (s_in_b hin (0, 0, 22)).1
        have h2 : s_n ρ (0, 0, 22) = ((xs 7).toNatClampNeg : Int) := by
          show ρ 22 + 0 = _
          rw [hρ.2.2.2.2.1, Int.add_zero]
        rw [h2] at h1
        unfold s_toN at j3
        split at j3
        · next b hb =>
          rw [hb] at h1
          have := Int.ofNat_le.mp h1
          omega
        · omega
      have j6 : j < 6 := Nat.lt_of_lt_of_le j5 hρ.2.2.2.2.2
      obtain ⟨k1, k2⟩ := s_ixI j5 j4
      subst hn
      rw [List.map_cons, List.map_cons, s_v4 (s_tag_iff.mp q1), q2, s_v0 j1, j2]
      refine va_sld X.1 X.2.1 hE.2.2.1 hE.2.2.2.1 hE.2.2.2.2 hS k1 hd ?_
      have e2 : Value.int (xs (Int32.ofInt (j : Int)).toNatClampNeg) = s_v ρ α ξ (0, 0, j + 1) := by
        show _ = Value.int (Int32.ofInt (ρ (j + 1) + 0))
        rw [k2, Int.add_zero, (hρ.2.1 j j6).1, Int32.ofInt_toInt]
      rw [e2]
      exact hih mi _ lo ((0, 0, j + 1) :: r) h iv c n k hm q3 X hin hE hA hP hD hS hl hb0 hag
    · cases q3
  · cases hh
theorem v_bal (hih : s_All l D tc ξ xs ρ f) (hρ : s_ρ ρ xs) (hm : mi < s_M) (hd : decode (s_by mi) pc = .ok (.baload, 1)) (hn : npc = pc + 1) (hh : s_bal f mi npc lo st h iv c n k = true) : s_Snd l D tc ξ xs ρ mi pc lo st h iv c n k := by
  intro p e R s m args below meth cc A α α0 b0 H locs ls X hin hE hA hP hD hS hl hb0 hag
  unfold s_bal at hh
  split at hh
  · next y x r =>
    rw [Bool.and_eq_true, Bool.and_eq_true] at hh
    obtain ⟨q1, q2, q3⟩ := hh
    replace q2 := Nat.eq_of_beq_eq_true q2
    split at q3
    · next j hj =>
      obtain ⟨j1, j2, j3, j4⟩ := s_ix_v hin hj
      obtain ⟨k1, k2⟩ := s_ixI j3 j4
      subst hn
      rw [List.map_cons, List.map_cons, s_v4 (s_tag_iff.mp q1), q2, s_v0 j1, j2]
      refine va_tb X.1 X.2.1 hE.2.1.2.2.2.2.2.2.2.2 hS k1 rfl hd ?_
      rw [k2]
      have e2 : Value.int (Int32.ofInt (s_fg j)) = s_v ρ α ξ (0, s_fg j, 0) := by
        show _ = Value.int (Int32.ofInt (ρ 0 + s_fg j))
        rw [hρ.1, Int.zero_add]
      rw [e2]
      exact hih mi _ lo ((0, s_fg j, 0) :: r) h iv c n k hm q3 X hin hE hA hP hD hS hl hb0 hag
    · cases q3
  · cases hh
theorem v_lal (hih : s_All l D tc ξ xs ρ f) (hρ : s_ρ ρ xs) (hm : mi < s_M) (hd : decode (s_by mi) pc = .ok (.laload, 1)) (hn : npc = pc + 1) (hh : s_lal f mi npc lo st h iv c n k = true) : s_Snd l D tc ξ xs ρ mi pc lo st h iv c n k := by
  intro p e R s m args below meth cc A α α0 b0 H locs ls X hin hE hA hP hD hS hl hb0 hag
  unfold s_lal at hh
  split at hh
  · next y x r =>
    split at hh
    · next e he =>
      split at hh
      · next j hj =>
        rw [Bool.and_eq_true] at hh
        obtain ⟨q1, q2⟩ := hh
        replace q1 := Nat.eq_of_beq_eq_true q1
        obtain ⟨j1, j2, j3, j4⟩ := s_ix_v hin hj
        obtain ⟨k1, k2⟩ := s_ixI j3 j4
        obtain ⟨hx, hcell, hkd⟩ := s_arr_v he
        have hg := s_h_get (tc := tc) (ρ := ρ) (α := α) (ξ := ξ) hcell
        obtain ⟨e1, e2, e3, e4⟩ := e
        dsimp only at hkd q1 q2 hg k1 j3
        subst hkd; subst q1
        subst hn
        rw [List.map_cons, List.map_cons, s_v3 hx, s_v0 j1, j2]
        refine va_lald X.1 X.2.1 hE.1.1 hP _ 4 hg (s_tys_v (by omega)) k1 hd ?_
        rw [k2]
        exact hih mi _ lo ((1, (s_look e4 j).2) :: r) h iv c n k hm q2 X hin hE hA hP hD hS hl hb0 hag
      · cases hh
    · cases hh
  · cases hh
theorem s_q3 {α : Nat → Nat} {x : sV} (h : x.1 = 3) : s_q α ξ x = some (α x.2.2) := by
  obtain ⟨t, c, n⟩ := x
  cases h
  rfl
theorem s_look_c (j : Nat) (v : sV) (w : List (Nat × sV)) (i : Nat) : s_look ((j, v) :: w) i = if i = j then v else s_look w i := by
  unfold s_look
  by_cases e : j = i
  · subst e
    simp
  · have : Nat.beq j i = false := by
      cases q : Nat.beq j i with
      | true => exact absurd (Nat.eq_of_beq_eq_true q) e
      | false => rfl
    rw [show Nat.beq (j, v).1 i = Nat.beq j i from rfl, this, if_neg (fun q => e q.symm)]
    cases w <;> rfl
theorem s_narC {a : Int} (h0 : 0 ≤ a) (h1 : a ≤ 65535) : vp_nar .char (Int32.ofInt a) = Int32.ofInt a := by
  obtain ⟨m, hm1, hm2, hm3⟩ := s_nat h0 (by omega)
  unfold vp_nar
  rw [hm3, (pk_charN (show m < 65536 by omega)).1]
theorem s_narB {a : Int} (h0 : -128 ≤ a) (h1 : a ≤ 127) : vp_nar .byte (Int32.ofInt a) = Int32.ofInt a := by
  rw [← s_i2b_v h0 h1]
  exact pk_vb _
theorem v_last (hih : s_All l D tc ξ xs ρ f) (hρ : s_ρ ρ xs) (hm : mi < s_M) (hd : decode (s_by mi) pc = .ok (.lastore, 1)) (hn : npc = pc + 1) (hh : s_ast f mi npc lo st h iv c n k 2 4 3 = true) : s_Snd l D tc ξ xs ρ mi pc lo st h iv c n k := by
  intro p e R s m args below meth cc A α α0 b0 H locs ls X hin hE hA hP hD hS hl hb0 hag
  unfold s_ast at hh
  split at hh
  · next v y x r =>
    split at hh
    · next e he =>
      split at hh
      · next j hj =>
        rw [Bool.and_eq_true, Bool.and_eq_true] at hh
        obtain ⟨q1, q2, q3⟩ := hh
        replace q1 := Nat.eq_of_beq_eq_true q1
        obtain ⟨j1, j2, j3, j4⟩ := s_ix_v hin hj
        obtain ⟨k1, k2⟩ := s_ixI j3 j4
        obtain ⟨hx, hcell, hkd⟩ := s_arr_v he
        have hg := s_h_get (tc := tc) (ρ := ρ) (α := α) (ξ := ξ) hcell
        obtain ⟨e1, e2, e3, e4⟩ := e
        dsimp only at hkd q1 q3 hg k1 j3
        subst hkd; subst q1
        subst hn
        have q2 : s_tag 1 v = true := q2
        rw [List.map_cons, List.map_cons, List.map_cons, s_v3 hx, s_v0 j1, j2, s_v1 q2]
        refine va_last X.1 X.2.1 hE.1.1 hP hD hS _ 4 hg (s_tys_v (by omega)) k1 hd (fun H1 locs1 hP1 hD1 hS1 => ?_)
        rw [k2] at hP1 hD1
        have he9 : (Sum.inl (tc 4, e3, Sum.inr (Sum.inl (fun i => s_l ρ (s_look ((j, v) :: e4) i)))) : va_E) = .inl (tc 4, e3, .inr (.inl (vp_updL (fun i => s_l ρ (s_look e4 i)) j (Int64.ofInt (s_n ρ v))))) := by
          congr 5
          funext i
          rw [s_look_c]
          unfold vp_updL
          split <;> rfl
        have hset := s_h_set tc ρ α ξ h x.2.2 (2, 4, e3, (j, v) :: e4)
        rw [show s_e tc ρ α ξ (2, 4, e3, (j, v) :: e4) = _ from he9] at hset
        rw [hset] at hP1 hD1
        exact hih mi _ lo r _ iv c n k hm q3 X hin hE hA hP1 hD1 hS1 hl (by rw [List.length_set]; exact hb0) hag
      · cases hh
    · cases hh
  · cases hh
theorem v_cast (hih : s_All l D tc ξ xs ρ f) (hρ : s_ρ ρ xs) (hm : mi < s_M) (hd : decode (s_by mi) pc = .ok (.castore, 1)) (hn : npc = pc + 1) (hh : s_ast f mi npc lo st h iv c n k 1 1 2 = true) : s_Snd l D tc ξ xs ρ mi pc lo st h iv c n k := by
  intro p e R s m args below meth cc A α α0 b0 H locs ls X hin hE hA hP hD hS hl hb0 hag
  unfold s_ast at hh
  split at hh
  · next v y x r =>
    split at hh
    · next e he =>
      split at hh
      · next j hj =>
        rw [Bool.and_eq_true, Bool.and_eq_true] at hh
        obtain ⟨q1, q2, q3⟩ := hh
        replace q1 := Nat.eq_of_beq_eq_true q1
        obtain ⟨j1, j2, j3, j4⟩ := s_ix_v hin hj
        obtain ⟨k1, k2⟩ := s_ixI j3 j4
        obtain ⟨hx, hcell, hkd⟩ := s_arr_v he
        have hg := s_h_get (tc := tc) (ρ := ρ) (α := α) (ξ := ξ) hcell
        obtain ⟨e1, e2, e3, e4⟩ := e
        dsimp only at hkd q1 q3 hg k1 j3
        subst hkd; subst q1
        subst hn
        have q2 : (s_tag 0 v && s_rg 0 65535 iv v) = true := q2
        rw [Bool.and_eq_true] at q2
        have hnar := s_narC (s_rg_v hin q2.2).1 (s_rg_v hin q2.2).2
        rw [List.map_cons, List.map_cons, List.map_cons, s_v3 hx, s_v0 j1, j2, s_v0 q2.1]
        refine va_cast X.1 X.2.1 hE.1.1 hP hD hS _ 1 hg (s_tys_v (by omega)) k1 hd (fun H1 locs1 hP1 hD1 hS1 => ?_)
        rw [k2] at hP1 hD1
        have he9 : (Sum.inl (tc 1, e3, Sum.inl (fun i => s_i ρ (s_look ((j, v) :: e4) i))) : va_E) = .inl (tc 1, e3, .inl (upd (fun i => s_i ρ (s_look e4 i)) j (vp_nar .char (Int32.ofInt (s_n ρ v))))) := by
          rw [hnar]
          congr 4
          funext i
          rw [s_look_c]
          unfold upd
          split <;> rfl
        have hset := s_h_set tc ρ α ξ h x.2.2 (1, 1, e3, (j, v) :: e4)
        rw [show s_e tc ρ α ξ (1, 1, e3, (j, v) :: e4) = _ from he9] at hset
        rw [hset] at hP1 hD1
        exact hih mi _ lo r _ iv c n k hm q3 X hin hE hA hP1 hD1 hS1 hl (by rw [List.length_set]; exact hb0) hag
      · cases hh
    · cases hh
  · cases hh
theorem v_bast (hih : s_All l D tc ξ xs ρ f) (hρ : s_ρ ρ xs) (hm : mi < s_M) (hd : decode (s_by mi) pc = .ok (.bastore, 1)) (hn : npc = pc + 1) (hh : s_ast f mi npc lo st h iv c n k 1 2 5 = true) : s_Snd l D tc ξ xs ρ mi pc lo st h iv c n k := by
  intro p e R s m args below meth cc A α α0 b0 H locs ls X hin hE hA hP hD hS hl hb0 hag
  unfold s_ast at hh
  split at hh
  · next v y x r =>
    split at hh
    · next e he =>
      split at hh
      · next j hj =>
        rw [Bool.and_eq_true, Bool.and_eq_true] at hh
        obtain ⟨q1, q2, q3⟩ := hh
        replace q1 := Nat.eq_of_beq_eq_true q1
        obtain ⟨j1, j2, j3, j4⟩ := s_ix_v hin hj
        obtain ⟨k1, k2⟩ := s_ixI j3 j4
        obtain ⟨hx, hcell, hkd⟩ := s_arr_v he
        have hg := s_h_get (tc := tc) (ρ := ρ) (α := α) (ξ := ξ) hcell
        obtain ⟨e1, e2, e3, e4⟩ := e
        dsimp only at hkd q1 q3 hg k1 j3
        subst hkd; subst q1
        subst hn
        have q2 : (s_tag 0 v && s_rg (-128) 127 iv v) = true := q2
        rw [Bool.and_eq_true] at q2
        have hnar := s_narB (s_rg_v hin q2.2).1 (s_rg_v hin q2.2).2
        rw [List.map_cons, List.map_cons, List.map_cons, s_v3 hx, s_v0 j1, j2, s_v0 q2.1]
        refine va_bast X.1 X.2.1 hE.1.1 hP hD hS _ 2 hg (s_tys_v (by omega)) k1 hd (fun H1 locs1 hP1 hD1 hS1 => ?_)
        rw [k2] at hP1 hD1
        have he9 : (Sum.inl (tc 2, e3, Sum.inl (fun i => s_i ρ (s_look ((j, v) :: e4) i))) : va_E) = .inl (tc 2, e3, .inl (upd (fun i => s_i ρ (s_look e4 i)) j (vp_nar .byte (Int32.ofInt (s_n ρ v))))) := by
          rw [hnar]
          congr 4
          funext i
          rw [s_look_c]
          unfold upd
          split <;> rfl
        have hset := s_h_set tc ρ α ξ h x.2.2 (1, 2, e3, (j, v) :: e4)
        rw [show s_e tc ρ α ξ (1, 2, e3, (j, v) :: e4) = _ from he9] at hset
        rw [hset] at hP1 hD1
        exact hih mi _ lo r _ iv c n k hm q3 X hin hE hA hP1 hD1 hS1 hl (by rw [List.length_set]; exact hb0) hag
      · cases hh
    · cases hh
  · cases hh
theorem v_aas (hih : s_All l D tc ξ xs ρ f) (hρ : s_ρ ρ xs) (hm : mi < s_M) (hd : decode (s_by mi) pc = .ok (.aastore, 1)) (hn : npc = pc + 1) (hh : s_aas f mi npc lo st h iv c n k = true) : s_Snd l D tc ξ xs ρ mi pc lo st h iv c n k := by
  intro p e R s m args below meth cc A α α0 b0 H locs ls X hin hE hA hP hD hS hl hb0 hag
  unfold s_aas at hh
  split at hh
  · next v y x r =>
    split at hh
    · next e he =>
      split at hh
      · next j hj =>
        rw [Bool.and_eq_true] at hh
        obtain ⟨q0, hh⟩ := hh
        split at hh
        · next w hw =>
          rw [Bool.and_eq_true, Bool.and_eq_true] at hh
          obtain ⟨q1, q2, q3⟩ := hh
          replace q1 := Nat.eq_of_beq_eq_true q1
          replace q2 := Nat.eq_of_beq_eq_true q2
          obtain ⟨j1, j2, j3, j4⟩ := s_ix_v hin hj
          obtain ⟨k1, k2⟩ := s_ixI j3 j4
          obtain ⟨hx, hcell, hkd⟩ := s_arr_v he
          have hg := s_h_get (tc := tc) (ρ := ρ) (α := α) (ξ := ξ) hcell
          have hgw := s_h_get (tc := tc) (ρ := ρ) (α := α) (ξ := ξ) hw
          obtain ⟨e1, e2, e3, e4⟩ := e
          obtain ⟨w1, w2, w3, w4⟩ := w
          dsimp only at hkd q1 q2 q3 hg k1 j3 hgw
          subst hkd; subst q2; subst q1
          subst hn
          obtain ⟨rw9, hr9, -⟩ := hP _ _ hgw
          rw [List.map_cons, List.map_cons, List.map_cons, s_v3 hx, s_v0 j1, j2, s_v3 (s_tag_iff.mp q0)]
          refine va_astqO X.1 X.2.1 hE.1.1 hP hD hS _ 6 _ w2 hg (s_tys_v (by omega)) (hE.1.2.1 _ (s_cas hr9) rfl) hgw hr9 k1 hd (fun H1 locs1 hP1 hD1 hS1 => ?_)
          rw [k2] at hP1 hD1
          have he9 : (Sum.inl (tc 6, e3, Sum.inr (Sum.inr (Sum.inr (Sum.inr (fun i => s_q α ξ (s_look ((j, v) :: e4) i)))))) : va_E) = .inl (tc 6, e3, .inr (.inr (.inr (.inr (va_up (fun i => s_q α ξ (s_look e4 i)) j (some (α v.2.2))))))) := by
            congr 8
            funext i
            rw [s_look_c]
            unfold va_up
            have : s_q α ξ v = some (α v.2.2) := s_q3 (s_tag_iff.mp q0)
            split
            · exact this
            · rfl
          have hset := s_h_set tc ρ α ξ h x.2.2 (4, 6, e3, (j, v) :: e4)
          rw [show s_e tc ρ α ξ (4, 6, e3, (j, v) :: e4) = _ from he9] at hset
          rw [hset] at hP1 hD1
          exact hih mi _ lo r _ iv c n k hm q3 X hin hE hA hP1 hD1 hS1 hl (by rw [List.length_set]; exact hb0) hag
        · cases hh
      · cases hh
    · cases hh
  · cases hh
end S6
end
section
section S7
variable {l : Launch} {D : va_G} {tc : Nat → ClassId} {ξ : Nat → Nat} {xs : Nat → Int32} {ρ : Nat → Int} {f : sF}
variable {mi pc npc : Nat} {lo : sL} {st : List sV} {h : List sE} {iv : sI} {c n : Nat} {k : sZ → Bool}
theorem s_nar_v (hin : s_in ρ iv) {α : Nat → Nat} (t : Nat) {v : sV} (h0 : s_tag 0 v = true) {a b : Int} (h1 : s_rg a b iv v = true) {ty : FieldType} (ht : (t = 1 ∧ ty = .boolean ∧ a = 0 ∧ b = 1) ∨ (t = 2 ∧ ty = .char ∧ a = 0 ∧ b = 65535) ∨ (t = 5 ∧ ty = .byte ∧ a = -128 ∧ b = 127) := by first | exact Or.inl ⟨rfl, rfl, rfl, rfl⟩ | exact Or.inr (Or.inl ⟨rfl, rfl, rfl, rfl⟩) | exact Or.inr (Or.inr ⟨rfl, rfl, rfl, rfl⟩)) : narrow ty (s_v ρ α ξ v) = s_v ρ α ξ v := by
  have q := s_rg_v hin h1
  rw [s_v0 h0]
  rcases ht with ⟨-, rfl, rfl, rfl⟩ | ⟨-, rfl, rfl, rfl⟩ | ⟨-, rfl, rfl, rfl⟩
  · rcases (show s_n ρ v = 0 ∨ s_n ρ v = 1 by omega) with e | e <;> rw [e] <;> decide
  · obtain ⟨m, hm1, hm2, hm3⟩ := s_nat q.1 (by omega)
    rw [hm3]
    exact (pk_charN (by omega)).1
  · rw [← s_i2b_v q.1 q.2]
    exact pk_nb _
theorem s_cA {s : State} {t : Nat} {cA : ClassId} (ht : t < 7) (hK : va_K D vwCl (s_tys tc) s) (hK2 : va_K D vwCl (s_tys tc ++ [(cA, s_ft t)]) s) : cA = tc t := by
  have h1 := (hK.2 t _ (s_tys_v ht)).2
  have h2 := (hK2.2 7 (cA, s_ft t) rfl).2
  rcases (show t = 0 ∨ t = 1 ∨ t = 2 ∨ t = 3 ∨ t = 4 ∨ t = 5 ∨ t = 6 by omega) with rfl | rfl | rfl | rfl | rfl | rfl | rfl
  · exact Option.some.inj (h2.symm.trans h1)
  · exact Option.some.inj (h2.symm.trans h1)
  · exact Option.some.inj (h2.symm.trans h1)
  · exact Option.some.inj (h2.symm.trans h1)
  · exact Option.some.inj (h2.symm.trans h1)
  · exact Option.some.inj (h2.symm.trans h1)
  · obtain ⟨-, -, -, -, -, a⟩ := h1
    obtain ⟨-, -, -, -, -, b⟩ := h2
    exact Option.some.inj (b.symm.trans a)
/-- behind a making: the new cell has its place -/
theorem s_new_go (hih : s_All l D tc ξ xs ρ f) (hm : mi < s_M) {rst : List sV} {e9 : sE} (hh : s_new f s_P mi npc lo rst h iv c n k e9 = true) {p : Program} {e : Env} {R : Room} {s : State} {m : MethodId} {args : Array Value} {below : List Frame} {meth : Method} {cc : Code} {A : Nat → Prop} {α α0 : Nat → Nat} {b0 : Nat} {H : Heap} {locs : List Loc} {ls : Array Slot}
    (X : s_Cx mi p l R s m args meth cc) (hin : s_in ρ iv) (hE : s_Env D tc ξ xs A s) (hA : ∀ q, s.heap.size ≤ q → A q) (hl : lv_has ls (s_meta mi).1 (s_ll ρ α ξ lo)) (hb0 : b0 ≤ h.length) (hag : s_ag α0 α b0) {q : Nat} (hP : va_P D vwCl (s_h tc ρ α ξ h ++ [(q, s_e tc ρ α ξ e9)]) H) (hD : va_D A (s_h tc ρ α ξ h ++ [(q, s_e tc ρ α ξ e9)])) (hS : va_S A s.heap H locs) :
    c + 1 ≤ R.cells ∧ n + e9.2.2.1 ≤ R.slots ∧ W p l e R s m args below meth cc H locs (c + 1) (n + e9.2.2.1) (vx_MQ below (s_Qc D tc ξ ρ k A α0 b0) (s_Xc D tc ξ ρ k A α0 b0) args s (s_meta mi).2.2.1 (s_meta mi).2.2.2.1 A) (F0 m npc ls (.ref q :: rst.map (s_v ρ α ξ))) := by
  unfold s_new at hh
  rw [Bool.and_eq_true, Bool.and_eq_true, Bool.and_eq_true, Bool.and_eq_true] at hh
  obtain ⟨h1, h2, h3, h4, h5⟩ := hh
  have h3 : c + 1 ≤ (s_meta mi).2.2.1 := Nat.le_of_ble_eq_true h3
  have h4 : n + e9.2.2.1 ≤ (s_meta mi).2.2.2.1 := Nat.le_of_ble_eq_true h4
  refine ⟨Nat.le_trans h3 X.2.2.2.2.2.2.2.2.2.2.2.1, Nat.le_trans h4 X.2.2.2.2.2.2.2.2.2.2.2.2.1, ?_⟩
  unfold s_ok at h1
  rw [Bool.and_eq_true, Bool.and_eq_true] at h1
  obtain ⟨o1, o2, o3⟩ := h1
  have ha : s_ag α (va_up α h.length q) h.length := fun j hj => va_up_ne α q (by omega)
  have e1 : s_h tc ρ (va_up α h.length q) ξ (h ++ [e9]) = s_h tc ρ α ξ h ++ [(q, s_e tc ρ α ξ e9)] := by
    rw [s_h_app, s_h_v ha o3, va_up_self, s_e_v ha h2]
  rw [← e1] at hP hD
  have e2 : Value.ref q :: rst.map (s_v ρ α ξ) = ((3, 0, h.length) :: rst).map (s_v ρ (va_up α h.length q) ξ) := by
    rw [List.map_cons, s_st_v ha o2]
    show _ = Value.ref (va_up α h.length q h.length) :: _
    rw [va_up_self]
  rw [e2]
  exact hih mi _ lo ((3, 0, h.length) :: rst) (h ++ [e9]) iv (c + 1) _ k hm h5 X hin hE hA hP hD hS (by rw [s_ll_v ha o1]; exact hl) (by rw [List.length_append]; omega) (fun j hj => by rw [va_up_ne α q (by omega)]; exact hag j hj)
theorem v_newobj (hih : s_All l D tc ξ xs ρ f) (hρ : s_ρ ρ xs) (hm : mi < s_M) {ix ci wi : Nat} {r9 : vw_C} (hr : vwCl[ci]? = some r9) (hc : ci ∈ s_cus) (w1 : Cond.classLink (s_own mi) ix r9.1 ∈ s_U) (w2 : Cond.instantiable r9.1 r9.2.2 ∈ s_U) (w3 : Cond.initialized r9.1 ∈ s_U) (hd : decode (s_by mi) pc = .ok (.new ix, 3)) (hn : npc = pc + 3) (hh : s_new f s_P mi npc lo st h iv c n k (0, ci, (s_dflt ci).length, s_dflt ci) = true) : s_Snd l D tc ξ xs ρ mi pc lo st h iv c n k := by
  intro p e R s m args below meth cc A α α0 b0 H locs ls X hin hE hA hP hD hS hl hb0 hag
  subst hn
  obtain ⟨ty, t1, t2, t3, t4⟩ := s_cls (ξ := ξ) (α := α) hρ.1 hr
  obtain ⟨C9, T9, N9⟩ := r9
  dsimp only at t1 t2 t3 t4 w1 w2 w3
  have key := fun {q : Nat} {H1 : Heap} hP hD hS => s_new_go (e := e) (below := below) (locs := locs) (ls := ls) (H := H1) (q := q) hih hm hh X hin hE hA hl hb0 hag hP hD hS
  unfold s_new at hh
  rw [Bool.and_eq_true, Bool.and_eq_true, Bool.and_eq_true, Bool.and_eq_true] at hh
  obtain ⟨-, -, h3, h4, -⟩ := hh
  have h3 : c + 1 ≤ (s_meta mi).2.2.1 := Nat.le_of_ble_eq_true h3
  have h4 : n + (s_dflt ci).length ≤ (s_meta mi).2.2.2.1 := Nat.le_of_ble_eq_true h4
  rw [t3] at h4
  have hts := X.2.2.2.2.2.2.1
  refine va_new (ci := ci) (fs := (s_dflt ci).map (fun q => s_v ρ α ξ q.2)) X.1 X.2.1 hts (s_cus_v hc hr) ty t1 X.2.2.2.2.2.1 (hts _ w1) (hts _ w2) (hts _ w3) hE.1.1 hP hD hS hA hr t4 (Nat.le_trans h3 X.2.2.2.2.2.2.2.2.2.2.2.1) (Nat.le_trans h4 X.2.2.2.2.2.2.2.2.2.2.2.2.1) hd (fun q H1 hP1 hD1 hS1 => ?_)
  have z := (key (q := q) (H1 := H1) hP1 hD1 hS1).2.2
  dsimp only at z
  rw [t3] at z
  exact z
theorem v_newa0 (hih : s_All l D tc ξ xs ρ f) (hρ : s_ρ ρ xs) (hm : mi < s_M) (w1 : Cond.arrayClass (Op.newarray.typeOf .int) ∈ s_U) (hd : decode (s_by mi) pc = .ok (.newarray .int, 2)) (hn : npc = pc + 2) (hh : s_nar f s_P mi npc lo st h iv c n k 0 = true) : s_Snd l D tc ξ xs ρ mi pc lo st h iv c n k := by
  intro p e R s m args below meth cc A α α0 b0 H locs ls X hin hE hA hP hD hS hl hb0 hag
  unfold s_nar at hh
  split at hh
  · next x r =>
    split at hh
    · next j hj =>
      obtain ⟨j1, j2, j3, j4⟩ := s_ix_v hin hj
      obtain ⟨k1, k2⟩ := s_ixI j3 j4
      subst hn
      have key := fun {q : Nat} {H1 : Heap} hP hD hS => s_new_go (e := e) (below := below) (locs := locs) (ls := ls) (H := H1) (q := q) hih hm hh X hin hE hA hl hb0 hag hP hD hS
      unfold s_new at hh
      rw [Bool.and_eq_true, Bool.and_eq_true, Bool.and_eq_true, Bool.and_eq_true] at hh
      obtain ⟨-, -, h3, h4, -⟩ := hh
      have h3 : c + 1 ≤ (s_meta mi).2.2.1 := Nat.le_of_ble_eq_true h3
      have h4 : n + j ≤ (s_meta mi).2.2.2.1 := Nat.le_of_ble_eq_true h4
      rw [List.map_cons, s_v0 j1, j2]
      refine va_newa (atype := .int) (ty := s_ft 0) (a0 := (j, .inl (fun i => s_i ρ (s_look [] i)))) X.1 X.2.1 (X.2.2.2.2.2.2.1 _ w1) rfl hE.1.1 hP hD hS hA (N' := j) ?_ (fun q => k1 (Or.inl q)) k2 (Nat.le_trans (Nat.mul_le_mul_left j (show componentBytes (s_ft 0) ≤ 8 by decide)) (by omega)) (Nat.le_trans h3 X.2.2.2.2.2.2.2.2.2.2.2.1) (Nat.le_trans h4 X.2.2.2.2.2.2.2.2.2.2.2.2.1) hd (fun q cA H1 hK1 hP1 hD1 hS1 => ?_)
      · intro cA
        show arrV cA j (fun i => Value.int (s_i ρ (s_look [] i))) = arrV cA j (fun _ => defaultValue (s_ft 0))
        congr 1
        funext i
        show Value.int (Int32.ofInt (ρ 0 + 0)) = Value.int 0
        exact (s_dI hρ.1).symm
      · have hcA : cA = tc 0 := s_cA (by omega) hE.1.1 hK1
        subst hcA
        exact (key (q := q) (H1 := H1) hP1 hD1 hS1).2.2
    · cases hh
  · cases hh
theorem v_newa1 (hih : s_All l D tc ξ xs ρ f) (hρ : s_ρ ρ xs) (hm : mi < s_M) (w1 : Cond.arrayClass (Op.newarray.typeOf .char) ∈ s_U) (hd : decode (s_by mi) pc = .ok (.newarray .char, 2)) (hn : npc = pc + 2) (hh : s_nar f s_P mi npc lo st h iv c n k 1 = true) : s_Snd l D tc ξ xs ρ mi pc lo st h iv c n k := by
  intro p e R s m args below meth cc A α α0 b0 H locs ls X hin hE hA hP hD hS hl hb0 hag
  unfold s_nar at hh
  split at hh
  · next x r =>
    split at hh
    · next j hj =>
      obtain ⟨j1, j2, j3, j4⟩ := s_ix_v hin hj
      obtain ⟨k1, k2⟩ := s_ixI j3 j4
      subst hn
      have key := fun {q : Nat} {H1 : Heap} hP hD hS => s_new_go (e := e) (below := below) (locs := locs) (ls := ls) (H := H1) (q := q) hih hm hh X hin hE hA hl hb0 hag hP hD hS
      unfold s_new at hh
      rw [Bool.and_eq_true, Bool.and_eq_true, Bool.and_eq_true, Bool.and_eq_true] at hh
      obtain ⟨-, -, h3, h4, -⟩ := hh
      have h3 : c + 1 ≤ (s_meta mi).2.2.1 := Nat.le_of_ble_eq_true h3
      have h4 : n + j ≤ (s_meta mi).2.2.2.1 := Nat.le_of_ble_eq_true h4
      rw [List.map_cons, s_v0 j1, j2]
      refine va_newa (atype := .char) (ty := s_ft 1) (a0 := (j, .inl (fun i => s_i ρ (s_look [] i)))) X.1 X.2.1 (X.2.2.2.2.2.2.1 _ w1) rfl hE.1.1 hP hD hS hA (N' := j) ?_ (fun q => k1 (Or.inl q)) k2 (Nat.le_trans (Nat.mul_le_mul_left j (show componentBytes (s_ft 1) ≤ 8 by decide)) (by omega)) (Nat.le_trans h3 X.2.2.2.2.2.2.2.2.2.2.2.1) (Nat.le_trans h4 X.2.2.2.2.2.2.2.2.2.2.2.2.1) hd (fun q cA H1 hK1 hP1 hD1 hS1 => ?_)
      · intro cA
        show arrV cA j (fun i => Value.int (s_i ρ (s_look [] i))) = arrV cA j (fun _ => defaultValue (s_ft 1))
        congr 1
        funext i
        show Value.int (Int32.ofInt (ρ 0 + 0)) = Value.int 0
        exact (s_dI hρ.1).symm
      · have hcA : cA = tc 1 := s_cA (by omega) hE.1.1 hK1
        subst hcA
        exact (key (q := q) (H1 := H1) hP1 hD1 hS1).2.2
    · cases hh
  · cases hh
theorem v_newa2 (hih : s_All l D tc ξ xs ρ f) (hρ : s_ρ ρ xs) (hm : mi < s_M) (w1 : Cond.arrayClass (Op.newarray.typeOf .byte) ∈ s_U) (hd : decode (s_by mi) pc = .ok (.newarray .byte, 2)) (hn : npc = pc + 2) (hh : s_nar f s_P mi npc lo st h iv c n k 2 = true) : s_Snd l D tc ξ xs ρ mi pc lo st h iv c n k := by
  intro p e R s m args below meth cc A α α0 b0 H locs ls X hin hE hA hP hD hS hl hb0 hag
  unfold s_nar at hh
  split at hh
  · next x r =>
    split at hh
    · next j hj =>
      obtain ⟨j1, j2, j3, j4⟩ := s_ix_v hin hj
      obtain ⟨k1, k2⟩ := s_ixI j3 j4
      subst hn
      have key := fun {q : Nat} {H1 : Heap} hP hD hS => s_new_go (e := e) (below := below) (locs := locs) (ls := ls) (H := H1) (q := q) hih hm hh X hin hE hA hl hb0 hag hP hD hS
      unfold s_new at hh
      rw [Bool.and_eq_true, Bool.and_eq_true, Bool.and_eq_true, Bool.and_eq_true] at hh
      obtain ⟨-, -, h3, h4, -⟩ := hh
      have h3 : c + 1 ≤ (s_meta mi).2.2.1 := Nat.le_of_ble_eq_true h3
      have h4 : n + j ≤ (s_meta mi).2.2.2.1 := Nat.le_of_ble_eq_true h4
      rw [List.map_cons, s_v0 j1, j2]
      refine va_newa (atype := .byte) (ty := s_ft 2) (a0 := (j, .inl (fun i => s_i ρ (s_look [] i)))) X.1 X.2.1 (X.2.2.2.2.2.2.1 _ w1) rfl hE.1.1 hP hD hS hA (N' := j) ?_ (fun q => k1 (Or.inl q)) k2 (Nat.le_trans (Nat.mul_le_mul_left j (show componentBytes (s_ft 2) ≤ 8 by decide)) (by omega)) (Nat.le_trans h3 X.2.2.2.2.2.2.2.2.2.2.2.1) (Nat.le_trans h4 X.2.2.2.2.2.2.2.2.2.2.2.2.1) hd (fun q cA H1 hK1 hP1 hD1 hS1 => ?_)
      · intro cA
        show arrV cA j (fun i => Value.int (s_i ρ (s_look [] i))) = arrV cA j (fun _ => defaultValue (s_ft 2))
        congr 1
        funext i
        show Value.int (Int32.ofInt (ρ 0 + 0)) = Value.int 0
        exact (s_dI hρ.1).symm
      · have hcA : cA = tc 2 := s_cA (by omega) hE.1.1 hK1
        subst hcA
        exact (key (q := q) (H1 := H1) hP1 hD1 hS1).2.2
    · cases hh
  · cases hh
theorem v_newa3 (hih : s_All l D tc ξ xs ρ f) (hρ : s_ρ ρ xs) (hm : mi < s_M) (w1 : Cond.arrayClass (Op.newarray.typeOf .boolean) ∈ s_U) (hd : decode (s_by mi) pc = .ok (.newarray .boolean, 2)) (hn : npc = pc + 2) (hh : s_nar f s_P mi npc lo st h iv c n k 3 = true) : s_Snd l D tc ξ xs ρ mi pc lo st h iv c n k := by
  intro p e R s m args below meth cc A α α0 b0 H locs ls X hin hE hA hP hD hS hl hb0 hag
  unfold s_nar at hh
  split at hh
  · next x r =>
    split at hh
    · next j hj =>
      obtain ⟨j1, j2, j3, j4⟩ := s_ix_v hin hj
      obtain ⟨k1, k2⟩ := s_ixI j3 j4
      subst hn
      have key := fun {q : Nat} {H1 : Heap} hP hD hS => s_new_go (e := e) (below := below) (locs := locs) (ls := ls) (H := H1) (q := q) hih hm hh X hin hE hA hl hb0 hag hP hD hS
      unfold s_new at hh
      rw [Bool.and_eq_true, Bool.and_eq_true, Bool.and_eq_true, Bool.and_eq_true] at hh
      obtain ⟨-, -, h3, h4, -⟩ := hh
      have h3 : c + 1 ≤ (s_meta mi).2.2.1 := Nat.le_of_ble_eq_true h3
      have h4 : n + j ≤ (s_meta mi).2.2.2.1 := Nat.le_of_ble_eq_true h4
      rw [List.map_cons, s_v0 j1, j2]
      refine va_newa (atype := .boolean) (ty := s_ft 3) (a0 := (j, .inl (fun i => s_i ρ (s_look [] i)))) X.1 X.2.1 (X.2.2.2.2.2.2.1 _ w1) rfl hE.1.1 hP hD hS hA (N' := j) ?_ (fun q => k1 (Or.inl q)) k2 (Nat.le_trans (Nat.mul_le_mul_left j (show componentBytes (s_ft 3) ≤ 8 by decide)) (by omega)) (Nat.le_trans h3 X.2.2.2.2.2.2.2.2.2.2.2.1) (Nat.le_trans h4 X.2.2.2.2.2.2.2.2.2.2.2.2.1) hd (fun q cA H1 hK1 hP1 hD1 hS1 => ?_)
      · intro cA
        show arrV cA j (fun i => Value.int (s_i ρ (s_look [] i))) = arrV cA j (fun _ => defaultValue (s_ft 3))
        congr 1
        funext i
        show Value.int (Int32.ofInt (ρ 0 + 0)) = Value.int 0
        exact (s_dI hρ.1).symm
      · have hcA : cA = tc 3 := s_cA (by omega) hE.1.1 hK1
        subst hcA
        exact (key (q := q) (H1 := H1) hP1 hD1 hS1).2.2
    · cases hh
  · cases hh
theorem v_newa4 (hih : s_All l D tc ξ xs ρ f) (hρ : s_ρ ρ xs) (hm : mi < s_M) (w1 : Cond.arrayClass (Op.newarray.typeOf .long) ∈ s_U) (hd : decode (s_by mi) pc = .ok (.newarray .long, 2)) (hn : npc = pc + 2) (hh : s_nar f s_P mi npc lo st h iv c n k 4 = true) : s_Snd l D tc ξ xs ρ mi pc lo st h iv c n k := by
  intro p e R s m args below meth cc A α α0 b0 H locs ls X hin hE hA hP hD hS hl hb0 hag
  unfold s_nar at hh
  split at hh
  · next x r =>
    split at hh
    · next j hj =>
      obtain ⟨j1, j2, j3, j4⟩ := s_ix_v hin hj
      obtain ⟨k1, k2⟩ := s_ixI j3 j4
      subst hn
      have key := fun {q : Nat} {H1 : Heap} hP hD hS => s_new_go (e := e) (below := below) (locs := locs) (ls := ls) (H := H1) (q := q) hih hm hh X hin hE hA hl hb0 hag hP hD hS
      unfold s_new at hh
      rw [Bool.and_eq_true, Bool.and_eq_true, Bool.and_eq_true, Bool.and_eq_true] at hh
      obtain ⟨-, -, h3, h4, -⟩ := hh
      have h3 : c + 1 ≤ (s_meta mi).2.2.1 := Nat.le_of_ble_eq_true h3
      have h4 : n + j ≤ (s_meta mi).2.2.2.1 := Nat.le_of_ble_eq_true h4
      rw [List.map_cons, s_v0 j1, j2]
      refine va_newa (atype := .long) (ty := s_ft 4) (a0 := (j, .inr (.inl (fun i => s_l ρ (s_look [] i))))) X.1 X.2.1 (X.2.2.2.2.2.2.1 _ w1) rfl hE.1.1 hP hD hS hA (N' := j) ?_ (fun q => k1 (Or.inl q)) k2 (Nat.le_trans (Nat.mul_le_mul_left j (show componentBytes (s_ft 4) ≤ 8 by decide)) (by omega)) (Nat.le_trans h3 X.2.2.2.2.2.2.2.2.2.2.2.1) (Nat.le_trans h4 X.2.2.2.2.2.2.2.2.2.2.2.2.1) hd (fun q cA H1 hK1 hP1 hD1 hS1 => ?_)
      · intro cA
        show arrV cA j (fun i => Value.long (s_l ρ (s_look [] i))) = arrV cA j (fun _ => defaultValue (s_ft 4))
        congr 1
        funext i
        show Value.long (Int64.ofInt (ρ 0 + 0)) = Value.long 0
        exact (s_dL hρ.1).symm
      · have hcA : cA = tc 4 := s_cA (by omega) hE.1.1 hK1
        subst hcA
        exact (key (q := q) (H1 := H1) hP1 hD1 hS1).2.2
    · cases hh
  · cases hh
theorem v_newa5 (hih : s_All l D tc ξ xs ρ f) (hρ : s_ρ ρ xs) (hm : mi < s_M) (w1 : Cond.arrayClass (Op.newarray.typeOf .double) ∈ s_U) (hd : decode (s_by mi) pc = .ok (.newarray .double, 2)) (hn : npc = pc + 2) (hh : s_nar f s_P mi npc lo st h iv c n k 5 = true) : s_Snd l D tc ξ xs ρ mi pc lo st h iv c n k := by
  intro p e R s m args below meth cc A α α0 b0 H locs ls X hin hE hA hP hD hS hl hb0 hag
  unfold s_nar at hh
  split at hh
  · next x r =>
    split at hh
    · next j hj =>
      obtain ⟨j1, j2, j3, j4⟩ := s_ix_v hin hj
      obtain ⟨k1, k2⟩ := s_ixI j3 j4
      subst hn
      have key := fun {q : Nat} {H1 : Heap} hP hD hS => s_new_go (e := e) (below := below) (locs := locs) (ls := ls) (H := H1) (q := q) hih hm hh X hin hE hA hl hb0 hag hP hD hS
      unfold s_new at hh
      rw [Bool.and_eq_true, Bool.and_eq_true, Bool.and_eq_true, Bool.and_eq_true] at hh
      obtain ⟨-, -, h3, h4, -⟩ := hh
      have h3 : c + 1 ≤ (s_meta mi).2.2.1 := Nat.le_of_ble_eq_true h3
      have h4 : n + j ≤ (s_meta mi).2.2.2.1 := Nat.le_of_ble_eq_true h4
      rw [List.map_cons, s_v0 j1, j2]
      refine va_newa (atype := .double) (ty := s_ft 5) (a0 := (j, .inr (.inr (.inr (.inl (fun _ => 0)))))) X.1 X.2.1 (X.2.2.2.2.2.2.1 _ w1) rfl hE.1.1 hP hD hS hA (N' := j) ?_ (fun q => k1 (Or.inl q)) k2 (Nat.le_trans (Nat.mul_le_mul_left j (show componentBytes (s_ft 5) ≤ 8 by decide)) (by omega)) (Nat.le_trans h3 X.2.2.2.2.2.2.2.2.2.2.2.1) (Nat.le_trans h4 X.2.2.2.2.2.2.2.2.2.2.2.2.1) hd (fun q cA H1 hK1 hP1 hD1 hS1 => ?_)
      · intro cA
        show arrV cA j (fun _ => Value.double 0) = arrV cA j (fun _ => defaultValue (s_ft 5))
        congr 1
        all_goals rfl
      · have hcA : cA = tc 5 := s_cA (by omega) hE.1.1 hK1
        subst hcA
        exact (key (q := q) (H1 := H1) hP1 hD1 hS1).2.2
    · cases hh
  · cases hh
theorem v_newq (hih : s_All l D tc ξ xs ρ f) (hρ : s_ρ ρ xs) (hm : mi < s_M) {ix : Nat} (w1 : Cond.classLink (s_own mi) ix "java/lang/Object" ∈ s_U) (hd : decode (s_by mi) pc = .ok (.anewarray ix, 3)) (hn : npc = pc + 3) (hh : s_nar f s_P mi npc lo st h iv c n k 6 = true) : s_Snd l D tc ξ xs ρ mi pc lo st h iv c n k := by
  intro p e R s m args below meth cc A α α0 b0 H locs ls X hin hE hA hP hD hS hl hb0 hag
  unfold s_nar at hh
  split at hh
  · next x r =>
    split at hh
    · next j hj =>
      obtain ⟨j1, j2, j3, j4⟩ := s_ix_v hin hj
      obtain ⟨k1, k2⟩ := s_ixI j3 j4
      subst hn
      have key := fun {q : Nat} {H1 : Heap} hP hD hS => s_new_go (e := e) (below := below) (locs := locs) (ls := ls) (H := H1) (q := q) hih hm hh X hin hE hA hl hb0 hag hP hD hS
      unfold s_new at hh
      rw [Bool.and_eq_true, Bool.and_eq_true, Bool.and_eq_true, Bool.and_eq_true] at hh
      obtain ⟨-, -, h3, h4, -⟩ := hh
      have h3 : c + 1 ≤ (s_meta mi).2.2.1 := Nat.le_of_ble_eq_true h3
      have h4 : n + j ≤ (s_meta mi).2.2.2.1 := Nat.le_of_ble_eq_true h4
      rw [List.map_cons, s_v0 j1, j2]
      refine va_newq X.1 X.2.1 X.2.2.2.2.2.1 (X.2.2.2.2.2.2.1 _ w1) hE.1.2.2.2.1 hE.1.1 hP hD hS hA (N' := j) (fun q => k1 (Or.inl q)) k2 (by omega) (Nat.le_trans h3 X.2.2.2.2.2.2.2.2.2.2.2.1) (Nat.le_trans h4 X.2.2.2.2.2.2.2.2.2.2.2.2.1) hd (fun q cA H1 hK1 hP1 hD1 hS1 => ?_)
      have hcA : cA = tc 6 := s_cA (t := 6) (by omega) hE.1.1 hK1
      subst hcA
      exact (key (q := q) (H1 := H1) hP1 hD1 hS1).2.2
    · cases hh
  · cases hh
theorem v_ini (hih : s_All l D tc ξ xs ρ f) (hρ : s_ρ ρ xs) (hm : mi < s_M) {ix : Nat} (w1 : Cond.methodLink (s_own mi) ix Lib.objectInit ∈ s_U) (w2 : Cond.instanceMethod Lib.objectInit ∈ s_U) (w3 : Cond.code Lib.objectInit ⟨#[0xb1]⟩ 1 none ∈ s_U) (hd : decode (s_by mi) pc = .ok (.invokespecial ix, 3)) (hn : npc = pc + 3) (hh : s_ini f s_P mi npc lo st h iv c n k = true) : s_Snd l D tc ξ xs ρ mi pc lo st h iv c n k := by
  intro p e R s m args below meth cc A α α0 b0 H locs ls X hin hE hA hP hD hS hl hb0 hag
  unfold s_ini at hh
  split at hh
  · next x r =>
    rw [Bool.and_eq_true, Bool.and_eq_true, Bool.and_eq_true] at hh
    obtain ⟨q1, q2, q3, q4⟩ := hh
    have q2 : 1 ≤ (s_meta mi).2.1 := Nat.le_of_ble_eq_true q2
    have q3 : s_words r + 12 ≤ (s_meta mi).2.2.2.2.1 := Nat.le_of_ble_eq_true q3
    subst hn
    have hts := X.2.2.2.2.2.2.1
    rw [List.map_cons, s_v3 (s_tag_iff.mp q1)]
    refine W.objInit X.1 X.2.1 X.2.2.2.2.2.1 (hts _ w1) (hts _ w2) (hts _ w3) rfl (by rw [X.2.2.1]; exact hl.1) rfl hd (Nat.le_trans q2 X.2.2.2.2.2.2.2.2.2.2.1) ?_ ?_
    · show 2 * 0 + _ + 12 ≤ _
      rw [s_words_v]
      have := X.2.2.2.2.2.2.2.2.2.2.2.2.2
      omega
    · refine W.eq (g2 := F0 m (pc + 3) ls (r.map (s_v ρ α ξ))) rfl ?_
      exact hih mi _ lo r h iv c n k hm q4 X hin hE hA hP hD hS hl hb0 hag
  · cases hh
theorem s_F_keep {A : Nat → Prop} {s t : State} {H : Heap} {locs : List Loc} (hS : va_S A s.heap H locs) (h1 : H.size ≤ t.heap.size) (h2 : ∀ q : Nat, q < H.size → t.heap[q]? = H[q]?) : va_F A s t :=
  ⟨Nat.le_trans hS.1 h1, fun q hq hn => by rw [h2 q (Nat.lt_of_lt_of_le hq hS.1)]; exact hS.2.1 q hq hn⟩
theorem s_P_keep {ws : va_W} {H H1 : Heap} (h : va_P D vwCl ws H) (h2 : ∀ q : Nat, q < H.size → H1[q]? = H[q]?) : va_P D vwCl ws H1 := h.kept fun k q hk => h2 _ (vx_lt h hk)
theorem s_fit6 {x : Nat} (hx : s_ate x = true) : Bundle.fit (s_exc x) = true ∧ ∀ n ∈ s_nms, Bundle.fit n = true := by
  refine ⟨?_, by decide +kernel⟩
  unfold s_ate at hx
  split at hx <;> first | decide +kernel | cases hx
theorem s_pr2_v : ∀ {ws : List Cond} {is : List Nat}, s_pr2 ws is = true → ∀ w ∈ ws, w ∈ s_tbl ∧ (goodWord w || s_nk w) = true ∧ vx_ot w = true
  | [], _, _, w, h => absurd h List.not_mem_nil
  | a :: r, [], h, _, _ => by cases h
  | a :: r, i :: is, h, w, hw => by
    unfold s_pr2 at h
    rw [Bool.and_eq_true, Bool.and_eq_true, Bool.and_eq_true] at h
    rcases List.mem_cons.mp hw with rfl | hw
    · exact ⟨s_wat_v h.1, h.2.1, h.2.2.1⟩
    · exact s_pr2_v h.2.2.2 w hw
theorem s_nk_use {s : State} {args : Array Value} {w : Cond} (hk : s_nk w = true) (h : va_Nw w s) : w.before args s = true := by
  cases w <;> first | exact va_Nw.use rfl h | exact absurd hk (by simp [s_nk])
theorem v_thr {ix : Nat} {info : List Nat} (hw : s_tlk mi ix pc info = true) (hd : decode (s_by mi) pc = .ok (.new ix, 3)) (hh : s_thr s_P mi st h iv c n k (s_nth info 1) = true) : s_Snd l D tc ξ xs ρ mi pc lo st h iv c n k := by
  intro p e R s m args below meth cc A α α0 b0 H locs ls X hin hE hA hP hD hS hl hb0 hag
  unfold s_tlk at hw
  rw [Bool.and_eq_true, Bool.and_eq_true, Bool.and_eq_true, Bool.and_eq_true, Bool.and_eq_true, Bool.and_eq_true, Bool.and_eq_true] at hw
  obtain ⟨w1, w2, w3, w4, w5, w6, w7, w8⟩ := hw
  have w2 := of_decide_eq_true w2
  have w3 := Nat.eq_of_beq_eq_true w3
  have w6 := of_decide_eq_true w6
  have w7 := of_decide_eq_true w7
  have w8 := of_decide_eq_true w8
  have g1 := s_pre_v w1
  have hts := X.2.2.2.2.2.2.1
  have h2 := s_ath_ok w4
  unfold s_ath at h2
  have h3 := s_pr2_v h2
  rw [← w3, ← w2] at h3
  unfold s_thr at hh
  rw [Bool.and_eq_true, Bool.and_eq_true, Bool.and_eq_true, Bool.and_eq_true] at hh
  obtain ⟨q1, q2, q3, q4, q5⟩ := hh
  have q1 : 6 ≤ (s_meta mi).2.1 := Nat.le_of_ble_eq_true q1
  have q2 : s_words st + 81 ≤ (s_meta mi).2.2.2.2.1 := Nat.le_of_ble_eq_true q2
  have q3 : c + 1 ≤ (s_meta mi).2.2.1 := Nat.le_of_ble_eq_true q3
  have q4 : n + 6 ≤ (s_meta mi).2.2.2.1 := Nat.le_of_ble_eq_true q4
  have hRf := X.2.2.2.2.2.2.2.2.2.2.1
  have hRc := X.2.2.2.2.2.2.2.2.2.2.2.1
  have hRs := X.2.2.2.2.2.2.2.2.2.2.2.2.1
  have hRl := X.2.2.2.2.2.2.2.2.2.2.2.2.2
  have hat : ∀ w ∈ vx_at0 (s_own mi) (s_nth info 3) (s_exc (s_nth info 1)) s_nms, w.before args s = true := fun w hw => by
    obtain ⟨a, b, -⟩ := h3 w hw
    rw [Bool.or_eq_true] at b
    rcases b with b | b
    · exact hts w (s_U_in a b)
    · exact s_nk_use b (hE.1.2.1 w a b)
  have ok1 := g1 (.classLink (s_own mi) ix (s_exc (s_nth info 1))) List.mem_cons_self
  have ok2 := g1 (.initialized (s_exc (s_nth info 1))) (List.mem_cons_of_mem _ List.mem_cons_self)
  have gd : ∀ w ∈ s_U, vx_ot w = true := fun w hw => by
    unfold vx_ot
    rw [(List.mem_filter.mp hw).2, Bool.or_true]
  refine vx_throw0 (cls := s_exc (s_nth info 1)) (names := s_nms) (A := A) X.1 X.2.1 X.2.2.2.2.2.2.2.2.2.1 X.2.2.2.2.2.1 (s_fit6 w4).1 (s_fit6 w4).2 (hts _ ok1) (hts _ ok2) hat ?_ hE.2.1.2.2.2.1 hE.2.1.2.2.2.2.1 hS (by rw [X.2.2.1]; exact hl.1) hd w6 w7 w8 ?_ (by show 2 + 3 < _; omega) ?_ (Nat.le_trans q3 hRc) (Nat.le_trans q4 hRs) X.2.2.2.2.1 ?_ hS.2.2 q3 q4
  · intro w hw
    rcases List.mem_cons.mp hw with rfl | hw
    · exact gd _ ok1
    · rcases List.mem_cons.mp hw with rfl | hw
      · exact gd _ ok2
      · exact (h3 w hw).2.2
  · intro z hz
    have : s_hx mi = [] := by
      unfold s_emp at w5
      split at w5
      · assumption
      · cases w5
    rw [X.2.2.2.2.2.2.2.1, this] at hz
    exact absurd hz (by simp [tableOf])
  · rw [s_words_v]
    show s_words st + (13 * (2 + 1) + 42) ≤ _
    omega
  · intro t ht1 ht2 ht3
    exact ⟨⟨_, α, s_nth info 1, q5, hin, hag, hb0, rfl, rfl, s_P_keep hP ht3, hD⟩, s_F_keep hS ht2 ht3⟩
theorem v_iret (hr : s_rt mi = some .int) (hd : decode (s_by mi) pc = .ok (.ireturn, 1)) (hh : s_ret s_P mi c n k st h iv (s_tag 0) = true) : s_Snd l D tc ξ xs ρ mi pc lo st h iv c n k := by
  intro p e R s m args below meth cc A α α0 b0 H locs ls X hin hE hA hP hD hS hl hb0 hag
  unfold s_ret at hh
  split at hh
  · next v =>
    rw [Bool.and_eq_true, Bool.and_eq_true] at hh
    obtain ⟨q1, q2, q3⟩ := hh
    unfold s_lim at q2
    rw [Bool.and_eq_true] at q2
    refine W.widen (k := (s_meta mi).2.2.1) (n := (s_meta mi).2.2.2.1) (Nat.le_of_ble_eq_true q2.1) (Nat.le_of_ble_eq_true q2.2) ?_
    refine vx_ret ?_
    have hq : ∀ t : State, t.heap = H → s.WarmedH t.vm → s_Qc D tc ξ ρ k A α0 b0 args s (.returned (some (s_v ρ α ξ v))) t := fun t ht hW => ⟨⟨_, α, q3, hin, hag, hb0, Or.inr ⟨rfl, rfl⟩, by rw [ht]; exact hP, hD⟩, hS.F ht⟩
    rw [List.map_cons, List.map_nil]
    rw [s_v0 q1] at hq ⊢
    exact W.iret X.1 X.2.1 (X.2.2.2.1.trans hr) hq hS.2.2 hd X.2.2.2.2.1
  · cases hh
theorem v_zret (hr : s_rt mi = some .boolean) (hd : decode (s_by mi) pc = .ok (.ireturn, 1)) (hh : s_ret s_P mi c n k st h iv (s_fit iv 1) = true) : s_Snd l D tc ξ xs ρ mi pc lo st h iv c n k := by
  intro p e R s m args below meth cc A α α0 b0 H locs ls X hin hE hA hP hD hS hl hb0 hag
  unfold s_ret at hh
  split at hh
  · next v =>
    rw [Bool.and_eq_true, Bool.and_eq_true] at hh
    obtain ⟨q1, q2, q3⟩ := hh
    unfold s_lim at q2
    rw [Bool.and_eq_true] at q2
    refine W.widen (k := (s_meta mi).2.2.1) (n := (s_meta mi).2.2.2.1) (Nat.le_of_ble_eq_true q2.1) (Nat.le_of_ble_eq_true q2.2) ?_
    refine vx_ret ?_
    have hq : ∀ t : State, t.heap = H → s.WarmedH t.vm → s_Qc D tc ξ ρ k A α0 b0 args s (.returned (some (s_v ρ α ξ v))) t := fun t ht hW => ⟨⟨_, α, q3, hin, hag, hb0, Or.inr ⟨rfl, rfl⟩, by rw [ht]; exact hP, hD⟩, hS.F ht⟩
    rw [List.map_cons, List.map_nil]
    have q1 : (s_tag 0 v && s_rg 0 1 iv v) = true := q1
    rw [Bool.and_eq_true] at q1
    have hn9 : narrow .boolean (s_v ρ α ξ v) = s_v ρ α ξ v := s_nar_v hin 1 q1.1 q1.2
    rw [s_v0 q1.1] at hq hn9 ⊢
    exact W.zret X.1 X.2.1 (X.2.2.2.1.trans hr) hn9 hq hS.2.2 hd X.2.2.2.2.1
  · cases hh
theorem v_cret (hr : s_rt mi = some .char) (hd : decode (s_by mi) pc = .ok (.ireturn, 1)) (hh : s_ret s_P mi c n k st h iv (s_fit iv 2) = true) : s_Snd l D tc ξ xs ρ mi pc lo st h iv c n k := by
  intro p e R s m args below meth cc A α α0 b0 H locs ls X hin hE hA hP hD hS hl hb0 hag
  unfold s_ret at hh
  split at hh
  · next v =>
    rw [Bool.and_eq_true, Bool.and_eq_true] at hh
    obtain ⟨q1, q2, q3⟩ := hh
    unfold s_lim at q2
    rw [Bool.and_eq_true] at q2
    refine W.widen (k := (s_meta mi).2.2.1) (n := (s_meta mi).2.2.2.1) (Nat.le_of_ble_eq_true q2.1) (Nat.le_of_ble_eq_true q2.2) ?_
    refine vx_ret ?_
    have hq : ∀ t : State, t.heap = H → s.WarmedH t.vm → s_Qc D tc ξ ρ k A α0 b0 args s (.returned (some (s_v ρ α ξ v))) t := fun t ht hW => ⟨⟨_, α, q3, hin, hag, hb0, Or.inr ⟨rfl, rfl⟩, by rw [ht]; exact hP, hD⟩, hS.F ht⟩
    rw [List.map_cons, List.map_nil]
    have q1 : (s_tag 0 v && s_rg 0 65535 iv v) = true := q1
    rw [Bool.and_eq_true] at q1
    have hn9 : narrow .char (s_v ρ α ξ v) = s_v ρ α ξ v := s_nar_v hin 2 q1.1 q1.2
    rw [s_v0 q1.1] at hq hn9 ⊢
    exact W.zret X.1 X.2.1 (X.2.2.2.1.trans hr) hn9 hq hS.2.2 hd X.2.2.2.2.1
  · cases hh
theorem v_bret (hr : s_rt mi = some .byte) (hd : decode (s_by mi) pc = .ok (.ireturn, 1)) (hh : s_ret s_P mi c n k st h iv (s_fit iv 5) = true) : s_Snd l D tc ξ xs ρ mi pc lo st h iv c n k := by
  intro p e R s m args below meth cc A α α0 b0 H locs ls X hin hE hA hP hD hS hl hb0 hag
  unfold s_ret at hh
  split at hh
  · next v =>
    rw [Bool.and_eq_true, Bool.and_eq_true] at hh
    obtain ⟨q1, q2, q3⟩ := hh
    unfold s_lim at q2
    rw [Bool.and_eq_true] at q2
    refine W.widen (k := (s_meta mi).2.2.1) (n := (s_meta mi).2.2.2.1) (Nat.le_of_ble_eq_true q2.1) (Nat.le_of_ble_eq_true q2.2) ?_
    refine vx_ret ?_
    have hq : ∀ t : State, t.heap = H → s.WarmedH t.vm → s_Qc D tc ξ ρ k A α0 b0 args s (.returned (some (s_v ρ α ξ v))) t := fun t ht hW => ⟨⟨_, α, q3, hin, hag, hb0, Or.inr ⟨rfl, rfl⟩, by rw [ht]; exact hP, hD⟩, hS.F ht⟩
    rw [List.map_cons, List.map_nil]
    have q1 : (s_tag 0 v && s_rg (-128) 127 iv v) = true := q1
    rw [Bool.and_eq_true] at q1
    have hn9 : narrow .byte (s_v ρ α ξ v) = s_v ρ α ξ v := s_nar_v hin 5 q1.1 q1.2
    rw [s_v0 q1.1] at hq hn9 ⊢
    exact W.zret X.1 X.2.1 (X.2.2.2.1.trans hr) hn9 hq hS.2.2 hd X.2.2.2.2.1
  · cases hh
theorem v_lret (hr : s_rt mi = some .long) (hd : decode (s_by mi) pc = .ok (.lreturn, 1)) (hh : s_ret s_P mi c n k st h iv (s_tag 1) = true) : s_Snd l D tc ξ xs ρ mi pc lo st h iv c n k := by
  intro p e R s m args below meth cc A α α0 b0 H locs ls X hin hE hA hP hD hS hl hb0 hag
  unfold s_ret at hh
  split at hh
  · next v =>
    rw [Bool.and_eq_true, Bool.and_eq_true] at hh
    obtain ⟨q1, q2, q3⟩ := hh
    unfold s_lim at q2
    rw [Bool.and_eq_true] at q2
    refine W.widen (k := (s_meta mi).2.2.1) (n := (s_meta mi).2.2.2.1) (Nat.le_of_ble_eq_true q2.1) (Nat.le_of_ble_eq_true q2.2) ?_
    refine vx_ret ?_
    have hq : ∀ t : State, t.heap = H → s.WarmedH t.vm → s_Qc D tc ξ ρ k A α0 b0 args s (.returned (some (s_v ρ α ξ v))) t := fun t ht hW => ⟨⟨_, α, q3, hin, hag, hb0, Or.inr ⟨rfl, rfl⟩, by rw [ht]; exact hP, hD⟩, hS.F ht⟩
    rw [List.map_cons, List.map_nil]
    rw [s_v1 q1] at hq ⊢
    exact W.lret X.1 X.2.1 (X.2.2.2.1.trans hr) hq hS.2.2 hd X.2.2.2.2.1
  · cases hh
theorem v_fret (hr : s_rt mi = some .float) (hd : decode (s_by mi) pc = .ok (.freturn, 1)) (hh : s_ret s_P mi c n k st h iv (s_tag 5) = true) : s_Snd l D tc ξ xs ρ mi pc lo st h iv c n k := by
  intro p e R s m args below meth cc A α α0 b0 H locs ls X hin hE hA hP hD hS hl hb0 hag
  unfold s_ret at hh
  split at hh
  · next v =>
    rw [Bool.and_eq_true, Bool.and_eq_true] at hh
    obtain ⟨q1, q2, q3⟩ := hh
    unfold s_lim at q2
    rw [Bool.and_eq_true] at q2
    refine W.widen (k := (s_meta mi).2.2.1) (n := (s_meta mi).2.2.2.1) (Nat.le_of_ble_eq_true q2.1) (Nat.le_of_ble_eq_true q2.2) ?_
    refine vx_ret ?_
    have hq : ∀ t : State, t.heap = H → s.WarmedH t.vm → s_Qc D tc ξ ρ k A α0 b0 args s (.returned (some (s_v ρ α ξ v))) t := fun t ht hW => ⟨⟨_, α, q3, hin, hag, hb0, Or.inr ⟨rfl, rfl⟩, by rw [ht]; exact hP, hD⟩, hS.F ht⟩
    rw [List.map_cons, List.map_nil]
    rw [s_v5 q1] at hq ⊢
    exact W.fret X.1 X.2.1 (X.2.2.2.1.trans hr) hq hS.2.2 hd X.2.2.2.2.1
  · cases hh
theorem v_dret (hr : s_rt mi = some .double) (hd : decode (s_by mi) pc = .ok (.dreturn, 1)) (hh : s_ret s_P mi c n k st h iv (s_tag 6) = true) : s_Snd l D tc ξ xs ρ mi pc lo st h iv c n k := by
  intro p e R s m args below meth cc A α α0 b0 H locs ls X hin hE hA hP hD hS hl hb0 hag
  unfold s_ret at hh
  split at hh
  · next v =>
    rw [Bool.and_eq_true, Bool.and_eq_true] at hh
    obtain ⟨q1, q2, q3⟩ := hh
    unfold s_lim at q2
    rw [Bool.and_eq_true] at q2
    refine W.widen (k := (s_meta mi).2.2.1) (n := (s_meta mi).2.2.2.1) (Nat.le_of_ble_eq_true q2.1) (Nat.le_of_ble_eq_true q2.2) ?_
    refine vx_ret ?_
    have hq : ∀ t : State, t.heap = H → s.WarmedH t.vm → s_Qc D tc ξ ρ k A α0 b0 args s (.returned (some (s_v ρ α ξ v))) t := fun t ht hW => ⟨⟨_, α, q3, hin, hag, hb0, Or.inr ⟨rfl, rfl⟩, by rw [ht]; exact hP, hD⟩, hS.F ht⟩
    rw [List.map_cons, List.map_nil]
    rw [s_v6 q1] at hq ⊢
    exact W.dret X.1 X.2.1 (X.2.2.2.1.trans hr) hq hS.2.2 hd X.2.2.2.2.1
  · cases hh
theorem v_aret (hr : s_isR (s_rt mi) = true) (hd : decode (s_by mi) pc = .ok (.areturn, 1)) (hh : s_ret s_P mi c n k st h iv (s_isA) = true) : s_Snd l D tc ξ xs ρ mi pc lo st h iv c n k := by
  intro p e R s m args below meth cc A α α0 b0 H locs ls X hin hE hA hP hD hS hl hb0 hag
  unfold s_ret at hh
  split at hh
  · next v =>
    rw [Bool.and_eq_true, Bool.and_eq_true] at hh
    obtain ⟨q1, q2, q3⟩ := hh
    unfold s_lim at q2
    rw [Bool.and_eq_true] at q2
    refine W.widen (k := (s_meta mi).2.2.1) (n := (s_meta mi).2.2.2.1) (Nat.le_of_ble_eq_true q2.1) (Nat.le_of_ble_eq_true q2.2) ?_
    refine vx_ret ?_
    have hq : ∀ t : State, t.heap = H → s.WarmedH t.vm → s_Qc D tc ξ ρ k A α0 b0 args s (.returned (some (s_v ρ α ξ v))) t := fun t ht hW => ⟨⟨_, α, q3, hin, hag, hb0, Or.inr ⟨rfl, rfl⟩, by rw [ht]; exact hP, hD⟩, hS.F ht⟩
    rw [List.map_cons, List.map_nil]
    obtain ⟨rt, h8, h9⟩ : ∃ rt, s_rt mi = some rt ∧ ((∃ n, rt = .object n) ∨ ∃ t, rt = .array t) := by
      unfold s_isR at hr
      split at hr
      · next z e9 => exact ⟨_, e9, Or.inl ⟨_, rfl⟩⟩
      · next z e9 => exact ⟨_, e9, Or.inr ⟨_, rfl⟩⟩
      · cases hr
    exact W.aret X.1 X.2.1 (X.2.2.2.1.trans h8) h9 (s_vA q1) hq hS.2.2 hd X.2.2.2.2.1
  · cases hh
theorem v_vret (hr : s_rt mi = none) (hd : decode (s_by mi) pc = .ok (.return_, 1)) (hh : (match st with | [] => s_lim s_P mi c n && k (0, (2, 0, 0), h, iv) | _ => false) = true) : s_Snd l D tc ξ xs ρ mi pc lo st h iv c n k := by
  intro p e R s m args below meth cc A α α0 b0 H locs ls X hin hE hA hP hD hS hl hb0 hag
  split at hh
  · rw [Bool.and_eq_true] at hh
    obtain ⟨q2, q3⟩ := hh
    unfold s_lim at q2
    rw [Bool.and_eq_true] at q2
    refine W.widen (k := (s_meta mi).2.2.1) (n := (s_meta mi).2.2.2.1) (Nat.le_of_ble_eq_true q2.1) (Nat.le_of_ble_eq_true q2.2) ?_
    refine vx_ret ?_
    exact W.vret X.1 X.2.1 (X.2.2.2.1.trans hr) (fun t ht hW => ⟨⟨_, α, q3, hin, hag, hb0, Or.inl ⟨rfl, rfl⟩, by rw [ht]; exact hP, hD⟩, hS.F ht⟩) hS.2.2 hd X.2.2.2.2.1
  · cases hh
end S7
end
section
section S8
variable {l : Launch} {D : va_G} {tc : Nat → ClassId} {ξ : Nat → Nat} {xs : Nat → Int32} {ρ : Nat → Int} {f : sF}
variable {mi pc npc : Nat} {lo : sL} {st : List sV} {h : List sE} {iv : sI} {c n : Nat} {k : sZ → Bool}
theorem v_ldcS (hih : s_All l D tc ξ xs ρ f) (hm : mi < s_M) {ix : Nat} (hw : s_own mi = "TaperhallModel" ∧ ix = 361) (hd : decode (s_by mi) pc = .ok (.ldc_w ix, 3)) (hn : npc = pc + 3) (hh : f mi npc lo ((4, 0, 2) :: st) h iv c n k = true) : s_Snd l D tc ξ xs ρ mi pc lo st h iv c n k := by
  intro p e R s m args below meth cc A α α0 b0 H locs ls X hin hE hA hP hD hS hl hb0 hag
  subst hn
  obtain ⟨w1, rfl⟩ := hw
  have hown := X.2.2.2.2.2.1
  rw [w1] at hown
  have hZ := hE.1.2.2.2.2.1
  intro T hT X9
  obtain ⟨t, a1, b1⟩ := hih mi _ lo ((4, 0, 2) :: st) h iv c n k hm hh X hin hE hA hP hD hS hl hb0 hag T hT X9
  exact ⟨t, X9.ldcStringW X.1 hown (text := "fgbe") (a := ξ 2) hZ.1 hZ.2 (g := F0 m pc ls (st.map (s_v ρ α ξ))) rfl (by rw [X.2.1]; exact hd) t a1, b1⟩
end S8
end
section
/-! the two rows vx_ofW, vx_ofWH for classes that have entries, of members that have none -/
section S9a
variable {l : Launch}
theorem s_ofW {y : MethodName} {ws ws' : List Cond} {rm : Room} {Pc : Array Value → State → Prop} {Qc : Array Value → State → Outcome → State → Prop} {XC : String → State → State → Prop} {mc ms : Nat} {free : Addr → Prop} {cc : ByteArray} {maxL : Nat} {ret : Option FieldType}
    (hy : plainFor y = true) (hw : ws = Cond.code y cc maxL ret :: ws')
    (body : ∀ p e s m args below meth c s₁, BodyLoose p l y (headSpec ws rm) cc maxL ret e s m args below meth c s₁ → c.maxLocals = maxL → (∀ x ∈ c.exceptionTable.toList, False) → Pc args s →
      W p l e (headSpec ws rm).room s m args below meth c s.heap [] 0 0 (vx_MQ below Qc XC args s mc ms free) (entryFrame m args maxL)) : vx_Met l y ws rm Pc Qc XC mc ms free := by
  refine MetFree.of_bodySF (code := cc) (maxLocals := maxL) (ret := ret) hy ?_ ?_
  · intro args s m h hn
    obtain ⟨meth, c, h1, h2, h3, h4, h5, h6, -, -⟩ := Cond.code_spec hn (atoms_spec (ws := ws) h _ (by rw [hw]; exact List.mem_cons_self))
    exact ⟨meth, c, h1, h2, h3, h4, h5, h6⟩
  · intro p e s m args below meth c s₁ B hml hP _
    have hh0 : s₁.heap = s.heap := by rw [B.state]; rfl
    have ht : ∀ x ∈ c.exceptionTable.toList, False := by
      obtain ⟨meth9, c9, h1, h2, -, -, -, -, h7, -⟩ := Cond.code_spec B.named (atoms_spec (ws := ws) B.pre _ (by rw [hw]; exact List.mem_cons_self))
      cases Option.some.inj (h1.symm.trans B.method)
      cases Option.some.inj (h2.symm.trans (Stand.of_body B).code)
      intro x hx
      rw [Array.isEmpty_iff.mp h7] at hx
      cases hx
    obtain ⟨t, a1, o, b1, b2, b3⟩ := body p e s m args below meth c s₁ B hml ht hP s₁ hh0 (Stand.of_body B)
    exact ⟨t, o, a1, b1, b2, b3⟩
theorem s_ofWH {l : Launch} {y : MethodName} {ws ws' : List Cond} {rm : Room} {Pc : Array Value → State → Prop} {Qc : Array Value → State → Outcome → State → Prop} {XC : String → State → State → Prop} {mc ms : Nat} {free : Addr → Prop} {cc : ByteArray} {maxL : Nat} {ret : Option FieldType} {hh : List (Nat × Nat × Nat × Nat)}
    (hy : plainFor y = true) (hw : ws = Cond.codeWith y cc maxL ret hh :: ws')
    (body : ∀ p e s m args below meth c s₁, BodyLoose p l y (headSpec ws rm) cc maxL ret e s m args below meth c s₁ → c.maxLocals = maxL → Pc args s →
      W p l e (headSpec ws rm).room s m args below meth c s.heap [] 0 0 (vx_MQ below Qc XC args s mc ms free) (entryFrame m args maxL)) : vx_Met l y ws rm Pc Qc XC mc ms free := by
  refine MetFree.of_bodySF (code := cc) (maxLocals := maxL) (ret := ret) hy ?_ ?_
  · intro args s m h hn
    obtain ⟨m9, meth, c, hn9, h1, h2, h3, h4, -, h5, h6, -⟩ := Cond.codeWith_spec (atoms_spec (ws := ws) h _ (by rw [hw]; exact List.mem_cons_self))
    cases hn.symm.trans hn9
    exact ⟨meth, c, h1, h2, h3, h4, h5, h6⟩
  · intro p e s m args below meth c s₁ B hml hP _
    have hh0 : s₁.heap = s.heap := by rw [B.state]; rfl
    obtain ⟨t, a1, o, b1, b2, b3⟩ := body p e s m args below meth c s₁ B hml hP s₁ hh0 (Stand.of_body B)
    exact ⟨t, o, a1, b1, b2, b3⟩
end S9a
section S9
variable {l : Launch} {D : va_G} {tc : Nat → ClassId} {ξ : Nat → Nat} {xs : Nat → Int32} {ρ : Nat → Int} {f : sF}
variable {mi pc npc : Nat} {lo : sL} {st : List sV} {h : List sE} {iv : sI} {c n : Nat} {k : sZ → Bool}
theorem s_lg_len (α : Nat → Nat) (vs : List sV) : (lg_sl (vs.map (s_v ρ α ξ))).length = s_words vs := by
  induction vs with
  | nil => rfl
  | cons a r ih =>
    unfold lg_sl at ih ⊢
    rw [List.map_cons, List.flatMap_cons, List.length_append, ih, s_cat_v]
    show _ = s_cat a + s_words r
    rcases s_cat_12 a with q | q <;> simp [q]
theorem s_words_app (a b : List sV) : s_words (a ++ b) = s_words a + s_words b := by
  induction a with
  | nil => simp [s_words]
  | cons x r ih => simp [s_words, ih, Nat.add_assoc]
theorem s_words_rev (a : List sV) : s_words a.reverse = s_words a := by
  induction a with
  | nil => rfl
  | cons x r ih => rw [List.reverse_cons, s_words_app, ih]; simp [s_words, Nat.add_comm]
/-- what a method is handed -/
def s_Pc (D : va_G) (tc : Nat → ClassId) (ξ : Nat → Nat) (xs : Nat → Int32) (ρ : Nat → Int) (α : Nat → Nat) (h : List sE) (as : List sV) (sz : Nat) : Array Value → State → Prop :=
  va_Pc (as.map (s_v ρ α ξ)) (fun U => U.heap.size = sz ∧ va_P D vwCl (s_h tc ρ α ξ h) U.heap ∧ va_D (fun _ => True) (s_h tc ρ α ξ h) ∧ s_Env D tc ξ xs (va_A (s_h tc ρ α ξ h) sz) U)
theorem s_Pc_blind {α : Nat → Nat} {as : List sV} {sz : Nat} : FrameBlind (s_Pc D tc ξ xs ρ α h as sz) := by
  intro a U g mk hp
  obtain ⟨h1, h2, h3, h4, h5⟩ := hp
  exact ⟨h1, h2, h3, h4, h5.go (State.WarmedH.refl U) (Nat.le_refl _) (fun _ _ _ => rfl) (fun _ q => q)⟩
/-- a method's contract, out of its run from its first row -/
theorem s_met (hl : l.stackTraces = false) {y : Nat} (hy : y < s_M) (h0 : 0 < y) {as : List sV} (hin : s_in ρ iv) (hw : s_words as ≤ (s_meta y).1) (hsnd : s_Snd l D tc ξ xs ρ y 0 (s_args 0 as) [] h iv 0 0 k) (α : Nat → Nat) (sz : Nat) :
    vx_Met l (s_y y) (s_ws y) (s_rm y) (s_Pc D tc ξ xs ρ α h as sz) (s_Qc D tc ξ ρ k (va_A (s_h tc ρ α ξ h) sz) α h.length) (s_Xc D tc ξ ρ k (va_A (s_h tc ρ α ξ h) sz) α h.length) (s_meta y).2.2.1 (s_meta y).2.2.2.1 (va_A (s_h tc ρ α ξ h) sz) := by
  have hok := s_mok_ok hy h0
  unfold s_mok at hok
  rw [Bool.and_eq_true, Bool.and_eq_true, Bool.and_eq_true, Bool.and_eq_true] at hok
  obtain ⟨-, -, o1, o2, -⟩ := hok
  have o2 := of_decide_eq_true o2
  have body : ∀ p e s m args below meth c s₁, BodyLoose p l (s_y y) (headSpec (s_ws y) (s_rm y)) (s_by y) (s_meta y).1 (s_rt y) e s m args below meth c s₁ → c.maxLocals = (s_meta y).1 → c.exceptionTable.toList = tableOf (s_hx y) → s_Pc D tc ξ xs ρ α h as sz args s →
      W p l e (headSpec (s_ws y) (s_rm y)).room s m args below meth c s.heap [] 0 0 (vx_MQ below (s_Qc D tc ξ ρ k (va_A (s_h tc ρ α ξ h) sz) α h.length) (s_Xc D tc ξ ρ k (va_A (s_h tc ρ α ξ h) sz) α h.length) args s (s_meta y).2.2.1 (s_meta y).2.2.2.1 (va_A (s_h tc ρ α ξ h) sz)) (entryFrame m args (s_meta y).1) := by
    intro p e s m args below meth c s₁ B hml htab hp
    obtain ⟨rfl, hsz, hP, hD0, hE⟩ := hp
    have hts := atoms_spec (ws := s_ws y) B.pre
    subst hsz
    have hlv := lv_entry (as.map (s_v ρ α ξ)) (n := (s_meta y).1) (by rw [s_lg_len]; exact hw)
    rw [lg_entry_eq]
    generalize (lg_sl (as.map (s_v ρ α ξ)) ++ List.replicate ((s_meta y).1 - (lg_sl (as.map (s_v ρ α ξ))).length) Slot.unset).toArray = ls at hlv ⊢
    rw [s_ll_args] at hlv
    have hf := findClass_of_methodNamed B.named
    rw [o2] at hf
    exact hsnd ⟨B.exec, B.bytes, hml, B.returns, B.notSynchronized, hf, fun w hw => hts w (List.mem_cons_of_mem _ hw), htab, (name_of_methodNamed B.named B.method).1, hl, Nat.le_refl _, Nat.le_refl _, Nat.le_refl _, Nat.le_refl _⟩ hin hE (fun q hq => Or.inr hq) hP (hD0.self) va_S.rf hlv (Nat.le_refl _) (fun _ _ => rfl)
  cases hx : s_hx y with
  | nil =>
    have hcd : s_ws y = Cond.code (s_y y) (s_by y) (s_meta y).1 (s_rt y) :: s_U := by
      unfold s_ws s_cd
      rw [hx]
    refine s_ofW o1 hcd (fun p e s m args below meth c s₁ B hml htab hp => body p e s m args below meth c s₁ B hml ?_ hp)
    rw [hx]
    cases hq : c.exceptionTable.toList with
    | nil => rfl
    | cons a r => exact absurd (htab a (by rw [hq]; exact List.mem_cons_self)) id
  | cons a r =>
    have hcd : s_ws y = Cond.codeWith (s_y y) (s_by y) (s_meta y).1 (s_rt y) (a :: r) :: s_U := by
      unfold s_ws s_cd
      rw [hx]
    refine s_ofWH o1 hcd (fun p e s m args below meth c s₁ B hml hp => body p e s m args below meth c s₁ B hml ?_ hp)
    have hts := atoms_spec (ws := s_ws y) B.pre
    rw [hx]
    exact vx_table (x := s_y y) B (hts _ (by rw [hcd]; exact List.mem_cons_self))
theorem s_A_sub {A : Nat → Prop} {s : State} {α : Nat → Nat} {H : Heap} {locs : List Loc} (hA : ∀ q, s.heap.size ≤ q → A q) (hD : va_D A (s_h tc ρ α ξ h)) (hS : va_S A s.heap H locs) : ∀ q, va_A (s_h tc ρ α ξ h) H.size q → A q := by
  intro q hq
  rcases hq with ⟨k9, e, hk⟩ | hq
  · exact hD.2 k9 _ hk
  · exact hA q (Nat.le_trans hS.1 hq)
theorem s_hand_v {hx hh : List (Nat × Nat × Nat × Nat)} {is : List Nat} {own : String} {x hp : Nat} (hx6 : x < 6) (hok : s_hok own hx hh is = true) (hf : s_hand hh pc x = some hp) {p : Program} {e : Env} {R : Room} {s : State} {m : MethodId} {args : Array Value} {below : List Frame} {meth : Method} {cc : Code} {H : Heap} {locs : List Loc} {ls : Array Slot} {cs ss : Nat} {Q : State → Prop} {rest : List Value}
    (hown : s.vm.findClass own = some m.cls) (hts : ∀ w ∈ s_U, w.before args s = true) (hEv : s_EnvV D tc ξ s) {ce : Cell} {q : Addr} (hcell : H[q]? = some ce) (hv : ce.vm = .none) (hcl : s.vm.findClass (s_exc x) = some ce.cls)
    (kk : W p l e R s m args below meth cc H locs cs ss Q (F0 m hp ls [.ref q])) (pre : List ExceptionTableEntry) (hpre : ∀ z ∈ pre, covers z pc = false ∨ (z.catchType ≠ 0 ∧ ∃ nm : String, (Cond.classLink own z.catchType nm).before args s = true ∧ va_Nc (s_exc x) nm s)) (htab : cc.exceptionTable.toList = pre ++ tableOf hx) :
    vx_W p l e R s m args below meth cc H locs cs ss Q (F0 m pc ls rest) q := by
  induction hx generalizing hh is pre with
  | nil =>
    cases hh with
    | nil => cases hf
    | cons b r2 => unfold s_hok at hok; cases hok
  | cons a r ih =>
    cases hh with
    | nil => unfold s_hok at hok; cases hok
    | cons b r2 =>
      match is, hok with
      | [], hok => unfold s_hok at hok; cases hok
      | [_], hok => unfold s_hok at hok; cases hok
      | i :: j :: is, hok =>
        unfold s_hok at hok
        rw [Bool.and_eq_true, Bool.and_eq_true, Bool.and_eq_true, Bool.and_eq_true, Bool.and_eq_true, Bool.and_eq_true, Bool.and_eq_true, Nat.blt_eq, Nat.blt_eq] at hok
        obtain ⟨a1, a2, a3, a4, a5, a6, a7, a8⟩ := hok
        have a1 := Nat.eq_of_beq_eq_true a1
        have a2 := Nat.eq_of_beq_eq_true a2
        have a3 := Nat.eq_of_beq_eq_true a3
        have hlink := hts _ (s_gat_v a6)
        have htab2 : cc.exceptionTable.toList = pre ++ (⟨a.1, a.2.1, a.2.2.1, a.2.2.2⟩ : ExceptionTableEntry) :: tableOf r := htab
        unfold s_hand at hf
        split at hf
        · next hb =>
          rw [Bool.and_eq_true, Bool.and_eq_true, Nat.blt_eq] at hb
          obtain ⟨b1, b2, b3⟩ := hb
          have b1 := Nat.le_of_ble_eq_true b1
          have b3 := Nat.eq_of_beq_eq_true b3
          cases hf
          refine vx_catch (name := s_exc x) hown pre _ _ htab2 hpre ?_ (by show a.2.2.2 ≠ 0; omega) (by rw [← b3]; exact hlink) (va_Nw.use rfl (hEv.2.1 _ (by rw [← b3]; exact s_wat_v a7) rfl)) hcell hv hcl ?_
          · show covers _ pc = true
            simp only [covers]
            simp
            omega
          · rw [← a3] at kk
            exact kk
        · next hb =>
          refine ih a8 hf (pre ++ [(⟨a.1, a.2.1, a.2.2.1, a.2.2.2⟩ : ExceptionTableEntry)]) ?_ (by rw [htab2, List.append_assoc]; rfl)
          intro z hz
          rcases List.mem_append.mp hz with hz | hz
          · exact hpre z hz
          · cases List.mem_singleton.mp hz
            by_cases hc : covers (⟨a.1, a.2.1, a.2.2.1, a.2.2.2⟩ : ExceptionTableEntry) pc = true
            · refine Or.inr ⟨by show a.2.2.2 ≠ 0; omega, _, hlink, ?_⟩
              refine hEv.2.2.2.2.2 x b.2.2.2 hx6 a5 (fun e9 => ?_)
              apply Bool.eq_false_iff.mp hb
              simp only [covers] at hc
              simp at hc
              rw [Bool.and_eq_true, Bool.and_eq_true, Nat.blt_eq]
              exact ⟨Nat.ble_eq.mpr (by omega), by omega, by rw [e9]; exact Nat.beq_refl _⟩
            · exact Or.inl (Bool.eq_false_iff.mpr hc)
end S9
end
section
section S10
variable {l : Launch} {D : va_G} {tc : Nat → ClassId} {ξ : Nat → Nat} {xs : Nat → Int32} {ρ : Nat → Int} {f : sF}
variable {mi pc npc : Nat} {lo : sL} {st : List sV} {h : List sE} {iv : sI} {c n : Nat} {k : sZ → Bool}
theorem s_hx_ok {mi : Nat} (hm : mi < s_M) : s_hok (s_own mi) (s_hx mi) (s_meta mi).2.2.2.2.2 (s_hw mi) = true := by
  rcases Nat.eq_zero_or_pos mi with rfl | h0
  · decide +kernel
  · have hok := s_mok_ok hm h0
    unfold s_mok at hok
    rw [Bool.and_eq_true, Bool.and_eq_true, Bool.and_eq_true, Bool.and_eq_true, Bool.and_eq_true] at hok
    exact hok.2.2.2.2.1
theorem s_hok_nil {own : String} : ∀ {hx : List (Nat × Nat × Nat × Nat)} {is : List Nat}, s_hok own hx [] is = true → hx = []
  | [], _, _ => rfl
  | _ :: _, _, h => by cases h
/-- behind a call: both ways go on -/
theorem s_after (hih : s_All l D tc ξ xs ρ f) (hm : mi < s_M) {cy ny : Nat} {rest : List sV} (hrest : rest.all (s_okV h.length) = true) (hlo : lo.all (fun q => s_okV h.length q.2) = true) (hc : cy ≤ (s_meta mi).2.2.1) (hnn : ny ≤ (s_meta mi).2.2.2.1)
    {p : Program} {e : Env} {R : Room} {s : State} {m : MethodId} {args : Array Value} {below : List Frame} {meth : Method} {cc : Code} {A : Nat → Prop} {α α0 : Nat → Nat} {b0 : Nat} {H : Heap} {locs : List Loc} {ls : Array Slot}
    (X : s_Cx mi p l R s m args meth cc) (hin : s_in ρ iv) (hE : s_Env D tc ξ xs A s) (hA : ∀ q, s.heap.size ≤ q → A q) (hD : va_D A (s_h tc ρ α ξ h)) (hS : va_S A s.heap H locs) (hl : lv_has ls (s_meta mi).1 (s_ll ρ α ξ lo)) (hb0 : b0 ≤ h.length) (hag : s_ag α0 α b0)
    {a : Array Value} {st0 : List Value} {mc ms ln : Nat} (hcy : c + mc = cy) (hny : n + ms = ny)
    (hr : ∀ T : State, T.heap = H → Stand p l e R s m args below meth cc T locs c n →
      (∃ (v : Option Value) (st₀ t T' : State) (L : List Loc), st₀.heap = H ∧ Stand p l e R s m args below meth cc T' (locs ++ L) (c + mc) (n + ms) ∧ (∀ q ∈ L, va_A (s_h tc ρ α ξ h) H.size q.base) ∧ T'.heap = t.heap ∧ T'.vm = t.vm ∧ s_Qc D tc ξ ρ (s_back f s_P mi pc npc lo rest cy ny k) (va_A (s_h tc ρ α ξ h) H.size) α h.length a st₀ (.returned v) t ∧
        Goes p e below T (F0 m pc ls st0) T' { F0 m pc ls st0 with pc := (F0 m pc ls st0).pc + ln, stack := v.toList ++ rest.map (s_v ρ α ξ) }) ∨
      (∃ (q : Addr) (st₀ t T' : State) (L : List Loc) (E : String) (ce : Cell), st₀.heap = H ∧ Stand p l e R s m args below meth cc T' (locs ++ L) (c + mc) (n + ms) ∧ (∀ z ∈ L, va_A (s_h tc ρ α ξ h) H.size z.base) ∧ T'.heap = t.heap ∧ T'.vm = t.vm ∧ s_Xc D tc ξ ρ (s_back f s_P mi pc npc lo rest cy ny k) (va_A (s_h tc ρ α ξ h) H.size) α h.length E st₀ t ∧ t.heap[q]? = some ce ∧ ce.vm = .none ∧ s.vm.findClass E = some ce.cls ∧
        Steps p.tables e below (T.setTop (F0 m pc ls st0)) ((T'.setTop { F0 m pc ls st0 with stack := rest.map (s_v ρ α ξ) }).pushFrame (.throwing q))))
    (hnpc : npc = pc + ln) :
    W p l e R s m args below meth cc H locs c n (vx_MQ below (s_Qc D tc ξ ρ k A α0 b0) (s_Xc D tc ξ ρ k A α0 b0) args s (s_meta mi).2.2.1 (s_meta mi).2.2.2.1 A) (F0 m pc ls st0) := by
  have hAB := s_A_sub hA hD hS
  subst hcy
  subst hny
  intro T hT X9
  rcases hr T hT X9 with ⟨v, st₀, t, T', L, h0, X', hL, e1, e2, ⟨⟨z, α', z1, z2, z3, z4, z5, z6, z7⟩, hF⟩, st9⟩ | ⟨q, st₀, t, T', L, E, ce, h0, X', hL, e1, e2, ⟨⟨z, α', x, z1, z2, z3, z4, z5, zE, z6, z7⟩, hF⟩, hce, hcv, hcl, st9⟩
  · obtain ⟨k1, k2, k3⟩ := vx_keep h0 e1 hS (fun q _ => hAB q) hAB hL hF
    have hP' : va_P D vwCl (s_h tc ρ α' ξ z.2.2.1) T'.heap := by rw [e1]; exact z6
    have hD' : va_D A (s_h tc ρ α' ξ z.2.2.1) := z7.weaken fun _ _ _ q9 => hAB _ q9
    have hag' : s_ag α0 α' b0 := fun j hj => by rw [z3 j (by omega)]; exact hag j hj
    have hl' : lv_has ls (s_meta mi).1 (s_ll ρ α' ξ lo) := by rw [s_ll_v z3 hlo]; exact hl
    have hst := s_st_v (ρ := ρ) (ξ := ξ) z3 hrest
    obtain ⟨zk, zv, zh, zi⟩ := z
    dsimp only at z1 z2 z4 z5 hP' hD'
    rcases z5 with ⟨rfl, hv⟩ | ⟨rfl, hv⟩
    · cases hv
      have z1 : f mi npc lo rest zh zi (c + mc) (n + ms) k = true := z1
      obtain ⟨t2, a1, b1⟩ := hih mi npc lo rest zh zi _ _ k hm z1 X z2 hE hA hP' hD' k3 hl' (by omega) hag' T' rfl X'
      rw [hst, hnpc] at a1
      exact ⟨t2, st9 t2 a1, b1⟩
    · cases hv
      have z1 : f mi npc lo (zv :: rest) zh zi (c + mc) (n + ms) k = true := z1
      obtain ⟨t2, a1, b1⟩ := hih mi npc lo (zv :: rest) zh zi _ _ k hm z1 X z2 hE hA hP' hD' k3 hl' (by omega) hag' T' rfl X'
      rw [List.map_cons, hst, hnpc] at a1
      exact ⟨t2, st9 t2 a1, b1⟩
  · obtain ⟨k1, k2, k3⟩ := vx_keep h0 e1 hS (fun q _ => hAB q) hAB hL hF
    have hP' : va_P D vwCl (s_h tc ρ α' ξ z.2.2.1) T'.heap := by rw [e1]; exact z6
    have hD' : va_D A (s_h tc ρ α' ξ z.2.2.1) := z7.weaken fun _ _ _ q9 => hAB _ q9
    have hag' : s_ag α0 α' b0 := fun j hj => by rw [z3 j (by omega)]; exact hag j hj
    obtain ⟨zk, zv, zh, zi⟩ := z
    dsimp only at z1 z2 z4 z5 hP' hD'
    subst z5
    subst zE
    have hce' : T'.heap[q]? = some ce := by rw [e1]; exact hce
    have z1 : (match (s_P.2.1 mi).2.2.2.2.2 with
      | [] => k (x + 2, (2, 0, 0), zh, zi)
      | hh => match s_hand hh pc x with
        | some hp => Nat.blt x 6 && s_ok lo [] zh && (Nat.ble zh.length 1000000 && f mi hp lo [(3, 0, 1000000)] zh zi (c + mc) (n + ms) k)
        | none => false) = true := z1
    have hok := s_hx_ok hm
    split at z1
    · next hn9 =>
      have hn9 : (s_meta mi).2.2.2.2.2 = [] := hn9
      rw [hn9] at hok
      have hx0 := s_hok_nil hok
      have key := vx_out (Qc := s_Qc D tc ξ ρ k A α0 b0) (XC := s_Xc D tc ξ ρ k A α0 b0) (free := A) (mc := (s_meta mi).2.2.1) (ms := (s_meta mi).2.2.2.1) (below := below) (p := p) (l := l) (e := e) (R := R) (s := s) (m := m) (args := args) (meth := meth) (c := cc) (H := T'.heap) (locs := locs ++ L) (cells := c + mc) (slots := n + ms) (pc := pc) (ls := ls) (rest := rest.map (s_v ρ α ξ)) (E := s_exc x) (ce := ce) (q := q) (by rw [X.2.2.2.2.2.2.2.1, hx0]; exact fun z hz => absurd hz (by simp [tableOf])) X.2.2.2.2.1 hce' hcv hcl (fun t9 ht9 _ => ⟨⟨_, α', x, z1, z2, hag', Nat.le_trans hb0 z4, rfl, rfl, by rw [ht9]; exact hP', hD'⟩, k3.F ht9⟩) k3.2.2 hc hnn
      obtain ⟨t2, a1, b1⟩ := key T' rfl X'
      exact ⟨t2, st9.trans a1, b1⟩
    · split at z1
      · next hp hp9 =>
        rw [Bool.and_eq_true, Bool.and_eq_true, Bool.and_eq_true] at z1
        obtain ⟨⟨q6, q0⟩, q1, q2⟩ := z1
        rw [Nat.blt_eq] at q6
        have q1 := Nat.le_of_ble_eq_true q1
        unfold s_ok at q0
        rw [Bool.and_eq_true, Bool.and_eq_true] at q0
        obtain ⟨o1, -, o3⟩ := q0
        have ha : s_ag α' (va_up α' 1000000 q) zh.length := fun j hj => va_up_ne α' q (by omega)
        have hh1 := s_h_v (tc := tc) (ρ := ρ) (ξ := ξ) ha o3
        have kk := hih mi hp lo [(3, 0, 1000000)] zh zi _ _ k hm q2 X z2 hE hA (by rw [hh1]; exact hP') (by rw [hh1]; exact hD') k3 (α := va_up α' 1000000 q) (ls := ls) (e := e) (below := below) (α0 := α0) (b0 := b0) (by rw [s_ll_v ha o1, s_ll_v z3 hlo]; exact hl) (by omega) (fun j hj => by rw [va_up_ne α' q (by omega)]; exact hag' j hj)
        have e9 : ([(3, 0, 1000000)] : List sV).map (s_v ρ (va_up α' 1000000 q) ξ) = [.ref q] := by
          show [Value.ref (va_up α' 1000000 q 1000000)] = _
          rw [va_up_self]
        rw [e9] at kk
        have key := s_hand_v (rest := rest.map (s_v ρ α ξ)) q6 hok hp9 X.2.2.2.2.2.1 X.2.2.2.2.2.2.1 hE.1 hce' hcv hcl kk [] (fun z hz => absurd hz List.not_mem_nil) (by rw [X.2.2.2.2.2.2.2.1]; rfl)
        obtain ⟨t2, a1, b1⟩ := key T' rfl X'
        exact ⟨t2, st9.trans a1, b1⟩
      · cases z1
end S10
end
section
section S11
variable {l : Launch} {D : va_G} {tc : Nat → ClassId} {ξ : Nat → Nat} {xs : Nat → Int32} {ρ : Nat → Int} {f : sF}
variable {mi pc npc : Nat} {lo : sL} {st : List sV} {h : List sE} {iv : sI} {c n : Nat} {k : sZ → Bool}
theorem s_call_x {y na ci : Nat} (hh : s_call f s_P mi pc npc lo st h iv c n k y na ci = true) :
    na ≤ st.length ∧ (lo.all (fun q => s_okV h.length q.2) = true ∧ st.all (s_okV h.length) = true) ∧ s_words (st.drop na) ≤ 8 ∧ s_rcv h (st.take na) ci = true ∧ s_words (st.take na) ≤ (s_meta y).1 ∧ (s_meta y).2.1 + 1 ≤ (s_meta mi).2.1 ∧ 8 + ((s_meta y).1 + 11) + (s_meta y).2.2.2.2.1 ≤ (s_meta mi).2.2.2.2.1 ∧
    c + (s_meta y).2.2.1 ≤ (s_meta mi).2.2.1 ∧ n + (s_meta y).2.2.2.1 ≤ (s_meta mi).2.2.2.1 ∧ f y 0 (s_args 0 (st.take na).reverse) [] h iv 0 0 (s_back f s_P mi pc npc lo (st.drop na) (c + (s_meta y).2.2.1) (n + (s_meta y).2.2.2.1) k) = true := by
  unfold s_call at hh
  simp only [Bool.and_eq_true] at hh
  obtain ⟨a1, a2, a3, a4, a5, a6, a7, a8, a9, a10⟩ := hh
  unfold s_ok at a2
  simp only [Bool.and_eq_true] at a2
  exact ⟨Nat.le_of_ble_eq_true a1, ⟨a2.1, a2.2.1⟩, Nat.le_of_ble_eq_true a3, a4, Nat.le_of_ble_eq_true a5, Nat.le_of_ble_eq_true a6, Nat.le_of_ble_eq_true a7, Nat.le_of_ble_eq_true a8, Nat.le_of_ble_eq_true a9, a10⟩
theorem s_stk (α : Nat → Nat) (na : Nat) : st.map (s_v ρ α ξ) = (((st.take na).reverse).map (s_v ρ α ξ)).reverse ++ (st.drop na).map (s_v ρ α ξ) := by
  rw [← List.map_reverse, List.reverse_reverse, ← List.map_append, List.take_append_drop]
theorem s_cd_in {y : Nat} (hy : y < s_M) (h0 : 0 < y) : s_cd y ∈ s_U := by
  have hok := s_mok_ok hy h0
  unfold s_mok at hok
  rw [Bool.and_eq_true, Bool.and_eq_true] at hok
  exact s_U_in (s_wat_v hok.1) hok.2.1
theorem s_good {y : Nat} (hy : y < s_M) (h0 : 0 < y) {pre : List Cond} (hp : ∀ w ∈ pre, w ∈ s_U) : GoodIn s_U (pre ++ s_ws y) := by
  intro w hw
  have hm : w ∈ s_U := by
    rcases List.mem_append.mp hw with q | q
    · exact hp w q
    · rcases List.mem_cons.mp q with rfl | q
      · exact s_cd_in hy h0
      · exact q
  exact ⟨hm, good_of_word (List.mem_filter.mp hm).2⟩
theorem s_ws_nil {y : Nat} (hx : s_emp (s_hx y) = true) : s_ws y = Cond.code (s_y y) (s_by y) (s_meta y).1 (s_rt y) :: s_U := by
  unfold s_ws s_cd
  cases hq : s_hx y with
  | nil => rfl
  | cons a r => rw [hq] at hx; cases hx
/-- a call, given that it runs by its contract -/
theorem s_call_W (hls : l.stackTraces = false) (hih : s_All l D tc ξ xs ρ f) (hm : mi < s_M) {y na ci : Nat} (hy : y < s_M) (h0 : 0 < y) (hh : s_call f s_P mi pc npc lo st h iv c n k y na ci = true)
    {p : Program} {e : Env} {R : Room} {s : State} {m : MethodId} {args : Array Value} {below : List Frame} {meth : Method} {cc : Code} {A : Nat → Prop} {α α0 : Nat → Nat} {b0 : Nat} {H : Heap} {locs : List Loc} {ls : Array Slot}
    (X : s_Cx mi p l R s m args meth cc) (hin : s_in ρ iv) (hE : s_Env D tc ξ xs A s) (hA : ∀ q, s.heap.size ≤ q → A q) (hP : va_P D vwCl (s_h tc ρ α ξ h) H) (hD : va_D A (s_h tc ρ α ξ h)) (hS : va_S A s.heap H locs) (hl : lv_has ls (s_meta mi).1 (s_ll ρ α ξ lo)) (hb0 : b0 ≤ h.length) (hag : s_ag α0 α b0)
    {ln : Nat} (hnpc : npc = pc + ln) {a : Array Value}
    (hr : ∀ {Qc : Array Value → State → Outcome → State → Prop} {XC : String → State → State → Prop}, vx_Met l (s_y y) (s_ws y) (s_rm y) (s_Pc D tc ξ xs ρ α h (st.take na).reverse H.size) Qc XC (s_meta y).2.2.1 (s_meta y).2.2.2.1 (va_A (s_h tc ρ α ξ h) H.size) → (∀ U : State, U.heap = H → s.WarmedH U.vm → s_Pc D tc ξ xs ρ α h (st.take na).reverse H.size (((st.take na).reverse).map (s_v ρ α ξ)).toArray U) → c + (s_meta y).2.2.1 ≤ R.cells ∧ n + (s_meta y).2.2.2.1 ≤ R.slots → (s_meta y).2.1 + 1 ≤ R.frames ∧ 8 + ((s_meta y).1 + 11) + (s_meta y).2.2.2.2.1 ≤ R.locals → 2 * (F0 m pc ls (st.map (s_v ρ α ξ))).monitorRoom + (((st.drop na).map (s_v ρ α ξ)).map fun v => v.category).sum ≤ 8 →
      ∀ T : State, T.heap = H → Stand p l e R s m args below meth cc T locs c n →
        (∃ (v : Option Value) (st₀ t T' : State) (L : List Loc), st₀.heap = H ∧ Stand p l e R s m args below meth cc T' (locs ++ L) (c + (s_meta y).2.2.1) (n + (s_meta y).2.2.2.1) ∧ (∀ q ∈ L, va_A (s_h tc ρ α ξ h) H.size q.base) ∧ T'.heap = t.heap ∧ T'.vm = t.vm ∧ Qc a st₀ (.returned v) t ∧
          Goes p e below T (F0 m pc ls (st.map (s_v ρ α ξ))) T' { F0 m pc ls (st.map (s_v ρ α ξ)) with pc := (F0 m pc ls (st.map (s_v ρ α ξ))).pc + ln, stack := v.toList ++ (st.drop na).map (s_v ρ α ξ) }) ∨
        (∃ (q : Addr) (st₀ t T' : State) (L : List Loc) (E : String) (ce : Cell), st₀.heap = H ∧ Stand p l e R s m args below meth cc T' (locs ++ L) (c + (s_meta y).2.2.1) (n + (s_meta y).2.2.2.1) ∧ (∀ z ∈ L, va_A (s_h tc ρ α ξ h) H.size z.base) ∧ T'.heap = t.heap ∧ T'.vm = t.vm ∧ XC E st₀ t ∧ t.heap[q]? = some ce ∧ ce.vm = .none ∧ s.vm.findClass E = some ce.cls ∧
          Steps p.tables e below (T.setTop (F0 m pc ls (st.map (s_v ρ α ξ)))) ((T'.setTop { F0 m pc ls (st.map (s_v ρ α ξ)) with stack := (st.drop na).map (s_v ρ α ξ) }).pushFrame (.throwing q)))) :
    W p l e R s m args below meth cc H locs c n (vx_MQ below (s_Qc D tc ξ ρ k A α0 b0) (s_Xc D tc ξ ρ k A α0 b0) args s (s_meta mi).2.2.1 (s_meta mi).2.2.2.1 A) (F0 m pc ls (st.map (s_v ρ α ξ))) := by
  obtain ⟨a1, ⟨a2, a2'⟩, a3, a4, a5, a6, a7, a8, a9, a10⟩ := s_call_x hh
  have hM := s_met hls hy h0 hin (by rw [s_words_rev]; exact a5) (hih y 0 _ [] h iv 0 0 _ hy a10) α H.size
  have hPc : ∀ U : State, U.heap = H → s.WarmedH U.vm → s_Pc D tc ξ xs ρ α h (st.take na).reverse H.size (((st.take na).reverse).map (s_v ρ α ξ)).toArray U := fun U hU hW =>
    ⟨rfl, by rw [hU], by rw [hU]; exact hP, hD.weaken (fun _ _ _ _ => trivial), hE.go hW (by rw [hU]; exact hS.1) (fun q hq hn => by rw [hU]; exact hS.2.1 q hq hn) (s_A_sub hA hD hS)⟩
  have hrest : (st.drop na).all (s_okV h.length) = true := List.all_eq_true.mpr fun q hq => List.all_eq_true.mp a2' q (List.mem_of_mem_drop hq)
  have hRf := X.2.2.2.2.2.2.2.2.2.2.1
  have hRc := X.2.2.2.2.2.2.2.2.2.2.2.1
  have hRs := X.2.2.2.2.2.2.2.2.2.2.2.2.1
  have hRl := X.2.2.2.2.2.2.2.2.2.2.2.2.2
  exact s_after hih hm hrest a2 a8 a9 X hin hE hA hD hS hl hb0 hag rfl rfl (hr hM hPc ⟨Nat.le_trans a8 hRc, Nat.le_trans a9 hRs⟩ ⟨by omega, by omega⟩ (lv_room (by rw [s_words_v]; exact a3))) hnpc
theorem s_inst {as : List sV} {ci : Nat} {α : Nat → Nat} (hrc : s_rcv h as ci = true) (hci : ci ≠ 0) : ∃ (ys : List sV) (x : sV), as = ys ++ [x] ∧ (∃ b, s_v ρ α ξ x = .ref b) ∧ (x.1 = 3 ∨ x.1 = 4 ∧ x.2.2 = 2 ∧ ci = 1001) ∧ ∀ cj, ci = cj + 1 → ci ≠ 1000 → ci ≠ 1001 → ∃ fs, s_obj h x cj = some fs := by
  unfold s_rcv at hrc
  split at hrc
  · next x hx =>
    obtain ⟨ys, hys⟩ := List.getLast?_eq_some_iff.mp hx
    refine ⟨ys, x, hys, ?_⟩
    split at hrc
    · exact absurd rfl hci
    · have := s_tag_iff.mp hrc
      exact ⟨⟨_, s_v3 this⟩, Or.inl this, fun _ _ q => absurd rfl q⟩
    · rw [Bool.and_eq_true] at hrc
      have := s_tag_iff.mp hrc.1
      exact ⟨⟨_, s_v4 this⟩, Or.inr ⟨this, Nat.eq_of_beq_eq_true hrc.2, rfl⟩, fun _ _ _ q => absurd rfl q⟩
    · split at hrc
      · next fs hfs =>
        have := (s_obj_v hfs).1
        exact ⟨⟨_, s_v3 this⟩, Or.inl this, fun cj hcj _ _ => ⟨fs, by cases hcj; exact hfs⟩⟩
      · cases hrc
  · exact absurd (Nat.eq_of_beq_eq_true hrc) hci
theorem s_np_v {y : MethodName} {q : Nat} (h : s_np y q = true) : (parseMethodDescriptor y.desc).map (fun d => d.parameters.length) = some q := of_decide_eq_true h
end S11
end
section
section S12k
variable {mi ix : Nat} {info : List Nat}
theorem s_cp_1 (hk : s_nth info 0 = 1) : s_cpre mi ix info = [.methodLink (s_own mi) ix (s_y (s_nth info 1)), .static (s_y (s_nth info 1)), .initialized (s_y (s_nth info 1)).cls] := by
  unfold s_cpre
  rw [hk]
  rfl
theorem s_ck_1 (hk : s_nth info 0 = 1) (hw : s_clk mi ix info = true) : (s_pre (s_cpre mi ix info) (info.drop 5) && ((Nat.blt 0 (s_nth info 1) && Nat.blt (s_nth info 1) s_M) && (s_mh (s_y (s_nth info 1)).cls && (s_np (s_y (s_nth info 1)) (s_nth info 2))))) = true := by
  unfold s_clk at hw
  rw [hk] at hw
  exact hw
theorem s_cp_2 (hk : s_nth info 0 = 2) : s_cpre mi ix info = [.methodLink (s_own mi) ix (s_y (s_nth info 1)), .instanceMethod (s_y (s_nth info 1)), .initialized (s_y (s_nth info 1)).cls] := by
  unfold s_cpre
  rw [hk]
  rfl
theorem s_ck_2 (hk : s_nth info 0 = 2) (hw : s_clk mi ix info = true) : (s_pre (s_cpre mi ix info) (info.drop 5) && ((Nat.blt 0 (s_nth info 1) && Nat.blt (s_nth info 1) s_M) && (s_mh (s_y (s_nth info 1)).cls && (s_np (s_y (s_nth info 1)) (s_nth info 2 - 1) && (Nat.blt 0 (s_nth info 2) && (decide ((s_y (s_nth info 1)).name = "<init>" ∧ s_rt (s_nth info 1) = none) && (s_emp (s_hx (s_nth info 1)) && Nat.beq (s_nth info 3) 1000))))))) = true := by
  unfold s_clk at hw
  rw [hk] at hw
  exact hw
theorem s_cp_5 (hk : s_nth info 0 = 5) : s_cpre mi ix info = [.methodLink (s_own mi) ix (s_y (s_nth info 1)), .sameMethod (s_y (s_nth info 1)).cls (s_y (s_nth info 1)).cls (s_y (s_nth info 1)).name (s_y (s_nth info 1)).desc, .superclass (s_own mi) (s_y (s_nth info 1)).cls, .instanceMethod (s_y (s_nth info 1)), .initialized (s_y (s_nth info 1)).cls] := by
  unfold s_cpre
  rw [hk]
  rfl
theorem s_ck_5 (hk : s_nth info 0 = 5) (hw : s_clk mi ix info = true) : (s_pre (s_cpre mi ix info) (info.drop 5) && ((Nat.blt 0 (s_nth info 1) && Nat.blt (s_nth info 1) s_M) && (s_mh (s_y (s_nth info 1)).cls && (s_np (s_y (s_nth info 1)) (s_nth info 2 - 1) && (Nat.blt 0 (s_nth info 2) && (decide ((s_y (s_nth info 1)).name ≠ "<init>") && (s_emp (s_hx (s_nth info 1)) && (s_rci (s_nth info 3) && Nat.blt (s_nth info 3) 1000)))))))) = true := by
  unfold s_clk at hw
  rw [hk] at hw
  exact hw
theorem s_cp_12 (hk : s_nth info 0 = 12) : s_cpre mi ix info = [.instanceMethod (s_y (s_nth info 1)), .initialized (s_y (s_nth info 1)).cls] := by
  unfold s_cpre
  rw [hk]
  rfl
theorem s_ck_12 (hk : s_nth info 0 = 12) (hw : s_clk mi ix info = true) : (s_pre (s_cpre mi ix info) (info.drop 5) && ((Nat.blt 0 (s_nth info 1) && Nat.blt (s_nth info 1) s_M) && (s_mh (s_y (s_nth info 1)).cls && (s_np (s_y (s_nth info 1)) (s_nth info 2 - 1) && (Nat.blt 0 (s_nth info 2) && (decide ((s_y (s_nth info 1)).name = "<init>" ∧ s_rt (s_nth info 1) = none) && (s_emp (s_hx (s_nth info 1)) && Nat.beq (s_nth info 3) 1000 && s_wat ((info.drop 5).getLast?.getD 0) (.methodLinkNest (s_own mi) ix (s_y (s_nth info 1)) (s_host (s_nth info 4)))))))))) = true := by
  unfold s_clk at hw
  rw [hk] at hw
  exact hw
theorem s_cp_3 (hk : s_nth info 0 = 3) : s_cpre mi ix info = [.methodLink (s_own mi) ix (s_y (s_nth info 1)), .instanceMethod (s_y (s_nth info 1)), .selects (s_cln (s_nth info 3)) (s_y (s_nth info 1)) (s_y (s_nth info 1)), .initialized (s_cln (s_nth info 3))] := by
  unfold s_cpre
  rw [hk]
  rfl
theorem s_ck_3 (hk : s_nth info 0 = 3) (hw : s_clk mi ix info = true) : (s_pre (s_cpre mi ix info) (info.drop 5) && ((Nat.blt 0 (s_nth info 1) && Nat.blt (s_nth info 1) s_M) && (s_mh (s_y (s_nth info 1)).cls && (s_np (s_y (s_nth info 1)) (s_nth info 2 - 1) && (Nat.blt 0 (s_nth info 2) && (decide ((s_y (s_nth info 1)).cls = s_cln (s_nth info 3)) && (s_emp (s_hx (s_nth info 1)) && s_rci (s_nth info 3)))))))) = true := by
  unfold s_clk at hw
  rw [hk] at hw
  exact hw
theorem s_cp_6 (hk : s_nth info 0 = 6) : s_cpre mi ix info = [.methodLink (s_own mi) ix (s_y (s_nth info 1)), .sameMethod (s_y (s_nth info 1)).cls (s_y (s_nth info 1)).cls (s_y (s_nth info 1)).name (s_y (s_nth info 1)).desc, .selects (s_cln (s_nth info 3)) (s_y (s_nth info 1)) (s_y (s_nth info 1)), .instanceMethod (s_y (s_nth info 1)), .initialized (s_y (s_nth info 1)).cls] := by
  unfold s_cpre
  rw [hk]
  rfl
theorem s_ck_6 (hk : s_nth info 0 = 6) (hw : s_clk mi ix info = true) : (s_pre (s_cpre mi ix info) (info.drop 5) && ((Nat.blt 0 (s_nth info 1) && Nat.blt (s_nth info 1) s_M) && (s_mh (s_y (s_nth info 1)).cls && (s_np (s_y (s_nth info 1)) (s_nth info 2 - 1) && (Nat.blt 0 (s_nth info 2) && (s_emp (s_hx (s_nth info 1)) && s_rci (s_nth info 3))))))) = true := by
  unfold s_clk at hw
  rw [hk] at hw
  exact hw
theorem s_cp_13 (hk : s_nth info 0 = 13) : s_cpre mi ix info = [.instanceMethod (s_y (s_nth info 1)), .selects (s_cln (s_nth info 3)) (s_y (s_nth info 1)) (s_y (s_nth info 1)), .initialized (s_y (s_nth info 1)).cls] := by
  unfold s_cpre
  rw [hk]
  rfl
theorem s_ck_13 (hk : s_nth info 0 = 13) (hw : s_clk mi ix info = true) : (s_pre (s_cpre mi ix info) (info.drop 5) && ((Nat.blt 0 (s_nth info 1) && Nat.blt (s_nth info 1) s_M) && (s_mh (s_y (s_nth info 1)).cls && (s_np (s_y (s_nth info 1)) (s_nth info 2 - 1) && (Nat.blt 0 (s_nth info 2) && (s_emp (s_hx (s_nth info 1)) && (s_rci (s_nth info 3) && s_wat ((info.drop 5).getLast?.getD 0) (.methodLinkNest (s_own mi) ix (s_y (s_nth info 1)) (s_host (s_nth info 4)))))))))) = true := by
  unfold s_clk at hw
  rw [hk] at hw
  exact hw
theorem s_cp_4 (hk : s_nth info 0 = 4) : s_cpre mi ix info = [.methodLink (s_own mi) ix s_iX, .selects "java/util/ArrayList$Itr" s_iX s_iY, .instanceMethod s_iY, .initialized s_iY.cls] := by
  unfold s_cpre
  rw [hk]
  rfl
theorem s_ck_4 (hk : s_nth info 0 = 4) (hw : s_clk mi ix info = true) : (s_pre (s_cpre mi ix info) (info.drop 5) && ((Nat.blt 0 (s_nth info 1) && Nat.blt (s_nth info 1) s_M) && (s_mh (s_y (s_nth info 1)).cls && (decide (s_y (s_nth info 1) = s_iY ∧ s_cln (s_nth info 3) = "java/util/ArrayList$Itr") && (Nat.beq (s_nth info 2) 1 && (s_emp (s_hx (s_nth info 1)) && s_rci (s_nth info 3))))))) = true := by
  unfold s_clk at hw
  rw [hk] at hw
  exact hw
end S12k
section S12
variable {l : Launch} {D : va_G} {tc : Nat → ClassId} {ξ : Nat → Nat} {xs : Nat → Int32} {ρ : Nat → Int} {f : sF}
variable {mi pc npc : Nat} {lo : sL} {st : List sV} {h : List sE} {iv : sI} {c n : Nat} {k : sZ → Bool}
theorem s_recv {as ys : List sV} {x : sV} {ci b : Nat} {α : Nat → Nat} {A : Nat → Prop} {s : State} {H : Heap} {locs : List Loc} (hE : s_Env D tc ξ xs A s) (hP : va_P D vwCl (s_h tc ρ α ξ h) H) (hS : va_S A s.heap H locs) (hr : s_rcv h as ci = true) (hys : as = ys ++ [x]) (hb : s_v ρ α ξ x = .ref b) (hx3 : x.1 = 3 ∨ x.1 = 4 ∧ x.2.2 = 2 ∧ ci = 1001) (hobj : ∀ cj, ci = cj + 1 → ci ≠ 1000 → ci ≠ 1001 → ∃ fs, s_obj h x cj = some fs) (hci : ci ≠ 0) (hc0 : ci ≠ 1000) :
    (∃ cellB : Cell, H[b]? = some cellB ∧ cellB.vm.isStatics = false ∧ s.vm.findClass (s_cln ci) = some cellB.cls) ∧ (ci ≠ 1001 → ∃ cC, ClassAt s (s_cln ci) cC) := by
  rcases hx3 with hx3 | ⟨hx4, hx5, hx6⟩
  · rw [s_v3 hx3] at hb
    cases hb
    obtain ⟨cj, hcj⟩ : ∃ cj, ci = cj + 1 := ⟨ci - 1, by omega⟩
    by_cases h1 : ci = 1001
    · exfalso
      unfold s_rcv at hr
      rw [hys, List.getLast?_concat, h1] at hr
      have hr : (s_tag 4 x && Nat.beq x.2.2 2) = true := hr
      rw [Bool.and_eq_true] at hr
      have := s_tag_iff.mp hr.1
      omega
    · obtain ⟨fs, hfs⟩ := hobj cj hcj hc0 h1
      obtain ⟨-, z, hz⟩ := s_obj_v hfs
      have hg := s_h_get (tc := tc) (ρ := ρ) (α := α) (ξ := ξ) hz
      obtain ⟨r9, hr9, -⟩ := hP _ _ hg
      have hr9 : vwCl[cj]? = some r9 := hr9
      have := va_recv hE.1.1 hP hr9 hg
      have e9 : s_cln ci = r9.1 := by
        rw [hcj]
        unfold s_cln
        rw [hcj] at h1
        split
        · next q => omega
        · next q => exact absurd q h1
        · next q => cases q; rw [hr9]
      rw [e9]
      exact ⟨this, fun _ => ⟨_, (hE.1.1.1 cj r9 hr9).2⟩⟩
  · rw [s_v4 hx4, hx5] at hb
    cases hb
    obtain ⟨cell, q1, q2, q3, -⟩ := (hE.2.1.2.2.2.2.2.1).kept hS.2.1
    rw [hx6]
    exact ⟨⟨cell, q1, q2, q3⟩, fun q => absurd rfl q⟩
theorem v_callI (hls : l.stackTraces = false) (hih : s_All l D tc ξ xs ρ f) (hm : mi < s_M) {ix : Nat} {info : List Nat} (hk : s_nth info 0 = 2) (hw : s_clk mi ix info = true) (hd : decode (s_by mi) pc = .ok (.invokespecial ix, 3)) (hn : npc = pc + 3) (hh : s_call f s_P mi pc npc lo st h iv c n k (s_nth info 1) (s_nth info 2) (s_nth info 3) = true) : s_Snd l D tc ξ xs ρ mi pc lo st h iv c n k := by
  have hclk := s_ck_2 hk hw
  rw [Bool.and_eq_true, Bool.and_eq_true, Bool.and_eq_true, Bool.and_eq_true] at hclk
  obtain ⟨c1, c2, c3, c4⟩ := hclk
  have g1 := s_pre_v c1
  rw [s_cp_2 hk] at g1
  rw [Nat.blt_eq, Nat.blt_eq] at c2
  obtain ⟨h0, c2⟩ := c2
  have c3 := of_decide_eq_true c3
  rw [Bool.and_eq_true, Bool.and_eq_true, Bool.and_eq_true, Bool.and_eq_true] at c4
  obtain ⟨d1, d2, d3, d4, d5⟩ := c4
  have d3 := of_decide_eq_true d3
  rw [Nat.blt_eq] at d2
  have hci : s_nth info 3 ≠ 0 := by have := Nat.eq_of_beq_eq_true d5; omega
  intro p e R s m args below meth cc A α α0 b0 H locs ls X hin hE hA hP hD hS hl hb0 hag
  have hx9 := s_call_x hh
  obtain ⟨ys, x, hys, ⟨b, hb⟩, hx3, hobj⟩ := s_inst (ρ := ρ) (ξ := ξ) (α := α) hx9.2.2.2.1 hci
  have hlen : ys.length + 1 = s_nth info 2 := by
    have := congrArg List.length hys
    rw [List.length_take, List.length_append, Nat.min_eq_left hx9.1] at this
    exact this.symm
  have hst : st.map (s_v ρ α ξ) = ((ys.reverse.map (s_v ρ α ξ)).reverse) ++ .ref b :: (st.drop (s_nth info 2)).map (s_v ρ α ξ) := by
    rw [s_stk (ρ := ρ) (ξ := ξ) α (s_nth info 2), hys, List.reverse_append, List.reverse_singleton, List.singleton_append, List.map_cons, hb, List.reverse_cons, List.append_assoc]
    rfl
  have has : ((st.take (s_nth info 2)).reverse).map (s_v ρ α ξ) = .ref b :: ys.reverse.map (s_v ρ α ξ) := by
    rw [hys, List.reverse_append, List.reverse_singleton, List.singleton_append, List.map_cons, hb]
  have hts := X.2.2.2.2.2.2.1
  have hfix : CallFix p m cc (s_by mi) (s_meta mi).1 s args s_U (s_own mi) := ⟨X.1, X.2.1, X.2.2.1, X.2.2.2.2.2.1, hts⟩
  refine s_call_W hls hih hm c2 h0 hh X hin hE hA hP hD hS hl hb0 hag hn (a := (Value.ref b :: ys.reverse.map (s_v ρ α ξ)).toArray) (fun {Qc XC} hM hPc hf hR hW => ?_)
  rw [has] at hPc
  exact vx_runI (S := hfix) (hM := hM) (As := ys.reverse.map (s_v ρ α ξ)) (cw := cwI (s_nth info 2 - 1) hts (s_good (pre := []) c2 h0 (fun _ q => absurd q List.not_mem_nil)) (by rw [s_ws_nil d4, d3.2]) rfl rfl (hts _ (g1 _ (by simp))) (hts _ (g1 _ (by simp))) (hts _ (g1 _ (by simp))) d3.1 ⟨c3.1, c3.2, (s_np_v d1)⟩ hR) (hp := ⟨s_Pc_blind, hPc⟩) (hg := rfl) (hn := by rw [List.length_map, List.length_reverse]; omega) (hsize := hl.1) (hstack := hst) (hW := hW) (hdg := hd) (hf := hf)
theorem v_callIN (hls : l.stackTraces = false) (hih : s_All l D tc ξ xs ρ f) (hm : mi < s_M) {ix : Nat} {info : List Nat} (hk : s_nth info 0 = 12) (hw : s_clk mi ix info = true) (hd : decode (s_by mi) pc = .ok (.invokespecial ix, 3)) (hn : npc = pc + 3) (hh : s_call f s_P mi pc npc lo st h iv c n k (s_nth info 1) (s_nth info 2) (s_nth info 3) = true) : s_Snd l D tc ξ xs ρ mi pc lo st h iv c n k := by
  have hclk := s_ck_12 hk hw
  rw [Bool.and_eq_true, Bool.and_eq_true, Bool.and_eq_true, Bool.and_eq_true] at hclk
  obtain ⟨c1, c2, c3, c4⟩ := hclk
  have g1 := s_pre_v c1
  rw [s_cp_12 hk] at g1
  rw [Nat.blt_eq, Nat.blt_eq] at c2
  obtain ⟨h0, c2⟩ := c2
  have c3 := of_decide_eq_true c3
  rw [Bool.and_eq_true, Bool.and_eq_true, Bool.and_eq_true, Bool.and_eq_true, Bool.and_eq_true] at c4
  obtain ⟨d1, d2, d3, ⟨d4, d5⟩, d6⟩ := c4
  have d3 := of_decide_eq_true d3
  rw [Nat.blt_eq] at d2
  have hci : s_nth info 3 ≠ 0 := by have := Nat.eq_of_beq_eq_true d5; omega
  intro p e R s m args below meth cc A α α0 b0 H locs ls X hin hE hA hP hD hS hl hb0 hag
  have hx9 := s_call_x hh
  obtain ⟨ys, x, hys, ⟨b, hb⟩, hx3, hobj⟩ := s_inst (ρ := ρ) (ξ := ξ) (α := α) hx9.2.2.2.1 hci
  have hlen : ys.length + 1 = s_nth info 2 := by
    have := congrArg List.length hys
    rw [List.length_take, List.length_append, Nat.min_eq_left hx9.1] at this
    exact this.symm
  have hst : st.map (s_v ρ α ξ) = ((ys.reverse.map (s_v ρ α ξ)).reverse) ++ .ref b :: (st.drop (s_nth info 2)).map (s_v ρ α ξ) := by
    rw [s_stk (ρ := ρ) (ξ := ξ) α (s_nth info 2), hys, List.reverse_append, List.reverse_singleton, List.singleton_append, List.map_cons, hb, List.reverse_cons, List.append_assoc]
    rfl
  have has : ((st.take (s_nth info 2)).reverse).map (s_v ρ α ξ) = .ref b :: ys.reverse.map (s_v ρ α ξ) := by
    rw [hys, List.reverse_append, List.reverse_singleton, List.singleton_append, List.map_cons, hb]
  have hts := X.2.2.2.2.2.2.1
  have hfix : CallFix p m cc (s_by mi) (s_meta mi).1 s args s_U (s_own mi) := ⟨X.1, X.2.1, X.2.2.1, X.2.2.2.2.2.1, hts⟩
  refine s_call_W hls hih hm c2 h0 hh X hin hE hA hP hD hS hl hb0 hag hn (a := (Value.ref b :: ys.reverse.map (s_v ρ α ξ)).toArray) (fun {Qc XC} hM hPc hf hR hW => ?_)
  rw [has] at hPc
  exact vx_runIN (S := hfix) (hM := hM) (As := ys.reverse.map (s_v ρ α ξ)) (cw := ⟨va_cnB (s_nth info 2 - 1) hts (s_good (pre := []) c2 h0 (fun _ q => absurd q List.not_mem_nil)) (by rw [s_ws_nil d4, d3.2]) rfl rfl (hE.1.2.1 _ (s_wat_v d6) rfl) (hts _ (g1 _ (by simp))) ⟨c3.1, c3.2, (s_np_v d1)⟩ hR, d3.1, hts _ (g1 _ (by simp))⟩) (hp := ⟨s_Pc_blind, hPc⟩) (hg := rfl) (hn := by rw [List.length_map, List.length_reverse]; omega) (hsize := hl.1) (hstack := hst) (hW := hW) (hdg := hd) (hf := hf)
theorem v_callV (hls : l.stackTraces = false) (hih : s_All l D tc ξ xs ρ f) (hm : mi < s_M) {ix : Nat} {info : List Nat} (hk : s_nth info 0 = 3) (hw : s_clk mi ix info = true) (hd : decode (s_by mi) pc = .ok (.invokevirtual ix, 3)) (hn : npc = pc + 3) (hh : s_call f s_P mi pc npc lo st h iv c n k (s_nth info 1) (s_nth info 2) (s_nth info 3) = true) : s_Snd l D tc ξ xs ρ mi pc lo st h iv c n k := by
  have hclk := s_ck_3 hk hw
  rw [Bool.and_eq_true, Bool.and_eq_true, Bool.and_eq_true, Bool.and_eq_true] at hclk
  obtain ⟨c1, c2, c3, c4⟩ := hclk
  have g1 := s_pre_v c1
  rw [s_cp_3 hk] at g1
  rw [Nat.blt_eq, Nat.blt_eq] at c2
  obtain ⟨h0, c2⟩ := c2
  have c3 := of_decide_eq_true c3
  rw [Bool.and_eq_true, Bool.and_eq_true, Bool.and_eq_true, Bool.and_eq_true] at c4
  obtain ⟨d1, d2, d3, d4, d5⟩ := c4
  have d3 := of_decide_eq_true d3
  rw [Nat.blt_eq] at d2
  have hci : s_nth info 3 ≠ 0 := by
    intro q
    rw [q] at d5
    cases d5
  have hc0 : s_nth info 3 ≠ 1000 := by
    intro q
    rw [q] at d5
    cases d5
  intro p e R s m args below meth cc A α α0 b0 H locs ls X hin hE hA hP hD hS hl hb0 hag
  have hx9 := s_call_x hh
  obtain ⟨ys, x, hys, ⟨b, hb⟩, hx3, hobj⟩ := s_inst (ρ := ρ) (ξ := ξ) (α := α) hx9.2.2.2.1 hci
  have hlen : ys.length + 1 = s_nth info 2 := by
    have := congrArg List.length hys
    rw [List.length_take, List.length_append, Nat.min_eq_left hx9.1] at this
    exact this.symm
  have hst : st.map (s_v ρ α ξ) = ((ys.reverse.map (s_v ρ α ξ)).reverse) ++ .ref b :: (st.drop (s_nth info 2)).map (s_v ρ α ξ) := by
    rw [s_stk (ρ := ρ) (ξ := ξ) α (s_nth info 2), hys, List.reverse_append, List.reverse_singleton, List.singleton_append, List.map_cons, hb, List.reverse_cons, List.append_assoc]
    rfl
  have has : ((st.take (s_nth info 2)).reverse).map (s_v ρ α ξ) = .ref b :: ys.reverse.map (s_v ρ α ξ) := by
    rw [hys, List.reverse_append, List.reverse_singleton, List.singleton_append, List.map_cons, hb]
  have hts := X.2.2.2.2.2.2.1
  have hfix : CallFix p m cc (s_by mi) (s_meta mi).1 s args s_U (s_own mi) := ⟨X.1, X.2.1, X.2.2.1, X.2.2.2.2.2.1, hts⟩
  obtain ⟨hcell, hat⟩ := s_recv hE hP hS hx9.2.2.2.1 hys hb hx3 hobj hci hc0
  refine s_call_W hls hih hm c2 h0 hh X hin hE hA hP hD hS hl hb0 hag hn (a := (Value.ref b :: ys.reverse.map (s_v ρ α ξ)).toArray) (fun {Qc XC} hM hPc hf hR hW => ?_)
  rw [has] at hPc
  exact vx_runV (S := hfix) (hM := hM) (As := ys.reverse.map (s_v ρ α ξ)) (cw := cwV (C := s_cln (s_nth info 3)) (s_nth info 2 - 1) hts (s_good (pre := [.methodLink (s_own mi) ix (s_y (s_nth info 1)), .instanceMethod (s_y (s_nth info 1)), .selects (s_cln (s_nth info 3)) (s_y (s_nth info 1)) (s_y (s_nth info 1)), .initialized (s_cln (s_nth info 3))]) c2 h0 g1) (by rw [s_ws_nil d4]) rfl rfl ⟨d3, c3.1, c3.2, (s_np_v d1)⟩ hR) (hp := ⟨s_Pc_blind, hcell, hPc⟩) (hg := rfl) (hn := by rw [List.length_map, List.length_reverse]; omega) (hsize := hl.1) (hstack := hst) (hW := hW) (hdg := hd) (hf := hf)
theorem v_callU (hls : l.stackTraces = false) (hih : s_All l D tc ξ xs ρ f) (hm : mi < s_M) {ix : Nat} {info : List Nat} (hk : s_nth info 0 = 6) (hw : s_clk mi ix info = true) (hd : decode (s_by mi) pc = .ok (.invokevirtual ix, 3)) (hn : npc = pc + 3) (hh : s_call f s_P mi pc npc lo st h iv c n k (s_nth info 1) (s_nth info 2) (s_nth info 3) = true) : s_Snd l D tc ξ xs ρ mi pc lo st h iv c n k := by
  have hclk := s_ck_6 hk hw
  rw [Bool.and_eq_true, Bool.and_eq_true, Bool.and_eq_true, Bool.and_eq_true] at hclk
  obtain ⟨c1, c2, c3, c4⟩ := hclk
  have g1 := s_pre_v c1
  rw [s_cp_6 hk] at g1
  rw [Nat.blt_eq, Nat.blt_eq] at c2
  obtain ⟨h0, c2⟩ := c2
  have c3 := of_decide_eq_true c3
  rw [Bool.and_eq_true, Bool.and_eq_true, Bool.and_eq_true] at c4
  obtain ⟨d1, d2, d4, d5⟩ := c4
  rw [Nat.blt_eq] at d2
  have hci : s_nth info 3 ≠ 0 := by
    intro q
    rw [q] at d5
    cases d5
  have hc0 : s_nth info 3 ≠ 1000 := by
    intro q
    rw [q] at d5
    cases d5
  intro p e R s m args below meth cc A α α0 b0 H locs ls X hin hE hA hP hD hS hl hb0 hag
  have hx9 := s_call_x hh
  obtain ⟨ys, x, hys, ⟨b, hb⟩, hx3, hobj⟩ := s_inst (ρ := ρ) (ξ := ξ) (α := α) hx9.2.2.2.1 hci
  have hlen : ys.length + 1 = s_nth info 2 := by
    have := congrArg List.length hys
    rw [List.length_take, List.length_append, Nat.min_eq_left hx9.1] at this
    exact this.symm
  have hst : st.map (s_v ρ α ξ) = ((ys.reverse.map (s_v ρ α ξ)).reverse) ++ .ref b :: (st.drop (s_nth info 2)).map (s_v ρ α ξ) := by
    rw [s_stk (ρ := ρ) (ξ := ξ) α (s_nth info 2), hys, List.reverse_append, List.reverse_singleton, List.singleton_append, List.map_cons, hb, List.reverse_cons, List.append_assoc]
    rfl
  have has : ((st.take (s_nth info 2)).reverse).map (s_v ρ α ξ) = .ref b :: ys.reverse.map (s_v ρ α ξ) := by
    rw [hys, List.reverse_append, List.reverse_singleton, List.singleton_append, List.map_cons, hb]
  have hts := X.2.2.2.2.2.2.1
  have hfix : CallFix p m cc (s_by mi) (s_meta mi).1 s args s_U (s_own mi) := ⟨X.1, X.2.1, X.2.2.1, X.2.2.2.2.2.1, hts⟩
  obtain ⟨hcell, hat⟩ := s_recv hE hP hS hx9.2.2.2.1 hys hb hx3 hobj hci hc0
  refine s_call_W hls hih hm c2 h0 hh X hin hE hA hP hD hS hl hb0 hag hn (a := (Value.ref b :: ys.reverse.map (s_v ρ α ξ)).toArray) (fun {Qc XC} hM hPc hf hR hW => ?_)
  rw [has] at hPc
  exact vx_runU (S := hfix) (hM := hM) (As := ys.reverse.map (s_v ρ α ξ)) (cw := va_cwU (C := s_cln (s_nth info 3)) (owner := (s_y (s_nth info 1)).cls) (x := s_y (s_nth info 1)) (s_nth info 2 - 1) hts (s_good (pre := [.methodLink (s_own mi) ix (s_y (s_nth info 1)), .sameMethod (s_y (s_nth info 1)).cls (s_y (s_nth info 1)).cls (s_y (s_nth info 1)).name (s_y (s_nth info 1)).desc, .selects (s_cln (s_nth info 3)) (s_y (s_nth info 1)) (s_y (s_nth info 1)), .instanceMethod (s_y (s_nth info 1)), .initialized (s_y (s_nth info 1)).cls]) c2 h0 g1) (by rw [s_ws_nil d4]) rfl rfl rfl ⟨c3.1, c3.2, (s_np_v d1)⟩ hR) (hp := ⟨s_Pc_blind, hcell, hPc⟩) (hg := rfl) (hn := by rw [List.length_map, List.length_reverse]; omega) (hsize := hl.1) (hstack := hst) (hW := hW) (hdg := hd) (hf := hf)
theorem v_callVN (hls : l.stackTraces = false) (hih : s_All l D tc ξ xs ρ f) (hm : mi < s_M) {ix : Nat} {info : List Nat} (hk : s_nth info 0 = 13) (hw : s_clk mi ix info = true) (hd : decode (s_by mi) pc = .ok (.invokevirtual ix, 3)) (hn : npc = pc + 3) (hh : s_call f s_P mi pc npc lo st h iv c n k (s_nth info 1) (s_nth info 2) (s_nth info 3) = true) : s_Snd l D tc ξ xs ρ mi pc lo st h iv c n k := by
  have hclk := s_ck_13 hk hw
  rw [Bool.and_eq_true, Bool.and_eq_true, Bool.and_eq_true, Bool.and_eq_true] at hclk
  obtain ⟨c1, c2, c3, c4⟩ := hclk
  have g1 := s_pre_v c1
  rw [s_cp_13 hk] at g1
  rw [Nat.blt_eq, Nat.blt_eq] at c2
  obtain ⟨h0, c2⟩ := c2
  have c3 := of_decide_eq_true c3
  rw [Bool.and_eq_true, Bool.and_eq_true, Bool.and_eq_true, Bool.and_eq_true] at c4
  obtain ⟨d1, d2, d4, d5, d6⟩ := c4
  rw [Nat.blt_eq] at d2
  have hci : s_nth info 3 ≠ 0 := by
    intro q
    rw [q] at d5
    cases d5
  have hc0 : s_nth info 3 ≠ 1000 := by
    intro q
    rw [q] at d5
    cases d5
  intro p e R s m args below meth cc A α α0 b0 H locs ls X hin hE hA hP hD hS hl hb0 hag
  have hx9 := s_call_x hh
  obtain ⟨ys, x, hys, ⟨b, hb⟩, hx3, hobj⟩ := s_inst (ρ := ρ) (ξ := ξ) (α := α) hx9.2.2.2.1 hci
  have hlen : ys.length + 1 = s_nth info 2 := by
    have := congrArg List.length hys
    rw [List.length_take, List.length_append, Nat.min_eq_left hx9.1] at this
    exact this.symm
  have hst : st.map (s_v ρ α ξ) = ((ys.reverse.map (s_v ρ α ξ)).reverse) ++ .ref b :: (st.drop (s_nth info 2)).map (s_v ρ α ξ) := by
    rw [s_stk (ρ := ρ) (ξ := ξ) α (s_nth info 2), hys, List.reverse_append, List.reverse_singleton, List.singleton_append, List.map_cons, hb, List.reverse_cons, List.append_assoc]
    rfl
  have has : ((st.take (s_nth info 2)).reverse).map (s_v ρ α ξ) = .ref b :: ys.reverse.map (s_v ρ α ξ) := by
    rw [hys, List.reverse_append, List.reverse_singleton, List.singleton_append, List.map_cons, hb]
  have hts := X.2.2.2.2.2.2.1
  have hfix : CallFix p m cc (s_by mi) (s_meta mi).1 s args s_U (s_own mi) := ⟨X.1, X.2.1, X.2.2.1, X.2.2.2.2.2.1, hts⟩
  obtain ⟨hcell, hat⟩ := s_recv hE hP hS hx9.2.2.2.1 hys hb hx3 hobj hci hc0
  refine s_call_W hls hih hm c2 h0 hh X hin hE hA hP hD hS hl hb0 hag hn (a := (Value.ref b :: ys.reverse.map (s_v ρ α ξ)).toArray) (fun {Qc XC} hM hPc hf hR hW => ?_)
  rw [has] at hPc
  exact vx_runVN (S := hfix) (hM := hM) (As := ys.reverse.map (s_v ρ α ξ)) (cw := ⟨va_cnB (s_nth info 2 - 1) hts (s_good (pre := []) c2 h0 (fun _ q => absurd q List.not_mem_nil)) (by rw [s_ws_nil d4]) rfl rfl (hE.1.2.1 _ (s_wat_v d6) rfl) (hts _ (g1 _ (by simp))) ⟨c3.1, c3.2, (s_np_v d1)⟩ hR, hts _ (g1 _ (by simp)), hts _ (g1 (.selects (s_cln (s_nth info 3)) (s_y (s_nth info 1)) (s_y (s_nth info 1))) (by simp))⟩) (hp := ⟨s_Pc_blind, hcell, hPc⟩) (hg := rfl) (hn := by rw [List.length_map, List.length_reverse]; omega) (hsize := hl.1) (hstack := hst) (hW := hW) (hdg := hd) (hf := hf)
theorem v_callSU (hls : l.stackTraces = false) (hih : s_All l D tc ξ xs ρ f) (hm : mi < s_M) {ix : Nat} {info : List Nat} (hk : s_nth info 0 = 5) (hw : s_clk mi ix info = true) (hd : decode (s_by mi) pc = .ok (.invokespecial ix, 3)) (hn : npc = pc + 3) (hh : s_call f s_P mi pc npc lo st h iv c n k (s_nth info 1) (s_nth info 2) (s_nth info 3) = true) : s_Snd l D tc ξ xs ρ mi pc lo st h iv c n k := by
  have hclk := s_ck_5 hk hw
  rw [Bool.and_eq_true, Bool.and_eq_true, Bool.and_eq_true, Bool.and_eq_true] at hclk
  obtain ⟨c1, c2, c3, c4⟩ := hclk
  have g1 := s_pre_v c1
  rw [s_cp_5 hk] at g1
  rw [Nat.blt_eq, Nat.blt_eq] at c2
  obtain ⟨h0, c2⟩ := c2
  have c3 := of_decide_eq_true c3
  rw [Bool.and_eq_true, Bool.and_eq_true, Bool.and_eq_true, Bool.and_eq_true] at c4
  obtain ⟨d1, d2, d3, d4, d5⟩ := c4
  have d3 := of_decide_eq_true d3
  rw [Nat.blt_eq] at d2
  rw [Bool.and_eq_true, Nat.blt_eq] at d5
  obtain ⟨d5, d6⟩ := d5
  have hci : s_nth info 3 ≠ 0 := by
    intro q
    rw [q] at d5
    cases d5
  have hc0 : s_nth info 3 ≠ 1000 := by
    intro q
    rw [q] at d5
    cases d5
  intro p e R s m args below meth cc A α α0 b0 H locs ls X hin hE hA hP hD hS hl hb0 hag
  have hx9 := s_call_x hh
  obtain ⟨ys, x, hys, ⟨b, hb⟩, hx3, hobj⟩ := s_inst (ρ := ρ) (ξ := ξ) (α := α) hx9.2.2.2.1 hci
  have hlen : ys.length + 1 = s_nth info 2 := by
    have := congrArg List.length hys
    rw [List.length_take, List.length_append, Nat.min_eq_left hx9.1] at this
    exact this.symm
  have hst : st.map (s_v ρ α ξ) = ((ys.reverse.map (s_v ρ α ξ)).reverse) ++ .ref b :: (st.drop (s_nth info 2)).map (s_v ρ α ξ) := by
    rw [s_stk (ρ := ρ) (ξ := ξ) α (s_nth info 2), hys, List.reverse_append, List.reverse_singleton, List.singleton_append, List.map_cons, hb, List.reverse_cons, List.append_assoc]
    rfl
  have has : ((st.take (s_nth info 2)).reverse).map (s_v ρ α ξ) = .ref b :: ys.reverse.map (s_v ρ α ξ) := by
    rw [hys, List.reverse_append, List.reverse_singleton, List.singleton_append, List.map_cons, hb]
  have hts := X.2.2.2.2.2.2.1
  have hfix : CallFix p m cc (s_by mi) (s_meta mi).1 s args s_U (s_own mi) := ⟨X.1, X.2.1, X.2.2.1, X.2.2.2.2.2.1, hts⟩
  obtain ⟨hcell, hat⟩ := s_recv hE hP hS hx9.2.2.2.1 hys hb hx3 hobj hci hc0
  refine s_call_W hls hih hm c2 h0 hh X hin hE hA hP hD hS hl hb0 hag hn (a := (Value.ref b :: ys.reverse.map (s_v ρ α ξ)).toArray) (fun {Qc XC} hM hPc hf hR hW => ?_)
  rw [has] at hPc
  obtain ⟨kC, hkC⟩ := hat (by omega)
  exact vx_runSU (C := s_cln (s_nth info 3)) hkC (S := hfix) (hM := hM) (As := ys.reverse.map (s_v ρ α ξ)) (cw := va_cwSU (s_nth info 2 - 1) hts (s_good (pre := [.methodLink (s_own mi) ix (s_y (s_nth info 1)), .sameMethod (s_y (s_nth info 1)).cls (s_y (s_nth info 1)).cls (s_y (s_nth info 1)).name (s_y (s_nth info 1)).desc, .superclass (s_own mi) (s_y (s_nth info 1)).cls, .instanceMethod (s_y (s_nth info 1)), .initialized (s_y (s_nth info 1)).cls]) c2 h0 g1) (by rw [s_ws_nil d4]) rfl rfl ⟨d3, (s_np_v d1)⟩ hR) (hp := ⟨s_Pc_blind, hcell, hPc⟩) (hg := rfl) (hn := by rw [List.length_map, List.length_reverse]; omega) (hsize := hl.1) (hstack := hst) (hW := hW) (hdg := hd) (hf := hf)
theorem v_callF (hls : l.stackTraces = false) (hih : s_All l D tc ξ xs ρ f) (hm : mi < s_M) {ix ct : Nat} {info : List Nat} (hk : s_nth info 0 = 4) (hw : s_clk mi ix info = true) (hd : decode (s_by mi) pc = .ok (.invokeinterface ix ct, 5)) (hn : npc = pc + 5) (hh : s_call f s_P mi pc npc lo st h iv c n k (s_nth info 1) (s_nth info 2) (s_nth info 3) = true) : s_Snd l D tc ξ xs ρ mi pc lo st h iv c n k := by
  have hclk := s_ck_4 hk hw
  rw [Bool.and_eq_true, Bool.and_eq_true, Bool.and_eq_true, Bool.and_eq_true] at hclk
  obtain ⟨c1, c2, c3, c4⟩ := hclk
  have g1 := s_pre_v c1
  rw [s_cp_4 hk] at g1
  rw [Nat.blt_eq, Nat.blt_eq] at c2
  obtain ⟨h0, c2⟩ := c2
  have c3 := of_decide_eq_true c3
  rw [Bool.and_eq_true, Bool.and_eq_true, Bool.and_eq_true] at c4
  obtain ⟨d3, d2, d4, d5⟩ := c4
  have d3 := of_decide_eq_true d3
  have d2 := Nat.eq_of_beq_eq_true d2
  have hci : s_nth info 3 ≠ 0 := by
    intro q
    rw [q] at d5
    cases d5
  have hc0 : s_nth info 3 ≠ 1000 := by
    intro q
    rw [q] at d5
    cases d5
  intro p e R s m args below meth cc A α α0 b0 H locs ls X hin hE hA hP hD hS hl hb0 hag
  have hx9 := s_call_x hh
  obtain ⟨ys, x, hys, ⟨b, hb⟩, hx3, hobj⟩ := s_inst (ρ := ρ) (ξ := ξ) (α := α) hx9.2.2.2.1 hci
  have hlen : ys.length + 1 = s_nth info 2 := by
    have := congrArg List.length hys
    rw [List.length_take, List.length_append, Nat.min_eq_left hx9.1] at this
    exact this.symm
  have hst : st.map (s_v ρ α ξ) = ((ys.reverse.map (s_v ρ α ξ)).reverse) ++ .ref b :: (st.drop (s_nth info 2)).map (s_v ρ α ξ) := by
    rw [s_stk (ρ := ρ) (ξ := ξ) α (s_nth info 2), hys, List.reverse_append, List.reverse_singleton, List.singleton_append, List.map_cons, hb, List.reverse_cons, List.append_assoc]
    rfl
  have has : ((st.take (s_nth info 2)).reverse).map (s_v ρ α ξ) = .ref b :: ys.reverse.map (s_v ρ α ξ) := by
    rw [hys, List.reverse_append, List.reverse_singleton, List.singleton_append, List.map_cons, hb]
  have hts := X.2.2.2.2.2.2.1
  have hfix : CallFix p m cc (s_by mi) (s_meta mi).1 s args s_U (s_own mi) := ⟨X.1, X.2.1, X.2.2.1, X.2.2.2.2.2.1, hts⟩
  obtain ⟨hcell, hat⟩ := s_recv hE hP hS hx9.2.2.2.1 hys hb hx3 hobj hci hc0
  refine s_call_W hls hih hm c2 h0 hh X hin hE hA hP hD hS hl hb0 hag hn (a := (Value.ref b :: ys.reverse.map (s_v ρ α ξ)).toArray) (fun {Qc XC} hM hPc hf hR hW => ?_)
  rw [has] at hPc
  rw [d3.2] at hcell
  rw [← d3.1] at g1
  have h1 : s_nth info 3 ≠ 1001 := by
    intro q
    have q9 := d3.2
    rw [q] at q9
    revert q9
    decide
  obtain ⟨kC, hkC⟩ := hat h1
  rw [d3.2] at hkC
  exact vx_runF hkC (S := hfix) (hM := hM) (As := ys.reverse.map (s_v ρ α ξ)) (cw := va_cwF (C := "java/util/ArrayList$Itr") (x := s_iX) 0 hts (s_good (pre := [.methodLink (s_own mi) ix s_iX, .selects "java/util/ArrayList$Itr" s_iX (s_y (s_nth info 1)), .instanceMethod (s_y (s_nth info 1)), .initialized (s_y (s_nth info 1)).cls]) c2 h0 g1) (by rw [s_ws_nil d4]) rfl rfl (by rw [d3.1]; exact hE.1.2.2.1) ⟨by decide, by decide, by decide +kernel⟩ hR) (hp := ⟨s_Pc_blind, hcell, hPc⟩) (hg := rfl) (hn := by rw [List.length_map, List.length_reverse]; omega) (hsize := hl.1) (hstack := hst) (hW := hW) (hdg := hd) (hf := hf)
theorem v_callS (hls : l.stackTraces = false) (hih : s_All l D tc ξ xs ρ f) (hm : mi < s_M) {ix : Nat} {info : List Nat} (hk : s_nth info 0 = 1) (hw : s_clk mi ix info = true) (hd : decode (s_by mi) pc = .ok (.invokestatic ix, 3)) (hn : npc = pc + 3) (hh : s_call f s_P mi pc npc lo st h iv c n k (s_nth info 1) (s_nth info 2) (s_nth info 3) = true) : s_Snd l D tc ξ xs ρ mi pc lo st h iv c n k := by
  have hclk := s_ck_1 hk hw
  rw [Bool.and_eq_true, Bool.and_eq_true, Bool.and_eq_true, Bool.and_eq_true] at hclk
  obtain ⟨c1, c2, c3, c4⟩ := hclk
  have g1 := s_pre_v c1
  rw [s_cp_1 hk] at g1
  rw [Nat.blt_eq, Nat.blt_eq] at c2
  obtain ⟨h0, c2⟩ := c2
  have c3 := of_decide_eq_true c3
  intro p e R s m args below meth cc A α α0 b0 H locs ls X hin hE hA hP hD hS hl hb0 hag
  have hx9 := s_call_x hh
  have hts := X.2.2.2.2.2.2.1
  have hfix : CallFix p m cc (s_by mi) (s_meta mi).1 s args s_U (s_own mi) := ⟨X.1, X.2.1, X.2.2.1, X.2.2.2.2.2.1, hts⟩
  have hgd := s_good (pre := [.methodLink (s_own mi) ix (s_y (s_nth info 1)), .static (s_y (s_nth info 1)), .initialized (s_y (s_nth info 1)).cls]) c2 h0 g1
  have hlen : (((st.take (s_nth info 2)).reverse).map (s_v ρ α ξ)).length = s_nth info 2 := by
    rw [List.length_map, List.length_reverse, List.length_take, Nat.min_eq_left hx9.1]
  refine s_call_W hls hih hm c2 h0 hh X hin hE hA hP hD hS hl hb0 hag hn (a := (((st.take (s_nth info 2)).reverse).map (s_v ρ α ξ)).toArray) (fun {Qc XC} hM hPc hf hR hW => ?_)
  cases hx : s_hx (s_nth info 1) with
  | nil =>
    have e9 : s_ws (s_nth info 1) = Cond.code (s_y (s_nth info 1)) (s_by (s_nth info 1)) (s_meta (s_nth info 1)).1 (s_rt (s_nth info 1)) :: s_U := s_ws_nil (by rw [hx]; rfl)
    exact vx_runS (S := hfix) (hM := hM) (As := ((st.take (s_nth info 2)).reverse).map (s_v ρ α ξ)) (cw := va_cwS (s_nth info 2) hts hgd e9 rfl rfl ⟨c3.1, c3.2, s_np_v c4⟩ hR) (hp := ⟨s_Pc_blind, hPc⟩) (hg := rfl) (hn := hlen) (hsize := hl.1) (hstack := s_stk α _) (hW := hW) (hdg := hd) (hf := hf)
  | cons a9 r9 =>
    have e9 : s_ws (s_nth info 1) = Cond.codeWith (s_y (s_nth info 1)) (s_by (s_nth info 1)) (s_meta (s_nth info 1)).1 (s_rt (s_nth info 1)) (a9 :: r9) :: s_U := by
      unfold s_ws s_cd
      rw [hx]
    exact vx_runSX (S := hfix) (hM := hM) (As := ((st.take (s_nth info 2)).reverse).map (s_v ρ α ξ)) (cw := vx_cwSW (s_nth info 2) hts hgd e9 rfl rfl ⟨c3.1, c3.2, s_np_v c4⟩ hR) (hp := ⟨s_Pc_blind, hPc⟩) (hg := rfl) (hn := hlen) (hsize := hl.1) (hstack := s_stk α _) (hW := hW) (hdg := hd) (hf := hf)
end S12
end
section
section S13
variable {l : Launch} {D : va_G} {tc : Nat → ClassId} {ξ : Nat → Nat} {xs : Nat → Int32} {ρ : Nat → Int} {f : sF}
variable {mi pc npc : Nat} {lo : sL} {st : List sV} {h : List sE} {iv : sI} {c n : Nat} {k : sZ → Bool}
theorem s_snd_ins (hls : l.stackTraces = false) (hih : s_All l D tc ξ xs ρ f) (hρ : s_ρ ρ xs) (hm : mi < s_M) {ins : Instr} {info : List Nat} (hd : decode (s_by mi) pc = .ok (ins, s_ln (pc, ins, npc, info))) (hn : npc = pc + s_ln (pc, ins, npc, info)) (hlk : s_lk mi (pc, ins, npc, info) = true) (hh : s_ins s_P f mi pc lo st h iv c n k ins npc info = true) : s_Snd l D tc ξ xs ρ mi pc lo st h iv c n k := by
  intro p e R s m args below meth cc A α α0 b0 H locs ls X hin hE hA hP hD hS hl hb0 hag
  cases ins with
  | iconst v => exact v_iconst hih hρ hm hd hn hh X hin hE hA hP hD hS hl hb0 hag
  | bipush v => exact v_bipush hih hρ hm hd hn hh (of_decide_eq_true hlk) X hin hE hA hP hD hS hl hb0 hag
  | sipush v => exact v_sipush hih hρ hm hd hn hh (of_decide_eq_true hlk) X hin hE hA hP hD hS hl hb0 hag
  | lconst v => exact v_lconst hih hρ hm hd hn hh X hin hE hA hP hD hS hl hb0 hag
  | fconst v =>
    have : v = 0 := Fin.ext (Nat.eq_of_beq_eq_true hlk)
    subst this
    exact v_fconst hih hρ hm hd hn hh X hin hE hA hP hD hS hl hb0 hag
  | dconst v =>
    have : v = 0 := Fin.ext (Nat.eq_of_beq_eq_true hlk)
    subst this
    exact v_dconst hih hρ hm hd hn hh X hin hE hA hP hD hS hl hb0 hag
  | aconst_null => exact v_null hih hρ hm hd hn hh X hin hE hA hP hD hS hl hb0 hag
  | ldc_w ix =>
    by_cases hq : ∃ r, info = 2 :: r
    · obtain ⟨r, rfl⟩ := hq
      exact v_ldcS hih hm (of_decide_eq_true hlk) hd hn hh X hin hE hA hP hD hS hl hb0 hag
    · have h1 : s_gat (s_nth info 2) (.constant (s_own mi) ix (Int32.ofInt (s_int (info.take 2)))) = true := by
        unfold s_lk at hlk
        dsimp only at hlk
        split at hlk
        · next r => exact absurd ⟨r, rfl⟩ hq
        · exact hlk
      have h2 : f mi npc lo ((0, s_int (info.take 2), 0) :: st) h iv c n k = true := by
        unfold s_ins at hh
        dsimp only at hh
        split at hh
        · next r => exact absurd ⟨r, rfl⟩ hq
        · exact hh
      exact v_ldcw hih hρ hm hd hn h2 (s_gat_v h1) X hin hE hA hP hD hS hl hb0 hag
  | ldc ix => exact v_ldc hih hρ hm hd hn hh (s_gat_v hlk) X hin hE hA hP hD hS hl hb0 hag
  | ldc2_w ix => exact v_ldc2 hih hρ hm hd hn hh (s_gat_v hlk) X hin hE hA hP hD hS hl hb0 hag
  | iload i => exact v_iload hih hρ hm hd hn hh X hin hE hA hP hD hS hl hb0 hag
  | iload_n i => exact v_iload_n hih hρ hm hd hn hh X hin hE hA hP hD hS hl hb0 hag
  | lload i => exact v_lload hih hρ hm hd hn hh X hin hE hA hP hD hS hl hb0 hag
  | lload_n i => exact v_lload_n hih hρ hm hd hn hh X hin hE hA hP hD hS hl hb0 hag
  | aload i => exact v_aload hih hρ hm hd hn hh X hin hE hA hP hD hS hl hb0 hag
  | aload_n i => exact v_aload_n hih hρ hm hd hn hh X hin hE hA hP hD hS hl hb0 hag
  | istore i => exact v_istore hih hρ hm hd hn hh X hin hE hA hP hD hS hl hb0 hag
  | istore_n i => exact v_istore_n hih hρ hm hd hn hh X hin hE hA hP hD hS hl hb0 hag
  | astore i => exact v_astore hih hρ hm hd hn hh X hin hE hA hP hD hS hl hb0 hag
  | astore_n i => exact v_astore_n hih hρ hm hd hn hh X hin hE hA hP hD hS hl hb0 hag
  | fstore i => exact v_fstore hih hρ hm hd hn hh X hin hE hA hP hD hS hl hb0 hag
  | lstore i => exact v_lstore hih hρ hm hd hn hh X hin hE hA hP hD hS hl hb0 hag
  | lstore_n i => exact v_lstore_n hih hρ hm hd hn hh X hin hE hA hP hD hS hl hb0 hag
  | dstore i => exact v_dstore hih hρ hm hd hn hh X hin hE hA hP hD hS hl hb0 hag
  | iinc i d => exact v_iinc hih hρ hm hd hn hh X hin hE hA hP hD hS hl hb0 hag
  | dup => exact v_dup hih hρ hm hd hn hh X hin hE hA hP hD hS hl hb0 hag
  | pop => exact v_pop hih hρ hm hd hn hh X hin hE hA hP hD hS hl hb0 hag
  | dup_x1 => exact v_dup_x1 hih hρ hm hd hn hh X hin hE hA hP hD hS hl hb0 hag
  | iadd => exact v_iadd hih hρ hm hd hn hh X hin hE hA hP hD hS hl hb0 hag
  | isub => exact v_isub hih hρ hm hd hn hh X hin hE hA hP hD hS hl hb0 hag
  | ladd => exact v_ladd hih hρ hm hd hn hh X hin hE hA hP hD hS hl hb0 hag
  | lmul => exact v_lmul hih hρ hm hd hn hh X hin hE hA hP hD hS hl hb0 hag
  | i2l => exact v_i2l hih hρ hm hd hn hh X hin hE hA hP hD hS hl hb0 hag
  | l2i => exact v_l2i hih hρ hm hd hn hh X hin hE hA hP hD hS hl hb0 hag
  | i2c => exact v_i2c hih hρ hm hd hn hh X hin hE hA hP hD hS hl hb0 hag
  | i2b => exact v_i2b hih hρ hm hd hn hh X hin hE hA hP hD hS hl hb0 hag
  | iushr => exact v_ush hih hρ hm hd hn hh X hin hE hA hP hD hS hl hb0 hag
  | ishr => exact v_shr hih hρ hm hd hn hh X hin hE hA hP hD hS hl hb0 hag
  | iand => exact v_and hih hρ hm hd hn hh X hin hE hA hP hD hS hl hb0 hag
  | lcmp => exact v_lcm hih hρ hm hd hn hh X hin hE hA hP hD hS hl hb0 hag
  | ifCond o off => exact v_ifc hih hρ hm hd hn (of_decide_eq_true hlk) hh X hin hE hA hP hD hS hl hb0 hag
  | if_icmp o off => exact v_icmp hih hρ hm hd hn (of_decide_eq_true hlk) hh X hin hE hA hP hD hS hl hb0 hag
  | goto off => exact v_goto hih hρ hm hd hn hh (of_decide_eq_true hlk) X hin hE hA hP hD hS hl hb0 hag
  | tableswitch d lw hw offs =>
    have hlk : (s_off (pc, Instr.tableswitch d lw hw offs, npc, info) d && (decide (hw - lw + 1 = (offs.size : Int)) && decide (offs.toList.map (fun o => (pc : Int) + o) = info.tail.map (fun t : Nat => (t : Int))))) = true := hlk
    rw [Bool.and_eq_true, Bool.and_eq_true] at hlk
    exact v_tab hih hρ hm hd (of_decide_eq_true hlk.1) (of_decide_eq_true hlk.2.1) (of_decide_eq_true hlk.2.2) hh X hin hE hA hP hD hS hl hb0 hag
  | ifnull off => exact v_ifnull hih hρ hm hd hn (of_decide_eq_true hlk) hh X hin hE hA hP hD hS hl hb0 hag
  | ifnonnull off => exact v_ifnonnull hih hρ hm hd hn (of_decide_eq_true hlk) hh X hin hE hA hP hD hS hl hb0 hag
  | if_acmp o off =>
    cases o with
    | eq => exact v_acmp_eq hih hρ hm hd (of_decide_eq_true hlk) hh X hin hE hA hP hD hS hl hb0 hag
    | ne =>
      have hn : npc = pc + 3 := hn
      subst hn
      exact v_acmp_ne hih hρ hm hd (of_decide_eq_true hlk) hh X hin hE hA hP hD hS hl hb0 hag
  | getfield ix =>
    refine v_gf hih hρ hm hd hn (fun q => ?_) (fun q => ?_) hh X hin hE hA hP hD hS hl hb0 hag
    · unfold s_lk at hlk
      dsimp only at hlk
      rw [q] at hlk
      exact hlk
    · obtain ⟨z, hz⟩ := Nat.exists_eq_succ_of_ne_zero q
      unfold s_lk at hlk
      dsimp only at hlk
      rw [hz] at hlk
      exact hlk
  | putfield ix => exact v_pf hih hρ hm hd hn hlk hh X hin hE hA hP hD hS hl hb0 hag
  | getstatic ix =>
    unfold s_lk at hlk
    unfold s_ins at hh
    dsimp only at hlk hh
    generalize hq : s_nth info 0 = q at hh hlk
    match q, hh, hlk with
    | 1, hh, hlk => exact v_gs1 hih hρ hm (s_gat_v hlk) hd hn hh X hin hE hA hP hD hS hl hb0 hag
    | 2, hh, hlk => exact v_gs2 hih hρ hm (s_gat_v hlk) hd hn hh X hin hE hA hP hD hS hl hb0 hag
    | 0, hh, _ => exact absurd hh Bool.false_ne_true
    | _ + 3, hh, _ => exact absurd hh Bool.false_ne_true
  | arraylength => exact v_len hih hρ hm hd hn hh X hin hE hA hP hD hS hl hb0 hag
  | iaload => exact v_ial hih hρ hm hd hn hh X hin hE hA hP hD hS hl hb0 hag
  | baload => exact v_bal hih hρ hm hd hn hh X hin hE hA hP hD hS hl hb0 hag
  | laload => exact v_lal hih hρ hm hd hn hh X hin hE hA hP hD hS hl hb0 hag
  | lastore => exact v_last hih hρ hm hd hn hh X hin hE hA hP hD hS hl hb0 hag
  | castore => exact v_cast hih hρ hm hd hn hh X hin hE hA hP hD hS hl hb0 hag
  | bastore => exact v_bast hih hρ hm hd hn hh X hin hE hA hP hD hS hl hb0 hag
  | aastore => exact v_aas hih hρ hm hd hn hh X hin hE hA hP hD hS hl hb0 hag
  | newarray a =>
    have g := s_pre_v (ws := [.arrayClass (Op.newarray.typeOf a)]) hlk _ (List.mem_singleton.mpr rfl)
    cases a with
    | int => exact v_newa0 hih hρ hm g hd hn hh X hin hE hA hP hD hS hl hb0 hag
    | char => exact v_newa1 hih hρ hm g hd hn hh X hin hE hA hP hD hS hl hb0 hag
    | byte => exact v_newa2 hih hρ hm g hd hn hh X hin hE hA hP hD hS hl hb0 hag
    | boolean => exact v_newa3 hih hρ hm g hd hn hh X hin hE hA hP hD hS hl hb0 hag
    | long => exact v_newa4 hih hρ hm g hd hn hh X hin hE hA hP hD hS hl hb0 hag
    | double => exact v_newa5 hih hρ hm g hd hn hh X hin hE hA hP hD hS hl hb0 hag
    | _ => exact absurd hh Bool.false_ne_true
  | anewarray ix => exact v_newq hih hρ hm (s_gat_v hlk) hd hn hh X hin hE hA hP hD hS hl hb0 hag
  | new ix =>
    unfold s_lk at hlk
    unfold s_ins at hh
    dsimp only at hlk hh
    generalize hq : s_nth info 0 = q at hh hlk
    match q, hh, hlk with
    | 0, hh, hlk =>
      have hlk : (match vwCl[s_nth info 1]? with
        | some r => s_cus.any (Nat.beq (s_nth info 1)) && s_gat (s_nth info 2) (.classLink (s_own mi) ix r.1) && s_pre [.instantiable r.1 r.2.2, .initialized r.1] (info.drop 3)
        | none => false) = true := hlk
      split at hlk
      · next r hr =>
        rw [Bool.and_eq_true, Bool.and_eq_true] at hlk
        have g := s_pre_v hlk.2
        exact v_newobj (wi := s_nth info 2) hih hρ hm hr (s_any_v hlk.1.1) (s_gat_v hlk.1.2) (g _ (by simp)) (g _ (by simp)) hd hn hh X hin hE hA hP hD hS hl hb0 hag
      · cases hlk
    | _ + 1, hh, hlk => exact v_thr hlk hd hh X hin hE hA hP hD hS hl hb0 hag
  | invokespecial ix =>
    unfold s_lk at hlk
    unfold s_ins at hh
    dsimp only at hlk hh
    generalize hq : s_nth info 0 = q at hh hlk
    match q, hq, hh, hlk with
    | 0, _, hh, hlk =>
      have hlk : (s_gat (s_nth info 1) (.methodLink (s_own mi) ix Lib.objectInit) && s_pre [.instanceMethod Lib.objectInit, .code Lib.objectInit ⟨#[0xb1]⟩ 1 none] (info.drop 2)) = true := hlk
      rw [Bool.and_eq_true] at hlk
      have g := s_pre_v hlk.2
      exact v_ini hih hρ hm (s_gat_v hlk.1) (g _ (by simp)) (g _ (by simp)) hd hn hh X hin hE hA hP hD hS hl hb0 hag
    | 2, hq, hh, hlk => exact v_callI hls hih hm hq hlk hd hn hh X hin hE hA hP hD hS hl hb0 hag
    | 5, hq, hh, hlk => exact v_callSU hls hih hm hq hlk hd hn hh X hin hE hA hP hD hS hl hb0 hag
    | 12, hq, hh, hlk => exact v_callIN hls hih hm hq hlk hd hn hh X hin hE hA hP hD hS hl hb0 hag
    | 1, _, _, hlk => exact absurd hlk Bool.false_ne_true
    | 3, _, _, hlk => exact absurd hlk Bool.false_ne_true
    | 4, _, _, hlk => exact absurd hlk Bool.false_ne_true
    | 6, _, _, hlk => exact absurd hlk Bool.false_ne_true
    | 7, _, _, hlk => exact absurd hlk Bool.false_ne_true
    | 8, _, _, hlk => exact absurd hlk Bool.false_ne_true
    | 9, _, _, hlk => exact absurd hlk Bool.false_ne_true
    | 10, _, _, hlk => exact absurd hlk Bool.false_ne_true
    | 11, _, _, hlk => exact absurd hlk Bool.false_ne_true
    | _ + 13, _, _, hlk => exact absurd hlk Bool.false_ne_true
  | invokestatic ix =>
    have hlk : (Nat.beq (s_nth info 0) 1 && s_clk mi ix info) = true := hlk
    rw [Bool.and_eq_true] at hlk
    exact v_callS hls hih hm (Nat.eq_of_beq_eq_true hlk.1) hlk.2 hd hn hh X hin hE hA hP hD hS hl hb0 hag
  | invokevirtual ix =>
    unfold s_lk at hlk
    dsimp only at hlk
    generalize hq : s_nth info 0 = q at hlk
    match q, hq, hlk with
    | 3, hq, hlk => exact v_callV hls hih hm hq hlk hd hn hh X hin hE hA hP hD hS hl hb0 hag
    | 6, hq, hlk => exact v_callU hls hih hm hq hlk hd hn hh X hin hE hA hP hD hS hl hb0 hag
    | 13, hq, hlk => exact v_callVN hls hih hm hq hlk hd hn hh X hin hE hA hP hD hS hl hb0 hag
    | 0, _, hlk => exact absurd hlk Bool.false_ne_true
    | 1, _, hlk => exact absurd hlk Bool.false_ne_true
    | 2, _, hlk => exact absurd hlk Bool.false_ne_true
    | 4, _, hlk => exact absurd hlk Bool.false_ne_true
    | 5, _, hlk => exact absurd hlk Bool.false_ne_true
    | 7, _, hlk => exact absurd hlk Bool.false_ne_true
    | 8, _, hlk => exact absurd hlk Bool.false_ne_true
    | 9, _, hlk => exact absurd hlk Bool.false_ne_true
    | 10, _, hlk => exact absurd hlk Bool.false_ne_true
    | 11, _, hlk => exact absurd hlk Bool.false_ne_true
    | 12, _, hlk => exact absurd hlk Bool.false_ne_true
    | _ + 14, _, hlk => exact absurd hlk Bool.false_ne_true
  | invokeinterface ix ct =>
    have hlk : (Nat.beq (s_nth info 0) 4 && s_clk mi ix info) = true := hlk
    rw [Bool.and_eq_true] at hlk
    exact v_callF hls hih hm (Nat.eq_of_beq_eq_true hlk.1) hlk.2 hd hn hh X hin hE hA hP hD hS hl hb0 hag
  | ireturn =>
    have hlk : s_rt mi = s_rty (s_nth info 0) := of_decide_eq_true hlk
    unfold s_ins at hh
    dsimp only at hh
    generalize hq : s_nth info 0 = q at hh hlk
    match q, hh, hlk with
    | 0, hh, hlk => exact v_iret hlk hd hh X hin hE hA hP hD hS hl hb0 hag
    | 1, hh, hlk => exact v_zret hlk hd hh X hin hE hA hP hD hS hl hb0 hag
    | 2, hh, hlk => exact v_cret hlk hd hh X hin hE hA hP hD hS hl hb0 hag
    | 5, hh, hlk => exact v_bret hlk hd hh X hin hE hA hP hD hS hl hb0 hag
    | 3, hh, _ => exact absurd hh Bool.false_ne_true
    | 4, hh, _ => exact absurd hh Bool.false_ne_true
    | _ + 6, hh, _ => exact absurd hh Bool.false_ne_true
  | lreturn => exact v_lret (of_decide_eq_true hlk) hd hh X hin hE hA hP hD hS hl hb0 hag
  | freturn => exact v_fret (of_decide_eq_true hlk) hd hh X hin hE hA hP hD hS hl hb0 hag
  | dreturn => exact v_dret (of_decide_eq_true hlk) hd hh X hin hE hA hP hD hS hl hb0 hag
  | areturn => exact v_aret hlk hd hh X hin hE hA hP hD hS hl hb0 hag
  | return_ => exact v_vret (of_decide_eq_true hlk) hd hh X hin hE hA hP hD hS hl hb0 hag
  | _ => exact absurd hh Bool.false_ne_true
theorem s_step_snd (hls : l.stackTraces = false) (hρ : s_ρ ρ xs) (hih : s_All l D tc ξ xs ρ f) : s_All l D tc ξ xs ρ (s_step s_P f) := by
  intro mi pc lo st h iv c n k hm hh
  unfold s_step at hh
  split at hh
  · next e he =>
    have he : s_find (s_code mi) pc = some e := he
    obtain ⟨hd, hn, hlk⟩ := s_row hm he
    obtain ⟨-, h2⟩ := s_find_v he
    obtain ⟨epc, ins, npc, info⟩ := e
    have h2 : epc = pc := h2
    subst h2
    intro p e R s m args below meth cc A α α0 b0 H locs ls X hin hE hA hP hD hS hl hb0 hag
    exact s_snd_ins hls hih hρ hm hd hn hlk hh X hin hE hA hP hD hS hl hb0 hag
  · cases hh
theorem s_chk_snd (hls : l.stackTraces = false) (hρ : s_ρ ρ xs) : ∀ d, s_All l D tc ξ xs ρ (s_chk s_P d)
  | 0 => fun _ _ _ _ _ _ _ _ _ _ hh => absurd hh Bool.false_ne_true
  | d + 1 => by
    rw [s_chk_s]
    exact s_step_snd hls hρ (s_chk_snd hls hρ d)
end S13
end
section
/-! THE RUNS OF THE LAW, BY THE KERNEL -/
def s_fin (z : sZ) : Bool := Nat.beq z.1 1 && (Nat.beq z.2.1.1 0 && (s_ile 1 z.2.1.2.1 && (s_ile z.2.1.2.1 1 && Nat.beq z.2.1.2.2 0)))
end
section
/-! runs -/
set_option maxRecDepth 1000000 in
theorem s_run_0 : s_chk s_P 20000 0 0 [(0, (4, 0, 0))] [] [] ((s_iv.set 21 (0, 0)).set 22 (6, 6)) 0 0 s_fin = true := by decide +kernel
set_option maxRecDepth 1000000 in
theorem s_run_1 : s_chk s_P 20000 0 0 [(0, (4, 0, 0))] [] [] ((s_iv.set 21 (1, 1)).set 22 (6, 6)) 0 0 s_fin = true := by decide +kernel
set_option maxRecDepth 1000000 in
theorem s_run_2 : s_chk s_P 20000 0 0 [(0, (4, 0, 0))] [] [] ((s_iv.set 21 (2, 2)).set 22 (6, 6)) 0 0 s_fin = true := by decide +kernel
set_option maxRecDepth 1000000 in
theorem s_run_3 : s_chk s_P 20000 0 0 [(0, (4, 0, 0))] [] [] ((s_iv.set 21 (3, 3)).set 22 (6, 6)) 0 0 s_fin = true := by decide +kernel
set_option maxRecDepth 1000000 in
theorem s_run_4 : s_chk s_P 20000 0 0 [(0, (4, 0, 0))] [] [] ((s_iv.set 21 (4, 4)).set 22 (6, 6)) 0 0 s_fin = true := by decide +kernel
set_option maxRecDepth 1000000 in
theorem s_run_5 : s_chk s_P 20000 0 0 [(0, (4, 0, 0))] [] [] ((s_iv.set 21 (5, 5)).set 22 (6, 6)) 0 0 s_fin = true := by decide +kernel
end
section
/-! runs -/
set_option maxRecDepth 1000000 in
theorem s_run_6 : s_chk s_P 20000 0 0 [(0, (4, 0, 0))] [] [] ((s_iv.set 21 (6, 6)).set 22 (6, 6)) 0 0 s_fin = true := by decide +kernel
set_option maxRecDepth 1000000 in
theorem s_run_7 : s_chk s_P 20000 0 0 [(0, (4, 0, 0))] [] [] ((s_iv.set 21 (7, 7)).set 22 (6, 6)) 0 0 s_fin = true := by decide +kernel
set_option maxRecDepth 1000000 in
theorem s_run_8 : s_chk s_P 20000 0 0 [(0, (4, 0, 0))] [] [] ((s_iv.set 21 (8, 8)).set 22 (6, 6)) 0 0 s_fin = true := by decide +kernel
set_option maxRecDepth 1000000 in
theorem s_run_9 : s_chk s_P 20000 0 0 [(0, (4, 0, 0))] [] [] ((s_iv.set 21 (9, 9)).set 22 (6, 6)) 0 0 s_fin = true := by decide +kernel
set_option maxRecDepth 1000000 in
theorem s_run_10 : s_chk s_P 20000 0 0 [(0, (4, 0, 0))] [] [] ((s_iv.set 21 (10, 10)).set 22 (6, 6)) 0 0 s_fin = true := by decide +kernel
set_option maxRecDepth 1000000 in
theorem s_run_11 : s_chk s_P 20000 0 0 [(0, (4, 0, 0))] [] [] ((s_iv.set 21 (11, 11)).set 22 (6, 6)) 0 0 s_fin = true := by decide +kernel
end
section
/-! runs -/
set_option maxRecDepth 1000000 in
theorem s_run_12 : s_chk s_P 20000 0 0 [(0, (4, 0, 0))] [] [] ((s_iv.set 21 (12, 12)).set 22 (6, 6)) 0 0 s_fin = true := by decide +kernel
set_option maxRecDepth 1000000 in
theorem s_run_13 : s_chk s_P 20000 0 0 [(0, (4, 0, 0))] [] [] ((s_iv.set 21 (13, 13)).set 22 (6, 6)) 0 0 s_fin = true := by decide +kernel
set_option maxRecDepth 1000000 in
theorem s_run_14 : s_chk s_P 20000 0 0 [(0, (4, 0, 0))] [] [] ((s_iv.set 21 (14, 14)).set 22 (6, 6)) 0 0 s_fin = true := by decide +kernel
set_option maxRecDepth 1000000 in
theorem s_run_15 : s_chk s_P 20000 0 0 [(0, (4, 0, 0))] [] [] ((s_iv.set 21 (15, 15)).set 22 (6, 6)) 0 0 s_fin = true := by decide +kernel
set_option maxRecDepth 1000000 in
theorem s_run_16 : s_chk s_P 20000 0 0 [(0, (4, 0, 0))] [] [] ((s_iv.set 21 (16, 16)).set 22 (6, 6)) 0 0 s_fin = true := by decide +kernel
set_option maxRecDepth 1000000 in
theorem s_run_17 : s_chk s_P 20000 0 0 [(0, (4, 0, 0))] [] [] ((s_iv.set 21 (17, 17)).set 22 (6, 6)) 0 0 s_fin = true := by decide +kernel
end
section
/-! runs -/
set_option maxRecDepth 1000000 in
theorem s_run_18l : s_chk s_P 20000 0 0 [(0, (4, 0, 0))] [] [] (((s_iv.set 21 (18, 18)).set 22 (6, 6)).set 2 (-2147483648, 0)) 0 0 s_fin = true := by decide +kernel
set_option maxRecDepth 1000000 in
theorem s_run_18_1 : s_chk s_P 20000 0 0 [(0, (4, 0, 0))] [] [] (((s_iv.set 21 (18, 18)).set 22 (6, 6)).set 2 (1, 1)) 0 0 s_fin = true := by decide +kernel
set_option maxRecDepth 1000000 in
theorem s_run_18_2 : s_chk s_P 20000 0 0 [(0, (4, 0, 0))] [] [] (((s_iv.set 21 (18, 18)).set 22 (6, 6)).set 2 (2, 2)) 0 0 s_fin = true := by decide +kernel
set_option maxRecDepth 1000000 in
theorem s_run_18_3 : s_chk s_P 20000 0 0 [(0, (4, 0, 0))] [] [] (((s_iv.set 21 (18, 18)).set 22 (6, 6)).set 2 (3, 3)) 0 0 s_fin = true := by decide +kernel
set_option maxRecDepth 1000000 in
theorem s_run_18_4 : s_chk s_P 20000 0 0 [(0, (4, 0, 0))] [] [] (((s_iv.set 21 (18, 18)).set 22 (6, 6)).set 2 (4, 4)) 0 0 s_fin = true := by decide +kernel
set_option maxRecDepth 1000000 in
theorem s_run_18_5 : s_chk s_P 20000 0 0 [(0, (4, 0, 0))] [] [] (((s_iv.set 21 (18, 18)).set 22 (6, 6)).set 2 (5, 5)) 0 0 s_fin = true := by decide +kernel
end
section
/-! runs -/
set_option maxRecDepth 1000000 in
theorem s_run_18_6 : s_chk s_P 20000 0 0 [(0, (4, 0, 0))] [] [] (((s_iv.set 21 (18, 18)).set 22 (6, 6)).set 2 (6, 6)) 0 0 s_fin = true := by decide +kernel
set_option maxRecDepth 1000000 in
theorem s_run_18_7 : s_chk s_P 20000 0 0 [(0, (4, 0, 0))] [] [] (((s_iv.set 21 (18, 18)).set 22 (6, 6)).set 2 (7, 7)) 0 0 s_fin = true := by decide +kernel
set_option maxRecDepth 1000000 in
theorem s_run_18_8 : s_chk s_P 20000 0 0 [(0, (4, 0, 0))] [] [] (((s_iv.set 21 (18, 18)).set 22 (6, 6)).set 2 (8, 8)) 0 0 s_fin = true := by decide +kernel
set_option maxRecDepth 1000000 in
theorem s_run_18_9 : s_chk s_P 20000 0 0 [(0, (4, 0, 0))] [] [] (((s_iv.set 21 (18, 18)).set 22 (6, 6)).set 2 (9, 9)) 0 0 s_fin = true := by decide +kernel
set_option maxRecDepth 1000000 in
theorem s_run_18_10 : s_chk s_P 20000 0 0 [(0, (4, 0, 0))] [] [] (((s_iv.set 21 (18, 18)).set 22 (6, 6)).set 2 (10, 10)) 0 0 s_fin = true := by decide +kernel
set_option maxRecDepth 1000000 in
theorem s_run_18_11 : s_chk s_P 20000 0 0 [(0, (4, 0, 0))] [] [] (((s_iv.set 21 (18, 18)).set 22 (6, 6)).set 2 (11, 11)) 0 0 s_fin = true := by decide +kernel
end
section
/-! runs -/
set_option maxRecDepth 1000000 in
theorem s_run_18_12 : s_chk s_P 20000 0 0 [(0, (4, 0, 0))] [] [] (((s_iv.set 21 (18, 18)).set 22 (6, 6)).set 2 (12, 12)) 0 0 s_fin = true := by decide +kernel
set_option maxRecDepth 1000000 in
theorem s_run_18_13 : s_chk s_P 20000 0 0 [(0, (4, 0, 0))] [] [] (((s_iv.set 21 (18, 18)).set 22 (6, 6)).set 2 (13, 13)) 0 0 s_fin = true := by decide +kernel
set_option maxRecDepth 1000000 in
theorem s_run_18_14 : s_chk s_P 20000 0 0 [(0, (4, 0, 0))] [] [] (((s_iv.set 21 (18, 18)).set 22 (6, 6)).set 2 (14, 14)) 0 0 s_fin = true := by decide +kernel
set_option maxRecDepth 1000000 in
theorem s_run_18_15 : s_chk s_P 20000 0 0 [(0, (4, 0, 0))] [] [] (((s_iv.set 21 (18, 18)).set 22 (6, 6)).set 2 (15, 15)) 0 0 s_fin = true := by decide +kernel
set_option maxRecDepth 1000000 in
theorem s_run_18_16 : s_chk s_P 20000 0 0 [(0, (4, 0, 0))] [] [] (((s_iv.set 21 (18, 18)).set 22 (6, 6)).set 2 (16, 16)) 0 0 s_fin = true := by decide +kernel
set_option maxRecDepth 1000000 in
theorem s_run_18_17 : s_chk s_P 20000 0 0 [(0, (4, 0, 0))] [] [] (((s_iv.set 21 (18, 18)).set 22 (6, 6)).set 2 (17, 17)) 0 0 s_fin = true := by decide +kernel
end
section
/-! runs -/
set_option maxRecDepth 1000000 in
theorem s_run_18_18 : s_chk s_P 20000 0 0 [(0, (4, 0, 0))] [] [] (((s_iv.set 21 (18, 18)).set 22 (6, 6)).set 2 (18, 18)) 0 0 s_fin = true := by decide +kernel
set_option maxRecDepth 1000000 in
theorem s_run_18_19 : s_chk s_P 20000 0 0 [(0, (4, 0, 0))] [] [] (((s_iv.set 21 (18, 18)).set 22 (6, 6)).set 2 (19, 19)) 0 0 s_fin = true := by decide +kernel
set_option maxRecDepth 1000000 in
theorem s_run_18_20 : s_chk s_P 20000 0 0 [(0, (4, 0, 0))] [] [] (((s_iv.set 21 (18, 18)).set 22 (6, 6)).set 2 (20, 20)) 0 0 s_fin = true := by decide +kernel
set_option maxRecDepth 1000000 in
theorem s_run_18_21 : s_chk s_P 20000 0 0 [(0, (4, 0, 0))] [] [] (((s_iv.set 21 (18, 18)).set 22 (6, 6)).set 2 (21, 21)) 0 0 s_fin = true := by decide +kernel
set_option maxRecDepth 1000000 in
theorem s_run_18_22 : s_chk s_P 20000 0 0 [(0, (4, 0, 0))] [] [] (((s_iv.set 21 (18, 18)).set 22 (6, 6)).set 2 (22, 22)) 0 0 s_fin = true := by decide +kernel
set_option maxRecDepth 1000000 in
theorem s_run_18_23 : s_chk s_P 20000 0 0 [(0, (4, 0, 0))] [] [] (((s_iv.set 21 (18, 18)).set 22 (6, 6)).set 2 (23, 23)) 0 0 s_fin = true := by decide +kernel
end
section
/-! runs -/
set_option maxRecDepth 1000000 in
theorem s_run_18_24 : s_chk s_P 20000 0 0 [(0, (4, 0, 0))] [] [] (((s_iv.set 21 (18, 18)).set 22 (6, 6)).set 2 (24, 24)) 0 0 s_fin = true := by decide +kernel
set_option maxRecDepth 1000000 in
theorem s_run_18_25 : s_chk s_P 20000 0 0 [(0, (4, 0, 0))] [] [] (((s_iv.set 21 (18, 18)).set 22 (6, 6)).set 2 (25, 25)) 0 0 s_fin = true := by decide +kernel
set_option maxRecDepth 1000000 in
theorem s_run_18_26 : s_chk s_P 20000 0 0 [(0, (4, 0, 0))] [] [] (((s_iv.set 21 (18, 18)).set 22 (6, 6)).set 2 (26, 26)) 0 0 s_fin = true := by decide +kernel
set_option maxRecDepth 1000000 in
theorem s_run_18_27 : s_chk s_P 20000 0 0 [(0, (4, 0, 0))] [] [] (((s_iv.set 21 (18, 18)).set 22 (6, 6)).set 2 (27, 27)) 0 0 s_fin = true := by decide +kernel
set_option maxRecDepth 1000000 in
theorem s_run_18_28 : s_chk s_P 20000 0 0 [(0, (4, 0, 0))] [] [] (((s_iv.set 21 (18, 18)).set 22 (6, 6)).set 2 (28, 28)) 0 0 s_fin = true := by decide +kernel
set_option maxRecDepth 1000000 in
theorem s_run_18_29 : s_chk s_P 20000 0 0 [(0, (4, 0, 0))] [] [] (((s_iv.set 21 (18, 18)).set 22 (6, 6)).set 2 (29, 29)) 0 0 s_fin = true := by decide +kernel
end
section
/-! runs -/
set_option maxRecDepth 1000000 in
theorem s_run_18_30 : s_chk s_P 20000 0 0 [(0, (4, 0, 0))] [] [] (((s_iv.set 21 (18, 18)).set 22 (6, 6)).set 2 (30, 30)) 0 0 s_fin = true := by decide +kernel
set_option maxRecDepth 1000000 in
theorem s_run_18h : s_chk s_P 20000 0 0 [(0, (4, 0, 0))] [] [] (((s_iv.set 21 (18, 18)).set 22 (6, 6)).set 2 (31, 2147483647)) 0 0 s_fin = true := by decide +kernel
set_option maxRecDepth 1000000 in
theorem s_run_19 : s_chk s_P 20000 0 0 [(0, (4, 0, 0))] [] [] ((s_iv.set 21 (19, 19)).set 22 (6, 6)) 0 0 s_fin = true := by decide +kernel
set_option maxRecDepth 1000000 in
theorem s_run_20 : s_chk s_P 20000 0 0 [(0, (4, 0, 0))] [] [] ((s_iv.set 21 (20, 20)).set 22 (6, 6)) 0 0 s_fin = true := by decide +kernel
set_option maxRecDepth 1000000 in
theorem s_run_21 : s_chk s_P 20000 0 0 [(0, (4, 0, 0))] [] [] ((s_iv.set 21 (21, 21)).set 22 (6, 6)) 0 0 s_fin = true := by decide +kernel
set_option maxRecDepth 1000000 in
theorem s_run_22 : s_chk s_P 20000 0 0 [(0, (4, 0, 0))] [] [] ((s_iv.set 21 (22, 22)).set 22 (6, 6)) 0 0 s_fin = true := by decide +kernel
end
section
/-! runs -/
set_option maxRecDepth 1000000 in
theorem s_run_23 : s_chk s_P 20000 0 0 [(0, (4, 0, 0))] [] [] ((s_iv.set 21 (23, 23)).set 22 (6, 6)) 0 0 s_fin = true := by decide +kernel
set_option maxRecDepth 1000000 in
theorem s_run_24 : s_chk s_P 20000 0 0 [(0, (4, 0, 0))] [] [] ((s_iv.set 21 (24, 24)).set 22 (6, 6)) 0 0 s_fin = true := by decide +kernel
set_option maxRecDepth 1000000 in
theorem s_run_25 : s_chk s_P 20000 0 0 [(0, (4, 0, 0))] [] [] ((s_iv.set 21 (25, 25)).set 22 (6, 6)) 0 0 s_fin = true := by decide +kernel
set_option maxRecDepth 1000000 in
theorem s_run_26 : s_chk s_P 20000 0 0 [(0, (4, 0, 0))] [] [] ((s_iv.set 21 (26, 26)).set 22 (6, 6)) 0 0 s_fin = true := by decide +kernel
set_option maxRecDepth 1000000 in
theorem s_run_27 : s_chk s_P 20000 0 0 [(0, (4, 0, 0))] [] [] ((s_iv.set 21 (27, 27)).set 22 (6, 6)) 0 0 s_fin = true := by decide +kernel
set_option maxRecDepth 1000000 in
theorem s_run_28 : s_chk s_P 20000 0 0 [(0, (4, 0, 0))] [] [] ((s_iv.set 21 (28, 28)).set 22 (6, 6)) 0 0 s_fin = true := by decide +kernel
end
section
/-! runs -/
set_option maxRecDepth 1000000 in
theorem s_run_29 : s_chk s_P 20000 0 0 [(0, (4, 0, 0))] [] [] ((s_iv.set 21 (29, 29)).set 22 (6, 6)) 0 0 s_fin = true := by decide +kernel
set_option maxRecDepth 1000000 in
theorem s_run_30 : s_chk s_P 20000 0 0 [(0, (4, 0, 0))] [] [] ((s_iv.set 21 (30, 30)).set 22 (6, 6)) 0 0 s_fin = true := by decide +kernel
set_option maxRecDepth 1000000 in
theorem s_run_31 : s_chk s_P 20000 0 0 [(0, (4, 0, 0))] [] [] ((s_iv.set 21 (31, 31)).set 22 (6, 6)) 0 0 s_fin = true := by decide +kernel
set_option maxRecDepth 1000000 in
theorem s_run_32 : s_chk s_P 20000 0 0 [(0, (4, 0, 0))] [] [] ((s_iv.set 21 (32, 32)).set 22 (6, 6)) 0 0 s_fin = true := by decide +kernel
set_option maxRecDepth 1000000 in
theorem s_run_33 : s_chk s_P 20000 0 0 [(0, (4, 0, 0))] [] [] ((s_iv.set 21 (33, 33)).set 22 (6, 6)) 0 0 s_fin = true := by decide +kernel
set_option maxRecDepth 1000000 in
theorem s_run_34 : s_chk s_P 20000 0 0 [(0, (4, 0, 0))] [] [] ((s_iv.set 21 (34, 34)).set 22 (6, 6)) 0 0 s_fin = true := by decide +kernel
end
section
/-! runs -/
set_option maxRecDepth 1000000 in
theorem s_run_35 : s_chk s_P 20000 0 0 [(0, (4, 0, 0))] [] [] ((s_iv.set 21 (35, 35)).set 22 (6, 6)) 0 0 s_fin = true := by decide +kernel
set_option maxRecDepth 1000000 in
theorem s_run_36 : s_chk s_P 20000 0 0 [(0, (4, 0, 0))] [] [] ((s_iv.set 21 (36, 36)).set 22 (6, 6)) 0 0 s_fin = true := by decide +kernel
set_option maxRecDepth 1000000 in
theorem s_run_37 : s_chk s_P 20000 0 0 [(0, (4, 0, 0))] [] [] ((s_iv.set 21 (37, 37)).set 22 (6, 6)) 0 0 s_fin = true := by decide +kernel
set_option maxRecDepth 1000000 in
theorem s_run_38 : s_chk s_P 20000 0 0 [(0, (4, 0, 0))] [] [] ((s_iv.set 21 (38, 38)).set 22 (6, 6)) 0 0 s_fin = true := by decide +kernel
set_option maxRecDepth 1000000 in
theorem s_run_39 : s_chk s_P 20000 0 0 [(0, (4, 0, 0))] [] [] ((s_iv.set 21 (39, 39)).set 22 (6, 6)) 0 0 s_fin = true := by decide +kernel
set_option maxRecDepth 1000000 in
theorem s_run_40 : s_chk s_P 20000 0 0 [(0, (4, 0, 0))] [] [] ((s_iv.set 21 (40, 40)).set 22 (6, 6)) 0 0 s_fin = true := by decide +kernel
end
section
/-! runs -/
set_option maxRecDepth 1000000 in
theorem s_run_41 : s_chk s_P 20000 0 0 [(0, (4, 0, 0))] [] [] ((s_iv.set 21 (41, 41)).set 22 (6, 6)) 0 0 s_fin = true := by decide +kernel
set_option maxRecDepth 1000000 in
theorem s_run_42 : s_chk s_P 20000 0 0 [(0, (4, 0, 0))] [] [] ((s_iv.set 21 (42, 42)).set 22 (6, 6)) 0 0 s_fin = true := by decide +kernel
set_option maxRecDepth 1000000 in
theorem s_run_43 : s_chk s_P 20000 0 0 [(0, (4, 0, 0))] [] [] ((s_iv.set 21 (43, 43)).set 22 (6, 6)) 0 0 s_fin = true := by decide +kernel
set_option maxRecDepth 1000000 in
theorem s_run_x : s_chk s_P 20000 0 0 [(0, (4, 0, 0))] [] [] ((s_iv.set 21 (44, 63)).set 22 (6, 6)) 0 0 s_fin = true := by decide +kernel
set_option maxRecDepth 1000000 in
theorem s_run_s : s_chk s_P 20000 0 0 [(0, (4, 0, 0))] [] [] (s_iv.set 22 (0, 5)) 0 0 s_fin = true := by decide +kernel
end
section
/-! THE START: what the law's entry gives the runner -/
section S24
/-- a part of a conjunction, by its road -/
def s_pk : List Bool → Cond → Option Cond
  | [], T => some T
  | false :: r, .and a _ => s_pk r a
  | true :: r, .and _ b => s_pk r b
  | _ :: _, _ => none
theorem s_pk_v {args : Array Value} {s : State} : ∀ {r : List Bool} {T w : Cond}, s_pk r T = some w → T.before args s = true → w.before args s = true
  | [], T, w, h, hT => by
    unfold s_pk at h
    cases h
    exact hT
  | b :: r, T, w, h, hT => by
    unfold s_pk at h
    split at h
    · next e => cases e
    · next e =>
      cases e
      rw [Cond.before_and, Bool.and_eq_true] at hT
      exact s_pk_v h hT.1
    · next e =>
      cases e
      rw [Cond.before_and, Bool.and_eq_true] at hT
      exact s_pk_v h hT.2
    · cases h
def s_uw : List (Nat × List Nat) := [(722, [724, 726, 1945, 1947]), (1534, [1556, 1558, 1560, 1562]), (2042, [2051]), (2060, [2066]), (2415, [2421]), (949, [956, 957, 958, 959, 960, 961]), (1812, [1951, 1952, 1953, 1954, 1955, 1956]), (1640, [1649, 1651, 1653, 1655]), (177, [202, 198, 200]), (774, [921, 923, 925, 927, 929, 931, 933, 935, 937, 939, 941]), (776, [800, 802, 804, 806, 808, 810, 812, 814, 816, 818, 820]), (171, [206]), (427, [836, 838, 840]), (861, [879, 881, 883, 885, 887, 889, 891, 893, 895]), (844, [853, 855, 857]), (210, [222, 224, 226, 228, 230, 232]), (525, [538, 540, 542, 544, 546]), (269, [283, 285, 287, 289, 291, 293]), (240, [255, 257, 259, 261, 263, 265]), (163, [307, 309, 311, 313, 315, 317, 319, 321, 323, 325, 327]), (2082, [2138, 2140, 2142, 2144, 2146, 2148, 2150, 2152, 2154, 2156, 2158, 2160, 2162, 2164, 2166, 2168, 2170, 2172, 2174, 2176, 2178, 2180, 2182, 2184, 2186, 2188, 2190]), (1603, [1612]), (1526, [1574, 1576, 1578, 1580, 1582, 1584, 1586, 1588, 1590])]
def s_uok (ci : Nat) : Bool := match vwCl[ci]? with
  | some r => match s_uw[ci]? with
    | some q => s_wat q.1 (.instantiable r.1 r.2.2) && s_pre (u_ws r.1 r.2.1 r.2.2) q.2
    | none => false
  | none => false
theorem s_uok_0 : (List.range 9).all (fun i => s_uok (i + 0)) = true := by decide +kernel
theorem s_uok_1 : (List.range 6).all (fun i => s_uok (i + 9)) = true := by decide +kernel
theorem s_uok_2 : (List.range 5).all (fun i => s_uok (i + 15)) = true := by decide +kernel
theorem s_uok_3 : (List.range 1).all (fun i => s_uok (i + 20)) = true := by decide +kernel
theorem s_uok_4 : (List.range 2).all (fun i => s_uok (i + 21)) = true := by decide +kernel
theorem s_uoks {ci : Nat} (h : ci < 23) : s_uok ci = true := by
  have hc : (0 ≤ ci ∧ ci < 9) ∨ (9 ≤ ci ∧ ci < 15) ∨ (15 ≤ ci ∧ ci < 20) ∨ (20 ≤ ci ∧ ci < 21) ∨ (21 ≤ ci ∧ ci < 23) := by omega
  rcases hc with hc | hc | hc | hc | hc
  · have h9 : s_uok (ci - 0 + 0) = true := List.all_eq_true.mp s_uok_0 (ci - 0) (List.mem_range.mpr (by omega))
    rwa [show ci - 0 + 0 = ci by omega] at h9
  · have h9 : s_uok (ci - 9 + 9) = true := List.all_eq_true.mp s_uok_1 (ci - 9) (List.mem_range.mpr (by omega))
    rwa [show ci - 9 + 9 = ci by omega] at h9
  · have h9 : s_uok (ci - 15 + 15) = true := List.all_eq_true.mp s_uok_2 (ci - 15) (List.mem_range.mpr (by omega))
    rwa [show ci - 15 + 15 = ci by omega] at h9
  · have h9 : s_uok (ci - 20 + 20) = true := List.all_eq_true.mp s_uok_3 (ci - 20) (List.mem_range.mpr (by omega))
    rwa [show ci - 20 + 20 = ci by omega] at h9
  · have h9 : s_uok (ci - 21 + 21) = true := List.all_eq_true.mp s_uok_4 (ci - 21) (List.mem_range.mpr (by omega))
    rwa [show ci - 21 + 21 = ci by omega] at h9
theorem s_kn {s : State} {args : Array Value} (hts : ∀ w ∈ s_tbl, w.before args s = true) {ci : Nat} {r : vw_C} (hr : vwCl[ci]? = some r) : ∃ (cC : ClassId) (iS : Nat → Nat), u_Kn s r.1 r.2.1 r.2.2 cC iS := by
  have h := s_uoks (ci := ci) ((List.getElem?_eq_some_iff.mp hr).1)
  unfold s_uok at h
  rw [hr] at h
  dsimp only at h
  split at h
  · next q hq =>
    rw [Bool.and_eq_true] at h
    exact u_known hts (fun w hw => (List.mem_filter.mp (s_pre_v h.2 w hw)).1) (hts _ (s_wat_v h.1))
  · cases h
theorem s_knD {s : State} {args : Array Value} (hts : ∀ w ∈ s_tbl, w.before args s = true) : ∃ D : va_G, ∀ (c : Nat) (q : vw_C), vwCl[c]? = some q → u_Kn s q.1 q.2.1 q.2.2 (D.1 c) (D.2 c) := by
  have h0 : ∀ c : Nat, ∃ z : ClassId × (Nat → Nat), ∀ q : vw_C, vwCl[c]? = some q → u_Kn s q.1 q.2.1 q.2.2 z.1 z.2 := by
    intro c
    cases hq : vwCl[c]? with
    | none => exact ⟨((0 : Nat), fun _ => 0), fun q h => by cases h⟩
    | some r =>
      obtain ⟨cC, iS, h⟩ := s_kn hts hq
      exact ⟨(cC, iS), fun q e => by cases e; exact h⟩
  obtain ⟨f, hf⟩ := Classical.axiomOfChoice h0
  exact ⟨(fun c => (f c).1, fun c => (f c).2), fun c q hq => hf c q hq⟩
theorem s_tyO {s : State} {args : Array Value} (h : (Cond.arrayOver (.object "java/lang/Object")).before args s = true) : ∃ cA : ClassId, ArrOfT s cA (.object "java/lang/Object") ∧ va_RA s cA (.object "java/lang/Object") := by
  obtain ⟨comp, cA, kA, f1, -, f2, f3, f4⟩ := Cond.arrayOver_spec h
  exact ⟨cA, fun n z => ⟨(fun k h => by cases h), kA, f2, comp, f3⟩, kA, comp, f2, f3, f1, f4⟩
theorem s_ty_int {s : State} {args : Array Value} (h : (Cond.arrayClass .int).before args s = true) : ∃ cA : ClassId, ArrOfT s cA .int ∧ va_RA s cA .int := by
  obtain ⟨cA, kA, comp, h1, h2, h3⟩ := Cond.arrayClass_spec h
  exact ⟨cA, fun n z => ⟨(fun k h => by cases h), kA, h2, comp, h3⟩, h1⟩
theorem s_ty_char {s : State} {args : Array Value} (h : (Cond.arrayClass .char).before args s = true) : ∃ cA : ClassId, ArrOfT s cA .char ∧ va_RA s cA .char := by
  obtain ⟨cA, kA, comp, h1, h2, h3⟩ := Cond.arrayClass_spec h
  exact ⟨cA, fun n z => ⟨(fun k h => by cases h), kA, h2, comp, h3⟩, h1⟩
theorem s_ty_byte {s : State} {args : Array Value} (h : (Cond.arrayClass .byte).before args s = true) : ∃ cA : ClassId, ArrOfT s cA .byte ∧ va_RA s cA .byte := by
  obtain ⟨cA, kA, comp, h1, h2, h3⟩ := Cond.arrayClass_spec h
  exact ⟨cA, fun n z => ⟨(fun k h => by cases h), kA, h2, comp, h3⟩, h1⟩
theorem s_ty_boolean {s : State} {args : Array Value} (h : (Cond.arrayClass .boolean).before args s = true) : ∃ cA : ClassId, ArrOfT s cA .boolean ∧ va_RA s cA .boolean := by
  obtain ⟨cA, kA, comp, h1, h2, h3⟩ := Cond.arrayClass_spec h
  exact ⟨cA, fun n z => ⟨(fun k h => by cases h), kA, h2, comp, h3⟩, h1⟩
theorem s_ty_long {s : State} {args : Array Value} (h : (Cond.arrayClass .long).before args s = true) : ∃ cA : ClassId, ArrOfT s cA .long ∧ va_RA s cA .long := by
  obtain ⟨cA, kA, comp, h1, h2, h3⟩ := Cond.arrayClass_spec h
  exact ⟨cA, fun n z => ⟨(fun k h => by cases h), kA, h2, comp, h3⟩, h1⟩
theorem s_ty_double {s : State} {args : Array Value} (h : (Cond.arrayClass .double).before args s = true) : ∃ cA : ClassId, ArrOfT s cA .double ∧ va_RA s cA .double := by
  obtain ⟨cA, kA, comp, h1, h2, h3⟩ := Cond.arrayClass_spec h
  exact ⟨cA, fun n z => ⟨(fun k h => by cases h), kA, h2, comp, h3⟩, h1⟩
theorem s_tyT {s : State} {args : Array Value} (hts : ∀ w ∈ s_tbl, w.before args s = true) : ∃ tc : Nat → ClassId, ∀ (k : Nat) (q : ClassId × FieldType), (s_tys tc)[k]? = some q → ArrOfT s q.1 q.2 ∧ va_RA s q.1 q.2 := by
  obtain ⟨c0, k0⟩ := s_ty_int (args := args) (hts _ (s_wat_v (i := 236) (w := (Jvm.Cond.arrayClass Jvm.ClassFile.FieldType.int)) (by decide +kernel)))
  obtain ⟨c1, k1⟩ := s_ty_char (args := args) (hts _ (s_wat_v (i := 235) (w := (Jvm.Cond.arrayClass Jvm.ClassFile.FieldType.char)) (by decide +kernel)))
  obtain ⟨c2, k2⟩ := s_ty_byte (args := args) (hts _ (s_wat_v (i := 723) (w := (Jvm.Cond.arrayClass Jvm.ClassFile.FieldType.byte)) (by decide +kernel)))
  obtain ⟨c3, k3⟩ := s_ty_boolean (args := args) (hts _ (s_wat_v (i := 2299) (w := (Jvm.Cond.arrayClass Jvm.ClassFile.FieldType.boolean)) (by decide +kernel)))
  obtain ⟨c4, k4⟩ := s_ty_long (args := args) (hts _ (s_wat_v (i := 898) (w := (Jvm.Cond.arrayClass Jvm.ClassFile.FieldType.long)) (by decide +kernel)))
  obtain ⟨c5, k5⟩ := s_ty_double (args := args) (hts _ (s_wat_v (i := 2570) (w := (Jvm.Cond.arrayClass Jvm.ClassFile.FieldType.double)) (by decide +kernel)))
  obtain ⟨c6, k6⟩ := s_tyO (args := args) (hts _ (s_wat_v (i := 613) (w := (Jvm.Cond.arrayOver (Jvm.ClassFile.FieldType.object "java/lang/Object"))) (by decide +kernel)))
  refine ⟨fun j => match j with | 0 => c0 | 1 => c1 | 2 => c2 | 3 => c3 | 4 => c4 | 5 => c5 | _ => c6, fun k q hq => ?_⟩
  unfold s_tys at hq
  match k, hq with
  | 0, hq => cases hq; exact k0
  | 1, hq => cases hq; exact k1
  | 2, hq => cases hq; exact k2
  | 3, hq => cases hq; exact k3
  | 4, hq => cases hq; exact k4
  | 5, hq => cases hq; exact k5
  | 6, hq => cases hq; exact k6
  | k + 7, hq => simp at hq
theorem s_hts {s : State} {args : Array Value} (hts : ∀ w ∈ lw_tbl, w.before args s = true) : ∀ w ∈ s_tbl, w.before args s = true := by
  intro w hw
  rcases List.mem_cons.mp hw with rfl | hw
  · exact s_selp (n := 4) ⟨by decide +kernel, by decide +kernel⟩ (hts (Jvm.Cond.instantiable "java/lang/StringBuilder" (4 : Nat)) (List.mem_append_right _ (s_cks_in (r := tables_1_6) (by simp [s_cks]) (List.mem_of_getElem? (i := 220) (by decide +kernel))))) (hts (Jvm.Cond.privateMethod ({ cls := "java/lang/AbstractStringBuilder", name := "ensureCapacityInternal", desc := "(I)V" } : Jvm.MethodName)) (List.mem_append_right _ (s_cks_in (r := tables_1_7) (by simp [s_cks]) (List.mem_of_getElem? (i := 176) (by decide +kernel))))) (hts (Jvm.Cond.instanceMethod ({ cls := "java/lang/AbstractStringBuilder", name := "ensureCapacityInternal", desc := "(I)V" } : Jvm.MethodName)) (List.mem_append_right _ (s_cks_in (r := tables_1_7) (by simp [s_cks]) (List.mem_of_getElem? (i := 177) (by decide +kernel))))) (hts (Jvm.Cond.sameMethod "java/lang/AbstractStringBuilder" "java/lang/AbstractStringBuilder" "ensureCapacityInternal" "(I)V") (List.mem_append_right _ (s_cks_in (r := tables_1_11) (by simp [s_cks]) (List.mem_of_getElem? (i := 60) (by decide +kernel)))))
  · exact hts w hw
theorem s_ncs {s : State} {args : Array Value} (hgv : (Jvm.Cond.and given_1 narrow_1).before args s = true) : ∀ a b : Nat, a < 6 → b < 6 → a ≠ b → va_Nc (s_exc a) (s_exc b) s := by
  intro a b ha hb hab
  match a, b, ha, hb, hab with
  | 0, 0, _, _, hab => exact absurd rfl hab
  | 0, 1, _, _, _ => exact va_Nc.of (s_pk_v (r := [true, false, true, true, true, false, false, false, true, false]) (w := (Jvm.Cond.not (Jvm.Cond.castable "java/lang/IllegalStateException" "java/lang/IllegalArgumentException"))) (by decide +kernel) hgv)
  | 0, 2, _, _, _ => exact va_Nc.of (s_pk_v (r := [true, true, false, false, true, false, false, true, true, true, false]) (w := (Jvm.Cond.not (Jvm.Cond.castable "java/lang/IllegalStateException" "java/lang/IndexOutOfBoundsException"))) (by decide +kernel) hgv)
  | 0, 3, _, _, _ => exact va_Nc.of (s_pk_v (r := [true, true, false, false, false, false, true, true, true, true, true]) (w := (Jvm.Cond.not (Jvm.Cond.castable "java/lang/IllegalStateException" "java/lang/ArithmeticException"))) (by decide +kernel) hgv)
  | 0, 4, _, _, _ => exact va_Nc.of (s_pk_v (r := [true, false, true, true, true, true, true, false, false, false]) (w := (Jvm.Cond.not (Jvm.Cond.castable "java/lang/IllegalStateException" "java/lang/UnsupportedOperationException"))) (by decide +kernel) hgv)
  | 0, 5, _, _, _ => exact va_Nc.of (s_pk_v (r := [true, true, false, false, true, true, true, false, true, true, true]) (w := (Jvm.Cond.not (Jvm.Cond.castable "java/lang/IllegalStateException" "java/util/NoSuchElementException"))) (by decide +kernel) hgv)
  | 1, 0, _, _, _ => exact va_Nc.of (s_pk_v (r := [true, false, true, true, false, false, true, true, false, true]) (w := (Jvm.Cond.not (Jvm.Cond.castable "java/lang/IllegalArgumentException" "java/lang/IllegalStateException"))) (by decide +kernel) hgv)
  | 1, 1, _, _, hab => exact absurd rfl hab
  | 1, 2, _, _, _ => exact va_Nc.of (s_pk_v (r := [true, true, false, false, true, false, true, false, false, true]) (w := (Jvm.Cond.not (Jvm.Cond.castable "java/lang/IllegalArgumentException" "java/lang/IndexOutOfBoundsException"))) (by decide +kernel) hgv)
  | 1, 3, _, _, _ => exact va_Nc.of (s_pk_v (r := [true, true, false, false, false, true, false, false, true, false]) (w := (Jvm.Cond.not (Jvm.Cond.castable "java/lang/IllegalArgumentException" "java/lang/ArithmeticException"))) (by decide +kernel) hgv)
  | 1, 4, _, _, _ => exact va_Nc.of (s_pk_v (r := [true, false, true, true, true, true, true, false, true, true, false]) (w := (Jvm.Cond.not (Jvm.Cond.castable "java/lang/IllegalArgumentException" "java/lang/UnsupportedOperationException"))) (by decide +kernel) hgv)
  | 1, 5, _, _, _ => exact va_Nc.of (s_pk_v (r := [true, true, false, false, true, true, true, true, true, false]) (w := (Jvm.Cond.not (Jvm.Cond.castable "java/lang/IllegalArgumentException" "java/util/NoSuchElementException"))) (by decide +kernel) hgv)
  | 2, 0, _, _, _ => exact va_Nc.of (s_pk_v (r := [true, false, true, true, false, true, true, false, true, false]) (w := (Jvm.Cond.not (Jvm.Cond.castable "java/lang/IndexOutOfBoundsException" "java/lang/IllegalStateException"))) (by decide +kernel) hgv)
  | 2, 1, _, _, _ => exact va_Nc.of (s_pk_v (r := [true, false, true, true, true, true, false, false, false, false]) (w := (Jvm.Cond.not (Jvm.Cond.castable "java/lang/IndexOutOfBoundsException" "java/lang/IllegalArgumentException"))) (by decide +kernel) hgv)
  | 2, 2, _, _, hab => exact absurd rfl hab
  | 2, 3, _, _, _ => exact va_Nc.of (s_pk_v (r := [true, true, false, false, false, true, true, true, true, false]) (w := (Jvm.Cond.not (Jvm.Cond.castable "java/lang/IndexOutOfBoundsException" "java/lang/ArithmeticException"))) (by decide +kernel) hgv)
  | 2, 4, _, _, _ => exact va_Nc.of (s_pk_v (r := [true, true, false, false, false, false, false, true, true, true, true]) (w := (Jvm.Cond.not (Jvm.Cond.castable "java/lang/IndexOutOfBoundsException" "java/lang/UnsupportedOperationException"))) (by decide +kernel) hgv)
  | 2, 5, _, _, _ => exact va_Nc.of (s_pk_v (r := [true, true, false, true, false, false, true, false, true, true, false]) (w := (Jvm.Cond.not (Jvm.Cond.castable "java/lang/IndexOutOfBoundsException" "java/util/NoSuchElementException"))) (by decide +kernel) hgv)
  | 3, 0, _, _, _ => exact va_Nc.of (s_pk_v (r := [true, false, true, true, false, true, false, false, false, false]) (w := (Jvm.Cond.not (Jvm.Cond.castable "java/lang/ArithmeticException" "java/lang/IllegalStateException"))) (by decide +kernel) hgv)
  | 3, 1, _, _, _ => exact va_Nc.of (s_pk_v (r := [true, false, true, true, true, false, false, true, true, true, false]) (w := (Jvm.Cond.not (Jvm.Cond.castable "java/lang/ArithmeticException" "java/lang/IllegalArgumentException"))) (by decide +kernel) hgv)
  | 3, 2, _, _, _ => exact va_Nc.of (s_pk_v (r := [true, true, false, false, true, false, true, true, false, false]) (w := (Jvm.Cond.not (Jvm.Cond.castable "java/lang/ArithmeticException" "java/lang/IndexOutOfBoundsException"))) (by decide +kernel) hgv)
  | 3, 3, _, _, hab => exact absurd rfl hab
  | 3, 4, _, _, _ => exact va_Nc.of (s_pk_v (r := [true, false, true, true, true, true, true, true, false, true]) (w := (Jvm.Cond.not (Jvm.Cond.castable "java/lang/ArithmeticException" "java/lang/UnsupportedOperationException"))) (by decide +kernel) hgv)
  | 3, 5, _, _, _ => exact va_Nc.of (s_pk_v (r := [true, true, false, true, false, false, false, false, false, false]) (w := (Jvm.Cond.not (Jvm.Cond.castable "java/lang/ArithmeticException" "java/util/NoSuchElementException"))) (by decide +kernel) hgv)
  | 4, 0, _, _, _ => exact va_Nc.of (s_pk_v (r := [true, false, true, true, false, false, true, true, true, false]) (w := (Jvm.Cond.not (Jvm.Cond.castable "java/lang/UnsupportedOperationException" "java/lang/IllegalStateException"))) (by decide +kernel) hgv)
  | 4, 1, _, _, _ => exact va_Nc.of (s_pk_v (r := [true, false, true, true, true, false, false, true, false, false]) (w := (Jvm.Cond.not (Jvm.Cond.castable "java/lang/UnsupportedOperationException" "java/lang/IllegalArgumentException"))) (by decide +kernel) hgv)
  | 4, 2, _, _, _ => exact va_Nc.of (s_pk_v (r := [true, true, false, false, true, false, true, false, true, false]) (w := (Jvm.Cond.not (Jvm.Cond.castable "java/lang/UnsupportedOperationException" "java/lang/IndexOutOfBoundsException"))) (by decide +kernel) hgv)
  | 4, 3, _, _, _ => exact va_Nc.of (s_pk_v (r := [true, true, false, false, false, true, false, false, true, true, false]) (w := (Jvm.Cond.not (Jvm.Cond.castable "java/lang/UnsupportedOperationException" "java/lang/ArithmeticException"))) (by decide +kernel) hgv)
  | 4, 4, _, _, hab => exact absurd rfl hab
  | 4, 5, _, _, _ => exact va_Nc.of (s_pk_v (r := [true, true, false, false, true, true, true, true, true, true, false]) (w := (Jvm.Cond.not (Jvm.Cond.castable "java/lang/UnsupportedOperationException" "java/util/NoSuchElementException"))) (by decide +kernel) hgv)
  | 5, 0, _, _, _ => exact va_Nc.of (s_pk_v (r := [true, false, true, true, false, false, true, true, true, true, true]) (w := (Jvm.Cond.not (Jvm.Cond.castable "java/util/NoSuchElementException" "java/lang/IllegalStateException"))) (by decide +kernel) hgv)
  | 5, 1, _, _, _ => exact va_Nc.of (s_pk_v (r := [true, false, true, true, true, false, false, true, true, false]) (w := (Jvm.Cond.not (Jvm.Cond.castable "java/util/NoSuchElementException" "java/lang/IllegalArgumentException"))) (by decide +kernel) hgv)
  | 5, 2, _, _, _ => exact va_Nc.of (s_pk_v (r := [true, true, false, false, true, false, true, false, true, true, true]) (w := (Jvm.Cond.not (Jvm.Cond.castable "java/util/NoSuchElementException" "java/lang/IndexOutOfBoundsException"))) (by decide +kernel) hgv)
  | 5, 3, _, _, _ => exact va_Nc.of (s_pk_v (r := [true, true, false, false, false, true, false, true, false, false]) (w := (Jvm.Cond.not (Jvm.Cond.castable "java/util/NoSuchElementException" "java/lang/ArithmeticException"))) (by decide +kernel) hgv)
  | 5, 4, _, _, _ => exact va_Nc.of (s_pk_v (r := [true, false, true, true, true, true, true, true, false, false]) (w := (Jvm.Cond.not (Jvm.Cond.castable "java/util/NoSuchElementException" "java/lang/UnsupportedOperationException"))) (by decide +kernel) hgv)
  | 5, 5, _, _, hab => exact absurd rfl hab
  | _ + 6, _, ha, _, _ => exact absurd ha (by omega)
  | _, _ + 6, _, hb, _ => exact absurd hb (by omega)
theorem s_nk_of {s : State} {args : Array Value} {w : Cond} (hk : s_nk w = true) (h : w.before args s = true) : va_Nw w s := by
  cases w <;> first | exact va_Nw.of rfl h | exact absurd hk (by simp [s_nk])
/-- the four signs' text -/
theorem s_fgs {s : State} {args : Array Value} (hgv : (Jvm.Cond.and given_1 narrow_1).before args s = true) {A : Nat → Prop} (hA : ∀ a : Nat, a < s.heap.size → ¬ A a) :
    ∃ a2 a3 : Nat, (Jvm.Term.string "TaperhallModel" (361 : Nat)).eval args s none [] s = some (.ref a2) ∧ va_O "java/lang/String" a2 A s s.heap ∧ va_OF "java/lang/String" "coder" "B" (.int 0) a2 A s s.heap ∧ va_OF "java/lang/String" "value" "[B" (.ref a3) a2 A s s.heap ∧ va_T .byte a3 4 (fun j => .int (Int32.ofInt (s_fg j))) A s s.heap := by
  obtain ⟨aK, aV, ⟨h1, -⟩, h2⟩ := vk_Sof (args := args) (s := s) (N := 1) (tm := fun _ => (Jvm.Term.string "TaperhallModel" (361 : Nat))) (len := [4]) (byt := [[102, 103, 98, 101]]) (A := A)
    (fun i hi => by rw [show i = 0 by omega]; decide)
    (fun i hi => (s_pk_v (r := [true, true, true, false, true, true, true, false, true, true, false]) (w := (Jvm.Cond.exactly (Jvm.Term.string "TaperhallModel" (361 : Nat)) "java/lang/String")) (by decide +kernel) hgv))
    (fun i hi => (s_pk_v (r := [true, true, true, false, true, true, true, false, true, true, true]) (w := (Jvm.Cond.eq (Jvm.Term.field (Jvm.Term.string "TaperhallModel" (361 : Nat)) "java/lang/String" "coder" "B") (Jvm.Term.int (0 : Int32)))) (by decide +kernel) hgv))
    (fun i hi => (s_pk_v (r := [true, true, true, false, true, true, true, true, false, false]) (w := (Jvm.Cond.arrayOf (Jvm.Term.field (Jvm.Term.string "TaperhallModel" (361 : Nat)) "java/lang/String" "value" "[B") Jvm.ClassFile.FieldType.byte)) (by decide +kernel) hgv))
    (fun i hi => by rw [show i = 0 by omega]; exact (s_pk_v (r := [true, true, true, false, true, true, true, true, false, true]) (w := (Jvm.Cond.eq (Jvm.Term.length (Jvm.Term.field (Jvm.Term.string "TaperhallModel" (361 : Nat)) "java/lang/String" "value" "[B")) (Jvm.Term.int (4 : Int32)))) (by decide +kernel) hgv))
    (fun i hi j hj => by
      have hi0 : i = 0 := by omega
      subst hi0
      match j, hj with
      | 0, _ => exact (s_pk_v (r := [true, true, true, false, true, true, true, true, true, false]) (w := (Jvm.Cond.eq (Jvm.Term.elem (Jvm.Term.field (Jvm.Term.string "TaperhallModel" (361 : Nat)) "java/lang/String" "value" "[B") (Jvm.Term.int (0 : Int32))) (Jvm.Term.int (102 : Int32)))) (by decide +kernel) hgv)
      | 1, _ => exact (s_pk_v (r := [true, true, true, false, true, true, true, true, true, true, false]) (w := (Jvm.Cond.eq (Jvm.Term.elem (Jvm.Term.field (Jvm.Term.string "TaperhallModel" (361 : Nat)) "java/lang/String" "value" "[B") (Jvm.Term.int (1 : Int32))) (Jvm.Term.int (103 : Int32)))) (by decide +kernel) hgv)
      | 2, _ => exact (s_pk_v (r := [true, true, true, false, true, true, true, true, true, true, true]) (w := (Jvm.Cond.eq (Jvm.Term.elem (Jvm.Term.field (Jvm.Term.string "TaperhallModel" (361 : Nat)) "java/lang/String" "value" "[B") (Jvm.Term.int (2 : Int32))) (Jvm.Term.int (98 : Int32)))) (by decide +kernel) hgv)
      | 3, _ => exact (s_pk_v (r := [true, true, true, true, false, false, false, false, false, false]) (w := (Jvm.Cond.eq (Jvm.Term.elem (Jvm.Term.field (Jvm.Term.string "TaperhallModel" (361 : Nat)) "java/lang/String" "value" "[B") (Jvm.Term.int (3 : Int32))) (Jvm.Term.int (101 : Int32)))) (by decide +kernel) hgv)
      | j + 4, hj => exact absurd hj (by show ¬ j + 4 < 4; omega))
    (fun i j hi hj hij => absurd (show i = j by omega) hij) hA
  obtain ⟨b1, b2, b3, b4⟩ := h1 0 (Nat.lt_succ_self 0)
  refine ⟨aK 0, aV 0, h2 0 (Nat.lt_succ_self 0), b1, b2, b3, ?_⟩
  obtain ⟨cell, c1, c2, c3, c4, c5, c6, c7⟩ := b4
  refine ⟨cell, c1, c2, c3, c4, c5, fun j hj => ?_, c7⟩
  rw [c6 j hj]
  match j, hj with
  | 0, _ => rfl
  | 1, _ => rfl
  | 2, _ => rfl
  | 3, _ => rfl
  | j + 4, hj => exact absurd hj (by omega)
def s_xs (L : Nat) (xs : Nat → Int32) : Nat → Int32 := fun j => if j < 7 then xs j else Int32.ofNat L
theorem s_env_start {s : State} {args : Array Value} {b L : Nat} {xs : Nat → Int32} (hts : ∀ w ∈ s_tbl, w.before args s = true) (hgv : (Jvm.Cond.and given_1 narrow_1).before args s = true) (hX : va_X b L xs s s.heap) (hb : b < s.heap.size) (hL : L ≤ 6) :
    ∃ (D : va_G) (tc : Nat → ClassId) (ξ : Nat → Nat), ξ 0 = b ∧ s_Env D tc ξ (s_xs L xs) (fun q => s.heap.size ≤ q) s := by
  have hA : ∀ a : Nat, a < s.heap.size → ¬ (fun q : Nat => s.heap.size ≤ q) a := fun a h => Nat.not_le.mpr h
  obtain ⟨D, hD⟩ := s_knD hts
  obtain ⟨tc, htc⟩ := s_tyT hts
  obtain ⟨a1, e1, t1⟩ := va_Tof (args := args) (s := s) (tm := (Jvm.Term.static "java/util/ArrayList" "DEFAULTCAPACITY_EMPTY_ELEMENTDATA" "[Ljava/lang/Object;")) (ty := .object "java/lang/Object") (N := 0) (f := fun _ => .null) (A := fun q => s.heap.size ≤ q) (by decide) (s_pk_v (r := [true, false, false, false, false, false, false, false, true, true]) (w := (Jvm.Cond.arrayOf (Jvm.Term.static "java/util/ArrayList" "DEFAULTCAPACITY_EMPTY_ELEMENTDATA" "[Ljava/lang/Object;") (Jvm.ClassFile.FieldType.object "java/lang/Object"))) (by decide +kernel) hgv) (va_eqt (s_pk_v (r := [true, false, false, false, false, false, false, true, false, true]) (w := (Jvm.Cond.eq (Jvm.Term.length (Jvm.Term.static "java/util/ArrayList" "DEFAULTCAPACITY_EMPTY_ELEMENTDATA" "[Ljava/lang/Object;")) (Jvm.Term.int (0 : Int32)))) (by decide +kernel) hgv)) (fun j hj => absurd hj (Nat.not_lt_zero j)) hA
  obtain ⟨a2, a3, e2, o1, o2, o3, o4⟩ := s_fgs hgv (A := fun q => s.heap.size ≤ q) hA
  refine ⟨D, tc, fun j => match j with | 0 => b | 1 => a1 | 2 => a2 | _ => a3, rfl, ⟨⟨hD, htc⟩, fun w hw hk => s_nk_of hk (hts w hw), va_Fw.of (hts _ (s_wat_v (i := 1661) (w := (Jvm.Cond.declares ({ cls := "java/util/Iterator", name := "hasNext", desc := "()Z" } : Jvm.MethodName))) (by decide +kernel))) (hts _ (s_wat_v (i := 1660) (w := (Jvm.Cond.interfaceMethod "java/util/Iterator" "java/util/Iterator" "hasNext" "()Z")) (by decide +kernel))) (hts _ (s_wat_v (i := 1666) (w := (Jvm.Cond.publicMethod ({ cls := "java/util/ArrayList$Itr", name := "hasNext", desc := "()Z" } : Jvm.MethodName))) (by decide +kernel))) (hts _ (s_wat_v (i := 1664) (w := (Jvm.Cond.unhidden "java/util/ArrayList$Itr" "hasNext" "()Z")) (by decide +kernel))) (hts _ (s_wat_v (i := 1662) (w := (Jvm.Cond.castable "java/util/ArrayList$Itr" "java/util/Iterator")) (by decide +kernel))), va_AO.of (hts _ (s_wat_v (i := 613) (w := (Jvm.Cond.arrayOver (Jvm.ClassFile.FieldType.object "java/lang/Object"))) (by decide +kernel))), vk_R.of (hts _ (s_wat_v (i := 2457) (w := (Jvm.Cond.stringRef "TaperhallModel" (361 : Nat) "fgbe")) (by decide +kernel))) e2, s_ncs hgv⟩, ⟨va_Zref (hts _ (s_wat_v (i := 189) (w := (Jvm.Cond.laysStatic "java/util/ArrayList" "DEFAULTCAPACITY_EMPTY_ELEMENTDATA" "[Ljava/lang/Object;")) (by decide +kernel))) (hts _ (s_wat_v (i := 119) (w := (Jvm.Cond.initialized "java/util/ArrayList")) (by decide +kernel))) e1 hA, t1, va_Zof (hts _ (s_wat_v (i := 1543) (w := (Jvm.Cond.laysStatic "java/lang/String" "COMPACT_STRINGS" "Z")) (by decide +kernel))) (hts _ (s_wat_v (i := 126) (w := (Jvm.Cond.initialized "java/lang/String")) (by decide +kernel))) (va_eqi (s_pk_v (r := [true, false, false, false, false, false, true, true, true, false]) (w := (Jvm.Cond.eq (Jvm.Term.static "java/lang/String" "COMPACT_STRINGS" "Z") (Jvm.Term.int (1 : Int32)))) (by decide +kernel) hgv)) hA, vx_Zqof (hts _ (s_wat_v (i := 479) (w := (Jvm.Cond.laysStatic "java/lang/Throwable" "UNASSIGNED_STACK" "[Ljava/lang/StackTraceElement;")) (by decide +kernel))) (hts _ (s_wat_v (i := 128) (w := (Jvm.Cond.initialized "java/lang/Throwable")) (by decide +kernel))) (s_pk_v (r := [true, false, false, false, false, false, false, true, true, false]) (w := (Jvm.Cond.isRef (Jvm.Term.static "java/lang/Throwable" "UNASSIGNED_STACK" "[Ljava/lang/StackTraceElement;"))) (by decide +kernel) hgv) hA, vx_Zqof (hts _ (s_wat_v (i := 481) (w := (Jvm.Cond.laysStatic "java/lang/Throwable" "SUPPRESSED_SENTINEL" "Ljava/util/List;")) (by decide +kernel))) (hts _ (s_wat_v (i := 128) (w := (Jvm.Cond.initialized "java/lang/Throwable")) (by decide +kernel))) (s_pk_v (r := [true, false, false, false, false, false, false, true, true, true, false]) (w := (Jvm.Cond.isRef (Jvm.Term.static "java/lang/Throwable" "SUPPRESSED_SENTINEL" "Ljava/util/List;"))) (by decide +kernel) hgv) hA, o1, o2, o3, o4⟩, ?_, hb, Nat.not_le.mpr hb⟩
  obtain ⟨scr, x1, x2, x3, x4, x5⟩ := hX
  have hL7 : (s_xs L xs 7).toNatClampNeg = L := by
    show (Int32.ofNat L).toNatClampNeg = L
    exact Int32.toNatClampNeg_ofNat_of_lt (by omega)
  refine ⟨scr, x1, x2, x3, by rw [hL7]; exact x4, fun j hj => ?_⟩
  rw [hL7] at hj
  rw [x5 j hj]
  unfold s_xs
  rw [if_pos (by omega)]
end S24
section S24b
theorem s_in_set {ρ : Nat → Int} {iv : sI} (h : s_in ρ iv) (v : Nat) (z : Int × Int) (hz : z.1 ≤ ρ v ∧ ρ v ≤ z.2) : s_in ρ (iv.set v z) := by
  intro j
  by_cases hj : v < iv.length
  · by_cases e : v = j
    · subst e
      simpa [List.getD_eq_getElem?_getD, List.getElem?_set_self hj] using hz
    · have := h j
      simpa [List.getD_eq_getElem?_getD, List.getElem?_set_ne e] using this
  · rw [List.set_eq_of_length_le (by omega)]
    exact h j
def s_ch (x : Int32) : Int := ((x.toUInt32 % 65536).toNat : Int)
theorem s_ch_b (x : Int32) : 0 ≤ s_ch x ∧ s_ch x ≤ 65535 := by
  unfold s_ch
  rw [UInt32.toNat_mod]
  have : x.toUInt32.toNat % 65536 < 65536 := Nat.mod_lt _ (by decide)
  show 0 ≤ ((x.toUInt32.toNat % 65536 : Nat) : Int) ∧ ((x.toUInt32.toNat % 65536 : Nat) : Int) ≤ 65535
  omega
theorem s_ch_v (x : Int32) : Int32.ofInt (s_ch x) = (x.toUInt32 % 65536).toInt32 := by
  unfold s_ch
  generalize x.toUInt32 % 65536 = u
  apply Int32.toBitVec_inj.mp
  show BitVec.ofInt 32 (u.toNat : Int) = u.toBitVec
  rw [BitVec.ofInt_natCast]
  apply BitVec.eq_of_toNat_eq
  rw [BitVec.toNat_ofNat]
  exact Nat.mod_eq_of_lt u.toBitVec.isLt
theorem s_63_b (x : Int32) : 0 ≤ (x &&& 63).toInt ∧ (x &&& 63).toInt ≤ 63 := by
  have h : (x &&& 63).toInt = (x.toBitVec &&& 63#32).toInt := rfl
  have h2 : (x.toBitVec &&& 63#32).toNat ≤ 63 := by
    rw [BitVec.toNat_and]
    exact Nat.and_le_right
  rw [h, BitVec.toInt_eq_toNat_of_lt (by omega)]
  omega
theorem s_i_b (x : Int32) : (-2147483648 : Int) ≤ x.toInt ∧ x.toInt ≤ 2147483647 := by
  have h1 := x.le_toInt
  have h2 := x.toInt_lt
  omega
def s_rho (L : Nat) (xs : Nat → Int32) (j : Nat) : Int := match j with
  | 1 => (xs 0).toInt
  | 2 => (xs 1).toInt
  | 3 => (xs 2).toInt
  | 4 => (xs 3).toInt
  | 5 => (xs 4).toInt
  | 6 => (xs 5).toInt
  | 11 => s_ch (xs 0)
  | 12 => s_ch (xs 1)
  | 13 => s_ch (xs 2)
  | 14 => s_ch (xs 3)
  | 15 => s_ch (xs 4)
  | 16 => s_ch (xs 5)
  | 21 => (xs 0 &&& 63).toInt
  | 22 => (L : Int)
  | 33 => if 256 ≤ s_ch (xs 2) then s_ch (xs 2) / 256 else 1
  | _ => 0
theorem s_in_0 {L : Nat} {xs : Nat → Int32} (hL : L ≤ 6) : s_in (s_rho L xs) s_iv := by
  intro j
  match j with
  | 0 => exact ⟨Int.le_refl 0, Int.le_refl 0⟩
  | 1 => exact s_i_b _
  | 2 => exact s_i_b _
  | 3 => exact s_i_b _
  | 4 => exact s_i_b _
  | 5 => exact s_i_b _
  | 6 => exact s_i_b _
  | 7 => exact ⟨Int.le_refl 0, Int.le_refl 0⟩
  | 8 => exact ⟨Int.le_refl 0, Int.le_refl 0⟩
  | 9 => exact ⟨Int.le_refl 0, Int.le_refl 0⟩
  | 10 => exact ⟨Int.le_refl 0, Int.le_refl 0⟩
  | 11 => exact s_ch_b _
  | 12 => exact s_ch_b _
  | 13 => exact s_ch_b _
  | 14 => exact s_ch_b _
  | 15 => exact s_ch_b _
  | 16 => exact s_ch_b _
  | 17 => exact ⟨Int.le_refl 0, Int.le_refl 0⟩
  | 18 => exact ⟨Int.le_refl 0, Int.le_refl 0⟩
  | 19 => exact ⟨Int.le_refl 0, Int.le_refl 0⟩
  | 20 => exact ⟨Int.le_refl 0, Int.le_refl 0⟩
  | 21 => exact s_63_b _
  | 22 => exact ⟨by show (0 : Int) ≤ (L : Int); omega, by show (L : Int) ≤ 6; omega⟩
  | 23 => exact ⟨Int.le_refl 0, Int.le_refl 0⟩
  | 24 => exact ⟨Int.le_refl 0, Int.le_refl 0⟩
  | 25 => exact ⟨Int.le_refl 0, Int.le_refl 0⟩
  | 26 => exact ⟨Int.le_refl 0, Int.le_refl 0⟩
  | 27 => exact ⟨Int.le_refl 0, Int.le_refl 0⟩
  | 28 => exact ⟨Int.le_refl 0, Int.le_refl 0⟩
  | 29 => exact ⟨Int.le_refl 0, Int.le_refl 0⟩
  | 30 => exact ⟨Int.le_refl 0, Int.le_refl 0⟩
  | 31 => exact ⟨Int.le_refl 0, Int.le_refl 0⟩
  | 32 => exact ⟨Int.le_refl 0, Int.le_refl 0⟩
  | 33 =>
    have h := s_ch_b (xs 2)
    show (1 : Int) ≤ (if 256 ≤ s_ch (xs 2) then s_ch (xs 2) / 256 else 1) ∧ (if 256 ≤ s_ch (xs 2) then s_ch (xs 2) / 256 else 1) ≤ 255
    split <;> omega
  | j + 34 => exact ⟨Int.le_refl 0, Int.le_refl 0⟩
theorem s_rho_v {L : Nat} {xs : Nat → Int32} (hL : L ≤ 6) : s_ρ (s_rho L xs) (s_xs L xs) := by
  have hL7 : (s_xs L xs 7).toNatClampNeg = L := by
    show (Int32.ofNat L).toNatClampNeg = L
    exact Int32.toNatClampNeg_ofNat_of_lt (by omega)
  refine ⟨rfl, fun j hj => ?_, ?_, fun h _ => ?_, ?_, by rw [hL7]; exact hL⟩
  · match j, hj with
    | 0, _ => exact ⟨rfl, s_ch_v (xs 0)⟩
    | 1, _ => exact ⟨rfl, s_ch_v (xs 1)⟩
    | 2, _ => exact ⟨rfl, s_ch_v (xs 2)⟩
    | 3, _ => exact ⟨rfl, s_ch_v (xs 3)⟩
    | 4, _ => exact ⟨rfl, s_ch_v (xs 4)⟩
    | 5, _ => exact ⟨rfl, s_ch_v (xs 5)⟩
    | j + 6, hj => exact absurd hj (by omega)
  · show Int32.ofInt (xs 0 &&& 63).toInt = xs 0 &&& 63
    exact Int32.ofInt_toInt _
  · show (if 256 ≤ s_ch (xs 2) then s_ch (xs 2) / 256 else 1) = s_ch (xs 2) / 256
    have h : 256 ≤ s_ch (xs 2) := h
    rw [if_pos h]
  · rw [hL7]
    rfl
end S24b
end
section
/-! THE CLAIM OUT OF ONE WALK OF THE LAW'S BODY. Your part is whole_start (and what it stands on); all else here is the same for every law, but numbers. -/
def R_law : String := "TaperhallLaw"
def lw_P (b : Addr) (xs : List Int32) (args : Array Value) (s : State) : Prop := args = #[.ref b] ∧ s.IntsAt b xs ∧ xs.length ≤ 6 ∧ (Jvm.Cond.and given_1 narrow_1).before args s = true
/-- what a walk over the start with the record d0 says of its end, said of the start itself -/
theorem lw_closed {s t : State} {o : Outcome} {d0 : Drawn} {L : List Loc} {k n : Nat} (hd0 : s.drawn.sameBut d0 lw_cs) (hv : ∃ v, o = .returned v) (hW : (s.setDrawn d0).WarmedH t.vm) (hs : (s.setDrawn d0).sameButNew ({ t with vm := s.vm } : State) L k n) : State.butDraws s t lw_cs (fun t1 => Framed s o t1 L k n) := by
  have h2 : t.drawn = d0 := congrArg State.drawn hs.1
  refine ⟨⟨hv, hW, State.sameButNew.setDrawn hs s.drawn⟩, ?_, by decide⟩
  rw [h2]
  exact hd0
def lw_Q (_ : Array Value) (s : State) (o : Outcome) (t : State) : Prop := o = .returned (some (.int 1)) ∧ State.butDraws s t lw_cs (fun t1 => Framed s o t1 [] 600006 7302048)
def lw_Z (below : List Frame) (a : Array Value) (s : State) : State → Prop := fun t => ∃ o, t.status = .running ∧ Ended t below o ∧ lw_Q a s o t
/-- the law's own end, with 1 on the stack, nothing written that was there before, its room as the claim has it; d0: the record of draws at this point (at the entry s.drawn: begin with 'refine W.base ?_' and 'have hd0 := Drawn.sameBut.refl s.drawn lw_cs') -/
theorem lw_ret {p : Program} {l : Launch} {e : Env} {s : State} {m : MethodId} {below : List Frame} {meth : Method} {c : Code} {b : Nat} {d0 : Drawn} (hd0 : s.drawn.sameBut d0 lw_cs) (hx : p.tables.exec = Jvm.exec) (hb : c.code = code) (hr : meth.sig.returnType = ret) (hlocks : meth.locks = false) {pc : Nat} {H : Heap} {ls : Array Slot} (hdg : decode code pc = .ok (.ireturn, 1)) : W p l e room_1 (s.setDrawn d0) m #[Value.ref b] below meth c H [] 600006 7302048 (lw_Z below #[Value.ref b] s) (F0 m pc ls [.int 1]) := by
  intro T hT X
  obtain ⟨fs, hret, hrun, hended, hW, hframe⟩ := X.leave (v := some (.int 1)) (hlocks := hlocks) (fun h => by rw [hr] at h; cases h)
  have hmeth' : T.vm.method? m = some meth := X.method'
  refine ⟨T.setFrames fs, ?_, .returned (some (.int 1)), hrun, hended, rfl, lw_closed hd0 ⟨_, rfl⟩ hW hframe⟩
  jvm_step X.here [X.here.top, hx, hb, hdg, hmeth', hr, ret, narrow_b1]
  (try refine ⟨rfl, ?_⟩); (try refine ⟨rfl, ?_⟩)
  first | (intro acts; rw [hret _ acts rfl rfl rfl]) | rw [hret _ _ rfl rfl rfl]
  exact Steps.refl _
/-- what holds at the law's entry: the machine, the code, the tables' words (any of lw_tbl by 'hts w (by decide +kernel)'), the script of L ints xs at the cell b, what the Statement gives of the start (any of its parts by flat_of_before) -/
def lw_At (p : Program) (s : State) (m : MethodId) (meth : Method) (c : Code) (b L : Nat) (xs : Nat → Int32) : Prop :=
  p.tables.exec = Jvm.exec ∧ c.code = code ∧ meth.sig.returnType = ret ∧ c.maxLocals = 9 ∧ s.vm.findClass R_law = some m.cls ∧ (∀ w ∈ lw_tbl, w.before #[Value.ref b] s = true) ∧ va_X b L xs s s.heap ∧ b < s.heap.size ∧ meth.locks = false ∧ (Jvm.Cond.and given_1 narrow_1).before #[Value.ref b] s = true
section S25
/-- what is new needn't be freed -/
theorem s_free_nil {s t : State} {L : List Loc} {k n : Nat} (hL : ∀ q ∈ L, s.heap.size ≤ q.base) (h : s.sameButNew t L k n) : s.sameButNew t [] k n := by
  obtain ⟨h1, h2, h3, h4, h5, h6⟩ := h
  refine ⟨h1, h2, h3, h4, h5, fun a c hc => ?_⟩
  obtain ⟨c', e1, e2, e3, e4⟩ := h6 a c hc
  refine ⟨c', e1, e2, e3, fun i _ => e4 i (fun hm => ?_)⟩
  have h9 : s.heap.size ≤ a := hL _ hm
  exact absurd (Array.getElem?_eq_some_iff.mp hc).1 (Nat.not_lt.mpr h9)
theorem s_end {p : Program} {l : Launch} {e : Env} {R : Room} {s : State} {m : MethodId} {args : Array Value} {below : List Frame} {meth : Method} {c : Code} {H : Heap} {locs : List Loc} {cells slots : Nat} {D : va_G} {tc : Nat → ClassId} {ξ : Nat → Nat} {ρ : Nat → Int} {α : Nat → Nat} {g : JFrame} {mc ms : Nat} (h0 : ρ 0 = 0) (hmc : mc = 600006) (hms : ms = 7302048)
    (k : W p l e R s m args below meth c H locs cells slots (vx_MQ below (s_Qc D tc ξ ρ s_fin (fun q => s.heap.size ≤ q) α 0) (s_Xc D tc ξ ρ s_fin (fun q => s.heap.size ≤ q) α 0) args s mc ms (fun q => s.heap.size ≤ q)) g) : W p l e R s m args below meth c H locs cells slots (lw_Z below args s) g := by
  subst hmc
  subst hms
  intro T hT X
  obtain ⟨t, a1, o, b1, b2, b3⟩ := k T hT X
  refine ⟨t, a1, o, b1, b2, ?_⟩
  rcases b3 with ⟨⟨⟨z, α', hz, -, -, -, ho, -, -⟩, -⟩, L, ⟨-, hW, hs⟩, hL⟩ | ⟨q, -, E, ce, L, ⟨⟨z, α', x, hz, -, -, -, hx, -⟩, -⟩, -⟩
  · unfold s_fin at hz
    rw [Bool.and_eq_true, Bool.and_eq_true, Bool.and_eq_true, Bool.and_eq_true] at hz
    obtain ⟨f1, f2, f3, f4, f5⟩ := hz
    replace f1 := Nat.eq_of_beq_eq_true f1
    replace f2 := Nat.eq_of_beq_eq_true f2
    replace f3 := s_ile_iff.mp f3
    replace f4 := s_ile_iff.mp f4
    replace f5 := Nat.eq_of_beq_eq_true f5
    rcases ho with ⟨ho, -⟩ | ⟨-, ho⟩
    · rw [ho] at f1
      cases f1
    · have hv : s_v ρ α' ξ z.2.1 = .int 1 := by
        obtain ⟨z1, ⟨v1, v2, v3⟩, z3⟩ := z
        dsimp only at f2 f3 f4 f5
        subst f2
        subst f5
        have hv2 : v2 = 1 := by omega
        subst hv2
        show Value.int (Int32.ofInt (ρ 0 + 1)) = .int 1
        rw [h0]
        rfl
      rw [hv] at ho
      subst ho
      exact ⟨rfl, lw_closed (d0 := s.drawn) (Drawn.sameBut.refl s.drawn lw_cs) ⟨_, rfl⟩ hW (s_free_nil hL hs)⟩
  · unfold s_fin at hz
    rw [Bool.and_eq_true] at hz
    have f1 := Nat.eq_of_beq_eq_true hz.1
    omega
end S25
theorem whole_start {p : Program} {e : Env} {s : State} {m : MethodId} {below : List Frame} {meth : Method} {c : Code} (l : Launch) (hflags : l.flags = flags0) {b L : Nat} {xs : Nat → Int32} (hL : L ≤ 6) (htab : c.exceptionTable.toList = []) (hname : meth.name = x.name) (C0 : lw_At p s m meth c b L xs) : W p l e room_1 s m #[Value.ref b] below meth c s.heap [] 0 0 (lw_Z below #[Value.ref b] s) (entryFrame m ([Value.ref b] : List Value).toArray 9) := by
  obtain ⟨hx, hb, hr, hml, hown, hts0, hX, hbl, hlocks, hgv⟩ := id C0
  have hts := s_hts hts0
  have hls : l.stackTraces = false := by
    unfold Launch.stackTraces
    rw [hflags]
    decide
  obtain ⟨D, tc, ξ, hξ, hE⟩ := s_env_start hts hgv hX hbl hL
  have hl := lv_entry ([.ref b]) (n := 9) (Nat.le_of_ble_eq_true rfl)
  rw [lg_entry_eq]
  generalize (lg_sl ([.ref b]) ++ List.replicate (9 - (lg_sl ([.ref b])).length) Slot.unset).toArray = ls at hl ⊢
  have hl : lv_has ls 9 [(0, .ref b)] := hl
  rw [← hξ] at hl
  have hρ := s_rho_v (xs := xs) hL
  have hin := s_in_0 (xs := xs) hL
  have hCx : s_Cx 0 p l room_1 s m #[Value.ref b] meth c := ⟨hx, hb, hml, hr, hlocks, hown, fun w hw => hts w (List.mem_filter.mp hw).1, htab, hname, hls, Nat.le_refl _, Nat.le_refl _, Nat.le_refl _, Nat.le_refl _⟩
  have go : ∀ iv : sI, s_in (s_rho L xs) iv → s_chk s_P 20000 0 0 [(0, (4, 0, 0))] [] [] iv 0 0 s_fin = true → W p l e room_1 s m #[Value.ref b] below meth c s.heap [] 0 0 (lw_Z below #[Value.ref b] s) (F0 m 0 ls []) := by
    intro iv hiv hrun
    have hall : s_All l D tc ξ (s_xs L xs) (s_rho L xs) (s_chk s_P 20000) := s_chk_snd hls hρ 20000
    have hsnd : s_Snd l D tc ξ (s_xs L xs) (s_rho L xs) 0 0 [(0, (4, 0, 0))] [] [] iv 0 0 s_fin := by
      intro p e R s m args below meth cc A α α0 b0 H locs ls X k1 k2 k3 k4 k5 k6 k7 k8 k9
      exact hall 0 0 [(0, (4, 0, 0))] [] [] iv 0 0 s_fin (by decide) hrun X k1 k2 k3 k4 k5 k6 k7 k8 k9
    exact s_end (D := D) (tc := tc) (ξ := ξ) (ρ := s_rho L xs) (α := fun _ => 0) rfl rfl rfl (hsnd (α := fun _ => 0) (α0 := fun _ => 0) (b0 := 0) (A := fun q => s.heap.size ≤ q) hCx hiv hE (fun _ h => h) (fun k q h => by simp [s_h] at h) ⟨fun i j p q h => by simp [s_h] at h, fun k q h => by simp [s_h] at h⟩ va_S.rf hl (Nat.le_refl 0) (fun _ h => absurd h (Nat.not_lt_zero _)))
  rcases Nat.lt_or_ge L 6 with h6 | h6
  · exact go _ (s_in_set hin 22 (0, 5) ⟨by show (0 : Int) ≤ (L : Int); omega, by show (L : Int) ≤ 5; omega⟩) s_run_s
  · have h22 : (6 : Int) ≤ s_rho L xs 22 ∧ s_rho L xs 22 ≤ 6 := ⟨by show (6 : Int) ≤ (L : Int); omega, by show (L : Int) ≤ 6; omega⟩
    have h2 : (-2147483648 : Int) ≤ s_rho L xs 2 ∧ s_rho L xs 2 ≤ 2147483647 := s_i_b _
    have h21 : (0 : Int) ≤ s_rho L xs 21 ∧ s_rho L xs 21 ≤ 63 := s_63_b _
    have hgo : ∀ c d : Int, c ≤ s_rho L xs 21 ∧ s_rho L xs 21 ≤ d → s_in (s_rho L xs) ((s_iv.set 21 (c, d)).set 22 (6, 6)) := fun c d h => s_in_set (s_in_set hin 21 (c, d) h) 22 (6, 6) h22
    have hc : s_rho L xs 21 = 0 ∨ s_rho L xs 21 = 1 ∨ s_rho L xs 21 = 2 ∨ s_rho L xs 21 = 3 ∨ s_rho L xs 21 = 4 ∨ s_rho L xs 21 = 5 ∨ s_rho L xs 21 = 6 ∨ s_rho L xs 21 = 7 ∨ s_rho L xs 21 = 8 ∨ s_rho L xs 21 = 9 ∨ s_rho L xs 21 = 10 ∨ s_rho L xs 21 = 11 ∨ s_rho L xs 21 = 12 ∨ s_rho L xs 21 = 13 ∨ s_rho L xs 21 = 14 ∨ s_rho L xs 21 = 15 ∨ s_rho L xs 21 = 16 ∨ s_rho L xs 21 = 17 ∨ s_rho L xs 21 = 18 ∨ s_rho L xs 21 = 19 ∨ s_rho L xs 21 = 20 ∨ s_rho L xs 21 = 21 ∨ s_rho L xs 21 = 22 ∨ s_rho L xs 21 = 23 ∨ s_rho L xs 21 = 24 ∨ s_rho L xs 21 = 25 ∨ s_rho L xs 21 = 26 ∨ s_rho L xs 21 = 27 ∨ s_rho L xs 21 = 28 ∨ s_rho L xs 21 = 29 ∨ s_rho L xs 21 = 30 ∨ s_rho L xs 21 = 31 ∨ s_rho L xs 21 = 32 ∨ s_rho L xs 21 = 33 ∨ s_rho L xs 21 = 34 ∨ s_rho L xs 21 = 35 ∨ s_rho L xs 21 = 36 ∨ s_rho L xs 21 = 37 ∨ s_rho L xs 21 = 38 ∨ s_rho L xs 21 = 39 ∨ s_rho L xs 21 = 40 ∨ s_rho L xs 21 = 41 ∨ s_rho L xs 21 = 42 ∨ s_rho L xs 21 = 43 ∨ 44 ≤ s_rho L xs 21 := by omega
    rcases hc with hc | hc | hc | hc | hc | hc | hc | hc | hc | hc | hc | hc | hc | hc | hc | hc | hc | hc | hc | hc | hc | hc | hc | hc | hc | hc | hc | hc | hc | hc | hc | hc | hc | hc | hc | hc | hc | hc | hc | hc | hc | hc | hc | hc | hc
    · exact go _ (hgo 0 0 ⟨by omega, by omega⟩) s_run_0
    · exact go _ (hgo 1 1 ⟨by omega, by omega⟩) s_run_1
    · exact go _ (hgo 2 2 ⟨by omega, by omega⟩) s_run_2
    · exact go _ (hgo 3 3 ⟨by omega, by omega⟩) s_run_3
    · exact go _ (hgo 4 4 ⟨by omega, by omega⟩) s_run_4
    · exact go _ (hgo 5 5 ⟨by omega, by omega⟩) s_run_5
    · exact go _ (hgo 6 6 ⟨by omega, by omega⟩) s_run_6
    · exact go _ (hgo 7 7 ⟨by omega, by omega⟩) s_run_7
    · exact go _ (hgo 8 8 ⟨by omega, by omega⟩) s_run_8
    · exact go _ (hgo 9 9 ⟨by omega, by omega⟩) s_run_9
    · exact go _ (hgo 10 10 ⟨by omega, by omega⟩) s_run_10
    · exact go _ (hgo 11 11 ⟨by omega, by omega⟩) s_run_11
    · exact go _ (hgo 12 12 ⟨by omega, by omega⟩) s_run_12
    · exact go _ (hgo 13 13 ⟨by omega, by omega⟩) s_run_13
    · exact go _ (hgo 14 14 ⟨by omega, by omega⟩) s_run_14
    · exact go _ (hgo 15 15 ⟨by omega, by omega⟩) s_run_15
    · exact go _ (hgo 16 16 ⟨by omega, by omega⟩) s_run_16
    · exact go _ (hgo 17 17 ⟨by omega, by omega⟩) s_run_17
    · have h18 := hgo 18 18 ⟨by omega, by omega⟩
      have hd : s_rho L xs 2 ≤ 0 ∨ s_rho L xs 2 = 1 ∨ s_rho L xs 2 = 2 ∨ s_rho L xs 2 = 3 ∨ s_rho L xs 2 = 4 ∨ s_rho L xs 2 = 5 ∨ s_rho L xs 2 = 6 ∨ s_rho L xs 2 = 7 ∨ s_rho L xs 2 = 8 ∨ s_rho L xs 2 = 9 ∨ s_rho L xs 2 = 10 ∨ s_rho L xs 2 = 11 ∨ s_rho L xs 2 = 12 ∨ s_rho L xs 2 = 13 ∨ s_rho L xs 2 = 14 ∨ s_rho L xs 2 = 15 ∨ s_rho L xs 2 = 16 ∨ s_rho L xs 2 = 17 ∨ s_rho L xs 2 = 18 ∨ s_rho L xs 2 = 19 ∨ s_rho L xs 2 = 20 ∨ s_rho L xs 2 = 21 ∨ s_rho L xs 2 = 22 ∨ s_rho L xs 2 = 23 ∨ s_rho L xs 2 = 24 ∨ s_rho L xs 2 = 25 ∨ s_rho L xs 2 = 26 ∨ s_rho L xs 2 = 27 ∨ s_rho L xs 2 = 28 ∨ s_rho L xs 2 = 29 ∨ s_rho L xs 2 = 30 ∨ 31 ≤ s_rho L xs 2 := by omega
      rcases hd with hd | hd | hd | hd | hd | hd | hd | hd | hd | hd | hd | hd | hd | hd | hd | hd | hd | hd | hd | hd | hd | hd | hd | hd | hd | hd | hd | hd | hd | hd | hd | hd
      · exact go _ (s_in_set h18 2 (-2147483648, 0) ⟨h2.1, hd⟩) s_run_18l
      · exact go _ (s_in_set h18 2 (1, 1) ⟨by show (1 : Int) ≤ s_rho L xs 2; omega, by show s_rho L xs 2 ≤ 1; omega⟩) s_run_18_1
      · exact go _ (s_in_set h18 2 (2, 2) ⟨by show (2 : Int) ≤ s_rho L xs 2; omega, by show s_rho L xs 2 ≤ 2; omega⟩) s_run_18_2
      · exact go _ (s_in_set h18 2 (3, 3) ⟨by show (3 : Int) ≤ s_rho L xs 2; omega, by show s_rho L xs 2 ≤ 3; omega⟩) s_run_18_3
      · exact go _ (s_in_set h18 2 (4, 4) ⟨by show (4 : Int) ≤ s_rho L xs 2; omega, by show s_rho L xs 2 ≤ 4; omega⟩) s_run_18_4
      · exact go _ (s_in_set h18 2 (5, 5) ⟨by show (5 : Int) ≤ s_rho L xs 2; omega, by show s_rho L xs 2 ≤ 5; omega⟩) s_run_18_5
      · exact go _ (s_in_set h18 2 (6, 6) ⟨by show (6 : Int) ≤ s_rho L xs 2; omega, by show s_rho L xs 2 ≤ 6; omega⟩) s_run_18_6
      · exact go _ (s_in_set h18 2 (7, 7) ⟨by show (7 : Int) ≤ s_rho L xs 2; omega, by show s_rho L xs 2 ≤ 7; omega⟩) s_run_18_7
      · exact go _ (s_in_set h18 2 (8, 8) ⟨by show (8 : Int) ≤ s_rho L xs 2; omega, by show s_rho L xs 2 ≤ 8; omega⟩) s_run_18_8
      · exact go _ (s_in_set h18 2 (9, 9) ⟨by show (9 : Int) ≤ s_rho L xs 2; omega, by show s_rho L xs 2 ≤ 9; omega⟩) s_run_18_9
      · exact go _ (s_in_set h18 2 (10, 10) ⟨by show (10 : Int) ≤ s_rho L xs 2; omega, by show s_rho L xs 2 ≤ 10; omega⟩) s_run_18_10
      · exact go _ (s_in_set h18 2 (11, 11) ⟨by show (11 : Int) ≤ s_rho L xs 2; omega, by show s_rho L xs 2 ≤ 11; omega⟩) s_run_18_11
      · exact go _ (s_in_set h18 2 (12, 12) ⟨by show (12 : Int) ≤ s_rho L xs 2; omega, by show s_rho L xs 2 ≤ 12; omega⟩) s_run_18_12
      · exact go _ (s_in_set h18 2 (13, 13) ⟨by show (13 : Int) ≤ s_rho L xs 2; omega, by show s_rho L xs 2 ≤ 13; omega⟩) s_run_18_13
      · exact go _ (s_in_set h18 2 (14, 14) ⟨by show (14 : Int) ≤ s_rho L xs 2; omega, by show s_rho L xs 2 ≤ 14; omega⟩) s_run_18_14
      · exact go _ (s_in_set h18 2 (15, 15) ⟨by show (15 : Int) ≤ s_rho L xs 2; omega, by show s_rho L xs 2 ≤ 15; omega⟩) s_run_18_15
      · exact go _ (s_in_set h18 2 (16, 16) ⟨by show (16 : Int) ≤ s_rho L xs 2; omega, by show s_rho L xs 2 ≤ 16; omega⟩) s_run_18_16
      · exact go _ (s_in_set h18 2 (17, 17) ⟨by show (17 : Int) ≤ s_rho L xs 2; omega, by show s_rho L xs 2 ≤ 17; omega⟩) s_run_18_17
      · exact go _ (s_in_set h18 2 (18, 18) ⟨by show (18 : Int) ≤ s_rho L xs 2; omega, by show s_rho L xs 2 ≤ 18; omega⟩) s_run_18_18
      · exact go _ (s_in_set h18 2 (19, 19) ⟨by show (19 : Int) ≤ s_rho L xs 2; omega, by show s_rho L xs 2 ≤ 19; omega⟩) s_run_18_19
      · exact go _ (s_in_set h18 2 (20, 20) ⟨by show (20 : Int) ≤ s_rho L xs 2; omega, by show s_rho L xs 2 ≤ 20; omega⟩) s_run_18_20
      · exact go _ (s_in_set h18 2 (21, 21) ⟨by show (21 : Int) ≤ s_rho L xs 2; omega, by show s_rho L xs 2 ≤ 21; omega⟩) s_run_18_21
      · exact go _ (s_in_set h18 2 (22, 22) ⟨by show (22 : Int) ≤ s_rho L xs 2; omega, by show s_rho L xs 2 ≤ 22; omega⟩) s_run_18_22
      · exact go _ (s_in_set h18 2 (23, 23) ⟨by show (23 : Int) ≤ s_rho L xs 2; omega, by show s_rho L xs 2 ≤ 23; omega⟩) s_run_18_23
      · exact go _ (s_in_set h18 2 (24, 24) ⟨by show (24 : Int) ≤ s_rho L xs 2; omega, by show s_rho L xs 2 ≤ 24; omega⟩) s_run_18_24
      · exact go _ (s_in_set h18 2 (25, 25) ⟨by show (25 : Int) ≤ s_rho L xs 2; omega, by show s_rho L xs 2 ≤ 25; omega⟩) s_run_18_25
      · exact go _ (s_in_set h18 2 (26, 26) ⟨by show (26 : Int) ≤ s_rho L xs 2; omega, by show s_rho L xs 2 ≤ 26; omega⟩) s_run_18_26
      · exact go _ (s_in_set h18 2 (27, 27) ⟨by show (27 : Int) ≤ s_rho L xs 2; omega, by show s_rho L xs 2 ≤ 27; omega⟩) s_run_18_27
      · exact go _ (s_in_set h18 2 (28, 28) ⟨by show (28 : Int) ≤ s_rho L xs 2; omega, by show s_rho L xs 2 ≤ 28; omega⟩) s_run_18_28
      · exact go _ (s_in_set h18 2 (29, 29) ⟨by show (29 : Int) ≤ s_rho L xs 2; omega, by show s_rho L xs 2 ≤ 29; omega⟩) s_run_18_29
      · exact go _ (s_in_set h18 2 (30, 30) ⟨by show (30 : Int) ≤ s_rho L xs 2; omega, by show s_rho L xs 2 ≤ 30; omega⟩) s_run_18_30
      · exact go _ (s_in_set h18 2 (31, 2147483647) ⟨hd, h2.2⟩) s_run_18h
    · exact go _ (hgo 19 19 ⟨by omega, by omega⟩) s_run_19
    · exact go _ (hgo 20 20 ⟨by omega, by omega⟩) s_run_20
    · exact go _ (hgo 21 21 ⟨by omega, by omega⟩) s_run_21
    · exact go _ (hgo 22 22 ⟨by omega, by omega⟩) s_run_22
    · exact go _ (hgo 23 23 ⟨by omega, by omega⟩) s_run_23
    · exact go _ (hgo 24 24 ⟨by omega, by omega⟩) s_run_24
    · exact go _ (hgo 25 25 ⟨by omega, by omega⟩) s_run_25
    · exact go _ (hgo 26 26 ⟨by omega, by omega⟩) s_run_26
    · exact go _ (hgo 27 27 ⟨by omega, by omega⟩) s_run_27
    · exact go _ (hgo 28 28 ⟨by omega, by omega⟩) s_run_28
    · exact go _ (hgo 29 29 ⟨by omega, by omega⟩) s_run_29
    · exact go _ (hgo 30 30 ⟨by omega, by omega⟩) s_run_30
    · exact go _ (hgo 31 31 ⟨by omega, by omega⟩) s_run_31
    · exact go _ (hgo 32 32 ⟨by omega, by omega⟩) s_run_32
    · exact go _ (hgo 33 33 ⟨by omega, by omega⟩) s_run_33
    · exact go _ (hgo 34 34 ⟨by omega, by omega⟩) s_run_34
    · exact go _ (hgo 35 35 ⟨by omega, by omega⟩) s_run_35
    · exact go _ (hgo 36 36 ⟨by omega, by omega⟩) s_run_36
    · exact go _ (hgo 37 37 ⟨by omega, by omega⟩) s_run_37
    · exact go _ (hgo 38 38 ⟨by omega, by omega⟩) s_run_38
    · exact go _ (hgo 39 39 ⟨by omega, by omega⟩) s_run_39
    · exact go _ (hgo 40 40 ⟨by omega, by omega⟩) s_run_40
    · exact go _ (hgo 41 41 ⟨by omega, by omega⟩) s_run_41
    · exact go _ (hgo 42 42 ⟨by omega, by omega⟩) s_run_42
    · exact go _ (hgo 43 43 ⟨by omega, by omega⟩) s_run_43
    · exact go _ (hgo 44 63 ⟨hc, h21.2⟩) s_run_x
set_option maxHeartbeats 4000000 in
theorem lw_walk (l : Launch) (hflags : l.flags = flags0) (b : Addr) (xs : List Int32) : MetFree l x (headSpec (Jvm.Cond.code x code maxLocals ret :: tables_1) room_1) (lw_P b xs) (fun _ _ _ _ _ => True) lw_Q := by
  refine MetFree.of_bodyS (code := code) (maxLocals := maxLocals) (ret := ret) (by decide) ?_ ?_
  · intro args s m h hn
    obtain ⟨meth, c, h1, h2, h3, h4, h5, h6, -, -⟩ := Cond.code_spec hn (atoms_spec (ws := Jvm.Cond.code x code maxLocals ret :: tables_1) h _ List.mem_cons_self)
    exact ⟨meth, c, h1, h2, h3, h4, h5, h6⟩
  · intro p e s m args below meth c s₁ B hml0 hP _
    obtain ⟨rfl, hx, hbd, hgv⟩ := hP
    obtain ⟨scr, harrAt, hlist, hof, hsmall⟩ := hx
    obtain ⟨hcb, hkn, -, -⟩ := State.arrayAt?_spec harrAt
    have hown : s.vm.findClass R_law = some m.cls := findClass_of_methodNamed B.named
    have hts0 : ∀ c ∈ (Jvm.Cond.code x code maxLocals ret :: tables_1), c.before #[Value.ref b] s = true := atoms_spec (ws := Jvm.Cond.code x code maxLocals ret :: tables_1) B.pre
    have hts : ∀ w ∈ lw_tbl, w.before #[Value.ref b] s = true := k2_hts_sels lw_privs (fun w hw => hts0 w (List.mem_cons_of_mem _ hw)) lw_privs_ok
    have hml : c.maxLocals = 9 := B.maxLocals_eq (hts0 _ List.mem_cons_self)
    have X₀ : Stand p l e room_1 s m #[Value.ref b] below meth c s₁ [] 0 0 := Stand.of_body B
    have hh0 : s₁.heap = s.heap := by rw [B.state]; rfl
    have hsz : scr.slots.size = xs.length := by rw [← Array.length_toList, hlist, List.length_map]
    have hval : ∀ j : Nat, j < xs.length → scr.slots[j]? = some (.int (xs.getD j 0)) := fun j hj => by
      rw [← Array.getElem?_toList, hlist]
      simp [hj]
    have hbl : b < s.heap.size := (Array.getElem?_eq_some_iff.mp hcb).1
    have hX : va_X b xs.length (fun j => xs.getD j 0) s s.heap := ⟨scr, hcb, hof, hkn, hsz, hval⟩
    have K : W p l e room_1 s m #[Value.ref b] below meth c s₁.heap [] 0 0 (lw_Z below #[Value.ref b] s) (entryFrame m ([Value.ref b] : List Value).toArray 9) := by
      rw [hh0]
      have htab : c.exceptionTable.toList = [] := by
        obtain ⟨meth9, c9, h1, h2, -, -, -, -, h7, -⟩ := Cond.code_spec B.named (hts0 _ List.mem_cons_self)
        cases Option.some.inj (h1.symm.trans B.method)
        cases Option.some.inj (h2.symm.trans (Stand.of_body B).code)
        rw [Array.isEmpty_iff.mp h7]
      exact whole_start l hflags hbd htab (name_of_methodNamed B.named B.method).1 ⟨B.exec, B.bytes, B.returns, hml, hown, hts, hX, hbl, B.notSynchronized, hgv⟩
    obtain ⟨t, a1, o, b1, b2, b3⟩ := K s₁ rfl X₀
    exact ⟨t, o, a1, b1, b2, b3⟩
theorem lw_pre_spec {args : Array Value} {s : State} (h : (Jvm.Cond.and given_1 narrow_1).before args s = true) (hr : rest_1_c.before args s = true) : ∃ (b : Addr) (xs : List Int32), lw_P b xs args s := by
  have hs := flat_of_before _ h
  have hq := flat_of_before _ hr
  have hc : (Cond.count 1).before args s = true := hs _ (by decide +kernel)
  have harr : (Cond.arrayOf (.arg 0) .int).before args s = true := hs _ (by decide +kernel)
  have hle : (Cond.le (.length (.arg 0)) (.int 6)).before args s = true := hs _ (by decide +kernel)
  have hlen : (Cond.isInt (.length (.arg 0))).before args s = true := hq _ (by decide +kernel)
  have hall : (Cond.all (.arg 0) (.isInt (.elem (.arg 0) (.index 0)))).before args s = true := hq _ (by decide +kernel)
  obtain ⟨b, xs, hb, hx⟩ := State.ints_of_pre rfl harr hlen hall
  have hsm : xs.length < 2 ^ 31 := hx.choose_spec.2.2.2
  have hev : (Term.length (.arg 0)).eval args s none [] s = some (.int xs.length.toInt32) := hx.length_eval hb
  have hv := Cond.le_ints hev (show (Term.int 6).eval args s none [] s = some (.int 6) from rfl)
  have hd : xs.length.toInt32 ≤ 6 := by
    simpa [Cond.before, Cond.holds, hv] using hle
  have hN : xs.length ≤ 6 := (Int32.ofNat_le_ofNat hsm (by decide)).mp (show Int32.ofNat xs.length ≤ Int32.ofNat 6 from hd)
  exact ⟨b, xs, Cond.one_arg hc (show args[0]? = some (.ref b) from hb), hx, hN, h⟩
theorem lw_comes (l : Launch) (hflags : l.flags = flags0) : Comes l x (Jvm.Cond.code x code maxLocals ret :: tables_1) room_1 (fun tb e args s => Calls_1 tb e args s ∧ rest_1 tb e args s ∧ Pre_1 tb e args s)
    (fun _ _ args s o t => lw_Q args s o t) := by
  intro p e ha hc hk s m args below hf hfit hheap happ hpre
  obtain ⟨b, xs, hP⟩ := lw_pre_spec hpre.2.2 hpre.2.1
  obtain ⟨k, o, h1, h2, h3, hQ⟩ := lw_walk l hflags b xs p e ha hc hk s m args below hf ((Spec.applies_iff_loose hf).mp happ).1 hP trivial
  exact ⟨k, o, h1, h2, h3, hQ⟩
theorem lw_frame {s t : State} {o : Outcome} {args : Array Value} (h : State.butDraws s t lw_cs (fun t1 => Framed s o t1 [] 600006 7302048)) :
    State.butDraws s t [Jvm.Choice.named "NaN.bits"] (fun t1 => Framed s o t1 (fieldLocs frame_1_writes args s ++ arrayLocs frame_1_arrays args s ++ staticLocs frame_1_statics s) 600006 7302048) := h
theorem lw_limb (L : Cond) (hL : ∀ (args : Array Value) (s t : State), L.after args s (.returned (some (.int 1))) t = true) :
    ArmFor flags0 classFile x code maxLocals ret World_1 tables_1 room_1 Calls_1 rest_1 Pre_1
      (fun tb e a s o t => postC L tb e a s o t ∧ State.butDraws s t [Jvm.Choice.named "NaN.bits"] (fun t1 => Framed s o t1 (fieldLocs frame_1_writes a s ++ arrayLocs frame_1_arrays a s ++ staticLocs frame_1_statics s) 600006 7302048)) := by
  intro l hflags _ _ p e ha hc hk s m args below hf hfit hheap happ hpre
  obtain ⟨k, o, h1, h2, h3, rfl, hF⟩ := lw_comes l hflags p e ha hc hk s m args below hf hfit hheap happ hpre
  exact ⟨k, _, h1, h2, h3, hL args s _, lw_frame hF⟩
theorem i_vc : Claimed_1_1 ∧ Claimed_1_2 := ⟨lw_limb limb_1_1 (fun args s t => by simp [limb_1_1, Cond.after, Cond.holds, Cond.value]), lw_limb limb_1_2 (fun args s t => Cond.after_iff.mpr (by
  first | (rw [show limb_1_2 = Cond.eq .result (.int 1) from rfl, Cond.eq_ints (x := 1) (y := 1) rfl rfl]; simp; done) | (simp [limb_1_2, Cond.value, Term.eval]; done)))⟩
end
