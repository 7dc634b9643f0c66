-- ===== PART A: goes FIRST, ahead of the names: the tables' words, and 'selects' of the private methods out of them =====
/-- a private method of a class that the tables say can be made, by its rows of tables_1 -/
def lw_okq (q : MethodName × Nat) : Prop := (q.1.cls ≠ "java/lang/invoke/MethodHandle" ∧ q.1.cls ≠ "java/lang/invoke/VarHandle") ∧ Cond.instantiable q.1.cls q.2 ∈ tables_1 ∧ Cond.privateMethod q.1 ∈ tables_1 ∧ Cond.instanceMethod q.1 ∈ tables_1
theorem lw_p0 : lw_okq (⟨"BoltRow$Script", "readNumber", "(III)I"⟩, 4) := ⟨⟨by decide +kernel, by decide +kernel⟩, List.mem_of_getElem? (i := 265) (by decide +kernel), List.mem_of_getElem? (i := 423) (by decide +kernel), List.mem_of_getElem? (i := 424) (by decide +kernel)⟩
theorem lw_p1 : lw_okq (⟨"BoltRow$Script", "readBolt", "(LBoltRow$Joint;)V"⟩, 4) := ⟨⟨by decide +kernel, by decide +kernel⟩, List.mem_of_getElem? (i := 265) (by decide +kernel), List.mem_of_getElem? (i := 432) (by decide +kernel), List.mem_of_getElem? (i := 433) (by decide +kernel)⟩
theorem lw_p2 : lw_okq (⟨"BoltRow", "come", "(IZ)I"⟩, 9) := ⟨⟨by decide +kernel, by decide +kernel⟩, List.mem_of_getElem? (i := 18) (by decide +kernel), List.mem_of_getElem? (i := 442) (by decide +kernel), List.mem_of_getElem? (i := 443) (by decide +kernel)⟩
theorem lw_p3 : lw_okq (⟨"BoltRow$Growth", "start", "(I)V"⟩, 18) := ⟨⟨by decide +kernel, by decide +kernel⟩, List.mem_of_getElem? (i := 95) (by decide +kernel), List.mem_of_getElem? (i := 454) (by decide +kernel), List.mem_of_getElem? (i := 455) (by decide +kernel)⟩
theorem lw_p4 : lw_okq (⟨"BoltRow$Growth", "note", "(II)V"⟩, 18) := ⟨⟨by decide +kernel, by decide +kernel⟩, List.mem_of_getElem? (i := 95) (by decide +kernel), List.mem_of_getElem? (i := 462) (by decide +kernel), List.mem_of_getElem? (i := 463) (by decide +kernel)⟩
theorem lw_p5 : lw_okq (⟨"BoltRow$Growth", "seek", "(Z)Z"⟩, 18) := ⟨⟨by decide +kernel, by decide +kernel⟩, List.mem_of_getElem? (i := 95) (by decide +kernel), List.mem_of_getElem? (i := 466) (by decide +kernel), List.mem_of_getElem? (i := 467) (by decide +kernel)⟩
theorem lw_p6 : lw_okq (⟨"BoltRow$Growth", "layLine", "(I)V"⟩, 18) := ⟨⟨by decide +kernel, by decide +kernel⟩, List.mem_of_getElem? (i := 95) (by decide +kernel), List.mem_of_getElem? (i := 470) (by decide +kernel), List.mem_of_getElem? (i := 471) (by decide +kernel)⟩
theorem lw_p7 : lw_okq (⟨"BoltRow$Growth", "seekDue", "(IZ)V"⟩, 18) := ⟨⟨by decide +kernel, by decide +kernel⟩, List.mem_of_getElem? (i := 95) (by decide +kernel), List.mem_of_getElem? (i := 482) (by decide +kernel), List.mem_of_getElem? (i := 483) (by decide +kernel)⟩
theorem lw_p8 : lw_okq (⟨"BoltRow$Growth", "reach", "(JJ)V"⟩, 18) := ⟨⟨by decide +kernel, by decide +kernel⟩, List.mem_of_getElem? (i := 95) (by decide +kernel), List.mem_of_getElem? (i := 486) (by decide +kernel), List.mem_of_getElem? (i := 487) (by decide +kernel)⟩
theorem lw_p9 : lw_okq (⟨"BoltRow$Growth", "noteDue", "(II)V"⟩, 18) := ⟨⟨by decide +kernel, by decide +kernel⟩, List.mem_of_getElem? (i := 95) (by decide +kernel), List.mem_of_getElem? (i := 493) (by decide +kernel), List.mem_of_getElem? (i := 494) (by decide +kernel)⟩
theorem lw_p10 : lw_okq (⟨"BoltRow$Growth", "isDue", "(I)Z"⟩, 18) := ⟨⟨by decide +kernel, by decide +kernel⟩, List.mem_of_getElem? (i := 95) (by decide +kernel), List.mem_of_getElem? (i := 497) (by decide +kernel), List.mem_of_getElem? (i := 498) (by decide +kernel)⟩
theorem lw_p11 : lw_okq (⟨"BoltRow$Growth", "firstDue", "(I)I"⟩, 18) := ⟨⟨by decide +kernel, by decide +kernel⟩, List.mem_of_getElem? (i := 95) (by decide +kernel), List.mem_of_getElem? (i := 501) (by decide +kernel), List.mem_of_getElem? (i := 502) (by decide +kernel)⟩
theorem lw_p12 : lw_okq (⟨"BoltRow$Growth", "raiseDue", "()V"⟩, 18) := ⟨⟨by decide +kernel, by decide +kernel⟩, List.mem_of_getElem? (i := 95) (by decide +kernel), List.mem_of_getElem? (i := 505) (by decide +kernel), List.mem_of_getElem? (i := 506) (by decide +kernel)⟩
theorem lw_p13 : lw_okq (⟨"BoltRow$Growth", "breakOn", "(II)I"⟩, 18) := ⟨⟨by decide +kernel, by decide +kernel⟩, List.mem_of_getElem? (i := 95) (by decide +kernel), List.mem_of_getElem? (i := 509) (by decide +kernel), List.mem_of_getElem? (i := 510) (by decide +kernel)⟩
theorem lw_p14 : lw_okq (⟨"BoltRow$Growth", "noteRaised", "(II)V"⟩, 18) := ⟨⟨by decide +kernel, by decide +kernel⟩, List.mem_of_getElem? (i := 95) (by decide +kernel), List.mem_of_getElem? (i := 520) (by decide +kernel), List.mem_of_getElem? (i := 521) (by decide +kernel)⟩
theorem lw_p15 : lw_okq (⟨"BoltRow$Growth", "mostOverloaded", "()I"⟩, 18) := ⟨⟨by decide +kernel, by decide +kernel⟩, List.mem_of_getElem? (i := 95) (by decide +kernel), List.mem_of_getElem? (i := 524) (by decide +kernel), List.mem_of_getElem? (i := 525) (by decide +kernel)⟩
def lw_privs_1 : List (MethodName × Nat) := [(⟨"BoltRow$Script", "readNumber", "(III)I"⟩, 4), (⟨"BoltRow$Script", "readBolt", "(LBoltRow$Joint;)V"⟩, 4), (⟨"BoltRow", "come", "(IZ)I"⟩, 9), (⟨"BoltRow$Growth", "start", "(I)V"⟩, 18), (⟨"BoltRow$Growth", "note", "(II)V"⟩, 18), (⟨"BoltRow$Growth", "seek", "(Z)Z"⟩, 18), (⟨"BoltRow$Growth", "layLine", "(I)V"⟩, 18), (⟨"BoltRow$Growth", "seekDue", "(IZ)V"⟩, 18), (⟨"BoltRow$Growth", "reach", "(JJ)V"⟩, 18), (⟨"BoltRow$Growth", "noteDue", "(II)V"⟩, 18), (⟨"BoltRow$Growth", "isDue", "(I)Z"⟩, 18), (⟨"BoltRow$Growth", "firstDue", "(I)I"⟩, 18), (⟨"BoltRow$Growth", "raiseDue", "()V"⟩, 18), (⟨"BoltRow$Growth", "breakOn", "(II)I"⟩, 18), (⟨"BoltRow$Growth", "noteRaised", "(II)V"⟩, 18), (⟨"BoltRow$Growth", "mostOverloaded", "()I"⟩, 18)]
theorem lw_r1 : ∀ q ∈ lw_privs_1, lw_okq q := List.forall_mem_cons.mpr ⟨lw_p0, List.forall_mem_cons.mpr ⟨lw_p1, List.forall_mem_cons.mpr ⟨lw_p2, List.forall_mem_cons.mpr ⟨lw_p3, List.forall_mem_cons.mpr ⟨lw_p4, List.forall_mem_cons.mpr ⟨lw_p5, List.forall_mem_cons.mpr ⟨lw_p6, List.forall_mem_cons.mpr ⟨lw_p7, List.forall_mem_cons.mpr ⟨lw_p8, List.forall_mem_cons.mpr ⟨lw_p9, List.forall_mem_cons.mpr ⟨lw_p10, List.forall_mem_cons.mpr ⟨lw_p11, List.forall_mem_cons.mpr ⟨lw_p12, List.forall_mem_cons.mpr ⟨lw_p13, List.forall_mem_cons.mpr ⟨lw_p14, List.forall_mem_cons.mpr ⟨lw_p15, fun _ h => absurd h List.not_mem_nil⟩⟩⟩⟩⟩⟩⟩⟩⟩⟩⟩⟩⟩⟩⟩⟩
theorem lw_p16 : lw_okq (⟨"BoltRow", "bearingAt", "(I)I"⟩, 9) := ⟨⟨by decide +kernel, by decide +kernel⟩, List.mem_of_getElem? (i := 18) (by decide +kernel), List.mem_of_getElem? (i := 584) (by decide +kernel), List.mem_of_getElem? (i := 585) (by decide +kernel)⟩
theorem lw_p17 : lw_okq (⟨"BoltRow", "boltWork", "(II)J"⟩, 9) := ⟨⟨by decide +kernel, by decide +kernel⟩, List.mem_of_getElem? (i := 18) (by decide +kernel), List.mem_of_getElem? (i := 601) (by decide +kernel), List.mem_of_getElem? (i := 602) (by decide +kernel)⟩
theorem lw_p18 : lw_okq (⟨"BoltRow", "plateWork", "(II)J"⟩, 9) := ⟨⟨by decide +kernel, by decide +kernel⟩, List.mem_of_getElem? (i := 18) (by decide +kernel), List.mem_of_getElem? (i := 605) (by decide +kernel), List.mem_of_getElem? (i := 606) (by decide +kernel)⟩
theorem lw_p19 : lw_okq (⟨"BoltRow$Fall", "layLines", "(I)V"⟩, 8) := ⟨⟨by decide +kernel, by decide +kernel⟩, List.mem_of_getElem? (i := 230) (by decide +kernel), List.mem_of_getElem? (i := 626) (by decide +kernel), List.mem_of_getElem? (i := 627) (by decide +kernel)⟩
theorem lw_p20 : lw_okq (⟨"BoltRow", "tellGains", "(I)I"⟩, 9) := ⟨⟨by decide +kernel, by decide +kernel⟩, List.mem_of_getElem? (i := 18) (by decide +kernel), List.mem_of_getElem? (i := 680) (by decide +kernel), List.mem_of_getElem? (i := 681) (by decide +kernel)⟩
theorem lw_p21 : lw_okq (⟨"BoltRow", "guessPeak", "()V"⟩, 9) := ⟨⟨by decide +kernel, by decide +kernel⟩, List.mem_of_getElem? (i := 18) (by decide +kernel), List.mem_of_getElem? (i := 702) (by decide +kernel), List.mem_of_getElem? (i := 703) (by decide +kernel)⟩
theorem lw_p22 : lw_okq (⟨"BoltRow", "seat", "()V"⟩, 9) := ⟨⟨by decide +kernel, by decide +kernel⟩, List.mem_of_getElem? (i := 18) (by decide +kernel), List.mem_of_getElem? (i := 715) (by decide +kernel), List.mem_of_getElem? (i := 716) (by decide +kernel)⟩
theorem lw_p23 : lw_okq (⟨"BoltRow", "nextSeats", "()Z"⟩, 9) := ⟨⟨by decide +kernel, by decide +kernel⟩, List.mem_of_getElem? (i := 18) (by decide +kernel), List.mem_of_getElem? (i := 720) (by decide +kernel), List.mem_of_getElem? (i := 721) (by decide +kernel)⟩
theorem lw_p24 : lw_okq (⟨"BoltRow", "changeSeats", "(II)V"⟩, 9) := ⟨⟨by decide +kernel, by decide +kernel⟩, List.mem_of_getElem? (i := 18) (by decide +kernel), List.mem_of_getElem? (i := 724) (by decide +kernel), List.mem_of_getElem? (i := 725) (by decide +kernel)⟩
theorem lw_p25 : lw_okq (⟨"BoltRow", "tellSeats", "(JJ)I"⟩, 9) := ⟨⟨by decide +kernel, by decide +kernel⟩, List.mem_of_getElem? (i := 18) (by decide +kernel), List.mem_of_getElem? (i := 728) (by decide +kernel), List.mem_of_getElem? (i := 729) (by decide +kernel)⟩
theorem lw_p26 : lw_okq (⟨"java/lang/Throwable", "fillInStackTrace", "(I)Ljava/lang/Throwable;"⟩, 6) := ⟨⟨by decide +kernel, by decide +kernel⟩, List.mem_of_getElem? (i := 798) (by decide +kernel), List.mem_of_getElem? (i := 796) (by decide +kernel), List.mem_of_getElem? (i := 797) (by decide +kernel)⟩
theorem lw_p27 : lw_okq (⟨"BoltRowModel", "lays", "(IIIIII)V"⟩, 49) := ⟨⟨by decide +kernel, by decide +kernel⟩, List.mem_of_getElem? (i := 830) (by decide +kernel), List.mem_of_getElem? (i := 1003) (by decide +kernel), List.mem_of_getElem? (i := 1004) (by decide +kernel)⟩
theorem lw_p28 : lw_okq (⟨"BoltRowModel", "comes", "()V"⟩, 49) := ⟨⟨by decide +kernel, by decide +kernel⟩, List.mem_of_getElem? (i := 830) (by decide +kernel), List.mem_of_getElem? (i := 1007) (by decide +kernel), List.mem_of_getElem? (i := 1008) (by decide +kernel)⟩
theorem lw_p29 : lw_okq (⟨"BoltRowModel", "of", "(II)I"⟩, 49) := ⟨⟨by decide +kernel, by decide +kernel⟩, List.mem_of_getElem? (i := 830) (by decide +kernel), List.mem_of_getElem? (i := 1020) (by decide +kernel), List.mem_of_getElem? (i := 1021) (by decide +kernel)⟩
theorem lw_p30 : lw_okq (⟨"BoltRowModel", "isBolt", "(I)Z"⟩, 49) := ⟨⟨by decide +kernel, by decide +kernel⟩, List.mem_of_getElem? (i := 830) (by decide +kernel), List.mem_of_getElem? (i := 1028) (by decide +kernel), List.mem_of_getElem? (i := 1029) (by decide +kernel)⟩
theorem lw_p31 : lw_okq (⟨"BoltRowModel", "soundMany", "()I"⟩, 49) := ⟨⟨by decide +kernel, by decide +kernel⟩, List.mem_of_getElem? (i := 830) (by decide +kernel), List.mem_of_getElem? (i := 1036) (by decide +kernel), List.mem_of_getElem? (i := 1037) (by decide +kernel)⟩
def lw_privs_2 : List (MethodName × Nat) := [(⟨"BoltRow", "bearingAt", "(I)I"⟩, 9), (⟨"BoltRow", "boltWork", "(II)J"⟩, 9), (⟨"BoltRow", "plateWork", "(II)J"⟩, 9), (⟨"BoltRow$Fall", "layLines", "(I)V"⟩, 8), (⟨"BoltRow", "tellGains", "(I)I"⟩, 9), (⟨"BoltRow", "guessPeak", "()V"⟩, 9), (⟨"BoltRow", "seat", "()V"⟩, 9), (⟨"BoltRow", "nextSeats", "()Z"⟩, 9), (⟨"BoltRow", "changeSeats", "(II)V"⟩, 9), (⟨"BoltRow", "tellSeats", "(JJ)I"⟩, 9), (⟨"java/lang/Throwable", "fillInStackTrace", "(I)Ljava/lang/Throwable;"⟩, 6), (⟨"BoltRowModel", "lays", "(IIIIII)V"⟩, 49), (⟨"BoltRowModel", "comes", "()V"⟩, 49), (⟨"BoltRowModel", "of", "(II)I"⟩, 49), (⟨"BoltRowModel", "isBolt", "(I)Z"⟩, 49), (⟨"BoltRowModel", "soundMany", "()I"⟩, 49)]
theorem lw_r2 : ∀ q ∈ lw_privs_2, lw_okq q := List.forall_mem_cons.mpr ⟨lw_p16, List.forall_mem_cons.mpr ⟨lw_p17, List.forall_mem_cons.mpr ⟨lw_p18, List.forall_mem_cons.mpr ⟨lw_p19, List.forall_mem_cons.mpr ⟨lw_p20, List.forall_mem_cons.mpr ⟨lw_p21, List.forall_mem_cons.mpr ⟨lw_p22, List.forall_mem_cons.mpr ⟨lw_p23, List.forall_mem_cons.mpr ⟨lw_p24, List.forall_mem_cons.mpr ⟨lw_p25, List.forall_mem_cons.mpr ⟨lw_p26, List.forall_mem_cons.mpr ⟨lw_p27, List.forall_mem_cons.mpr ⟨lw_p28, List.forall_mem_cons.mpr ⟨lw_p29, List.forall_mem_cons.mpr ⟨lw_p30, List.forall_mem_cons.mpr ⟨lw_p31, fun _ h => absurd h List.not_mem_nil⟩⟩⟩⟩⟩⟩⟩⟩⟩⟩⟩⟩⟩⟩⟩⟩
theorem lw_p32 : lw_okq (⟨"BoltRowModel", "exchange", "(II)V"⟩, 49) := ⟨⟨by decide +kernel, by decide +kernel⟩, List.mem_of_getElem? (i := 830) (by decide +kernel), List.mem_of_getElem? (i := 1044) (by decide +kernel), List.mem_of_getElem? (i := 1045) (by decide +kernel)⟩
theorem lw_p33 : lw_okq (⟨"BoltRowModel", "begin", "()V"⟩, 49) := ⟨⟨by decide +kernel, by decide +kernel⟩, List.mem_of_getElem? (i := 830) (by decide +kernel), List.mem_of_getElem? (i := 1064) (by decide +kernel), List.mem_of_getElem? (i := 1065) (by decide +kernel)⟩
theorem lw_p34 : lw_okq (⟨"BoltRowModel", "digits", "(III)I"⟩, 49) := ⟨⟨by decide +kernel, by decide +kernel⟩, List.mem_of_getElem? (i := 830) (by decide +kernel), List.mem_of_getElem? (i := 1068) (by decide +kernel), List.mem_of_getElem? (i := 1069) (by decide +kernel)⟩
theorem lw_p35 : lw_okq (⟨"BoltRowModel", "here", "()I"⟩, 49) := ⟨⟨by decide +kernel, by decide +kernel⟩, List.mem_of_getElem? (i := 830) (by decide +kernel), List.mem_of_getElem? (i := 1072) (by decide +kernel), List.mem_of_getElem? (i := 1073) (by decide +kernel)⟩
theorem lw_p36 : lw_okq (⟨"BoltRowModel", "fault", "(I)V"⟩, 49) := ⟨⟨by decide +kernel, by decide +kernel⟩, List.mem_of_getElem? (i := 830) (by decide +kernel), List.mem_of_getElem? (i := 1078) (by decide +kernel), List.mem_of_getElem? (i := 1079) (by decide +kernel)⟩
theorem lw_p37 : lw_okq (⟨"BoltRowModel", "lost", "()I"⟩, 49) := ⟨⟨by decide +kernel, by decide +kernel⟩, List.mem_of_getElem? (i := 830) (by decide +kernel), List.mem_of_getElem? (i := 1087) (by decide +kernel), List.mem_of_getElem? (i := 1088) (by decide +kernel)⟩
theorem lw_p38 : lw_okq (⟨"BoltRowModel", "growTo", "(I)Z"⟩, 49) := ⟨⟨by decide +kernel, by decide +kernel⟩, List.mem_of_getElem? (i := 830) (by decide +kernel), List.mem_of_getElem? (i := 1099) (by decide +kernel), List.mem_of_getElem? (i := 1100) (by decide +kernel)⟩
theorem lw_p39 : lw_okq (⟨"BoltRowModel", "start", "()V"⟩, 49) := ⟨⟨by decide +kernel, by decide +kernel⟩, List.mem_of_getElem? (i := 830) (by decide +kernel), List.mem_of_getElem? (i := 1103) (by decide +kernel), List.mem_of_getElem? (i := 1104) (by decide +kernel)⟩
theorem lw_p40 : lw_okq (⟨"BoltRowModel", "setLoad", "(JJ)V"⟩, 49) := ⟨⟨by decide +kernel, by decide +kernel⟩, List.mem_of_getElem? (i := 830) (by decide +kernel), List.mem_of_getElem? (i := 1107) (by decide +kernel), List.mem_of_getElem? (i := 1108) (by decide +kernel)⟩
theorem lw_p41 : lw_okq (⟨"BoltRowModel", "leastClear", "()I"⟩, 49) := ⟨⟨by decide +kernel, by decide +kernel⟩, List.mem_of_getElem? (i := 830) (by decide +kernel), List.mem_of_getElem? (i := 1117) (by decide +kernel), List.mem_of_getElem? (i := 1118) (by decide +kernel)⟩
theorem lw_p42 : lw_okq (⟨"BoltRowModel", "isLive", "(I)Z"⟩, 49) := ⟨⟨by decide +kernel, by decide +kernel⟩, List.mem_of_getElem? (i := 830) (by decide +kernel), List.mem_of_getElem? (i := 1121) (by decide +kernel), List.mem_of_getElem? (i := 1122) (by decide +kernel)⟩
theorem lw_p43 : lw_okq (⟨"BoltRowModel", "note", "(II)V"⟩, 49) := ⟨⟨by decide +kernel, by decide +kernel⟩, List.mem_of_getElem? (i := 830) (by decide +kernel), List.mem_of_getElem? (i := 1126) (by decide +kernel), List.mem_of_getElem? (i := 1127) (by decide +kernel)⟩
theorem lw_p44 : lw_okq (⟨"BoltRowModel", "isOver", "()Z"⟩, 49) := ⟨⟨by decide +kernel, by decide +kernel⟩, List.mem_of_getElem? (i := 830) (by decide +kernel), List.mem_of_getElem? (i := 1130) (by decide +kernel), List.mem_of_getElem? (i := 1131) (by decide +kernel)⟩
theorem lw_p45 : lw_okq (⟨"BoltRowModel", "findNext", "()V"⟩, 49) := ⟨⟨by decide +kernel, by decide +kernel⟩, List.mem_of_getElem? (i := 830) (by decide +kernel), List.mem_of_getElem? (i := 1134) (by decide +kernel), List.mem_of_getElem? (i := 1135) (by decide +kernel)⟩
theorem lw_p46 : lw_okq (⟨"BoltRowModel", "solve", "()V"⟩, 49) := ⟨⟨by decide +kernel, by decide +kernel⟩, List.mem_of_getElem? (i := 830) (by decide +kernel), List.mem_of_getElem? (i := 1138) (by decide +kernel), List.mem_of_getElem? (i := 1139) (by decide +kernel)⟩
theorem lw_p47 : lw_okq (⟨"BoltRowModel", "layOffsets", "()V"⟩, 49) := ⟨⟨by decide +kernel, by decide +kernel⟩, List.mem_of_getElem? (i := 830) (by decide +kernel), List.mem_of_getElem? (i := 1142) (by decide +kernel), List.mem_of_getElem? (i := 1143) (by decide +kernel)⟩
def lw_privs_3 : List (MethodName × Nat) := [(⟨"BoltRowModel", "exchange", "(II)V"⟩, 49), (⟨"BoltRowModel", "begin", "()V"⟩, 49), (⟨"BoltRowModel", "digits", "(III)I"⟩, 49), (⟨"BoltRowModel", "here", "()I"⟩, 49), (⟨"BoltRowModel", "fault", "(I)V"⟩, 49), (⟨"BoltRowModel", "lost", "()I"⟩, 49), (⟨"BoltRowModel", "growTo", "(I)Z"⟩, 49), (⟨"BoltRowModel", "start", "()V"⟩, 49), (⟨"BoltRowModel", "setLoad", "(JJ)V"⟩, 49), (⟨"BoltRowModel", "leastClear", "()I"⟩, 49), (⟨"BoltRowModel", "isLive", "(I)Z"⟩, 49), (⟨"BoltRowModel", "note", "(II)V"⟩, 49), (⟨"BoltRowModel", "isOver", "()Z"⟩, 49), (⟨"BoltRowModel", "findNext", "()V"⟩, 49), (⟨"BoltRowModel", "solve", "()V"⟩, 49), (⟨"BoltRowModel", "layOffsets", "()V"⟩, 49)]
theorem lw_r3 : ∀ q ∈ lw_privs_3, lw_okq q := List.forall_mem_cons.mpr ⟨lw_p32, List.forall_mem_cons.mpr ⟨lw_p33, List.forall_mem_cons.mpr ⟨lw_p34, List.forall_mem_cons.mpr ⟨lw_p35, List.forall_mem_cons.mpr ⟨lw_p36, List.forall_mem_cons.mpr ⟨lw_p37, List.forall_mem_cons.mpr ⟨lw_p38, List.forall_mem_cons.mpr ⟨lw_p39, List.forall_mem_cons.mpr ⟨lw_p40, List.forall_mem_cons.mpr ⟨lw_p41, List.forall_mem_cons.mpr ⟨lw_p42, List.forall_mem_cons.mpr ⟨lw_p43, List.forall_mem_cons.mpr ⟨lw_p44, List.forall_mem_cons.mpr ⟨lw_p45, List.forall_mem_cons.mpr ⟨lw_p46, List.forall_mem_cons.mpr ⟨lw_p47, fun _ h => absurd h List.not_mem_nil⟩⟩⟩⟩⟩⟩⟩⟩⟩⟩⟩⟩⟩⟩⟩⟩
theorem lw_p48 : lw_okq (⟨"BoltRowModel", "solveBy", "()V"⟩, 49) := ⟨⟨by decide +kernel, by decide +kernel⟩, List.mem_of_getElem? (i := 830) (by decide +kernel), List.mem_of_getElem? (i := 1146) (by decide +kernel), List.mem_of_getElem? (i := 1147) (by decide +kernel)⟩
theorem lw_p49 : lw_okq (⟨"BoltRowModel", "layMatrix", "()V"⟩, 49) := ⟨⟨by decide +kernel, by decide +kernel⟩, List.mem_of_getElem? (i := 830) (by decide +kernel), List.mem_of_getElem? (i := 1150) (by decide +kernel), List.mem_of_getElem? (i := 1151) (by decide +kernel)⟩
theorem lw_p50 : lw_okq (⟨"BoltRowModel", "pitchesFrom", "(II)I"⟩, 49) := ⟨⟨by decide +kernel, by decide +kernel⟩, List.mem_of_getElem? (i := 830) (by decide +kernel), List.mem_of_getElem? (i := 1154) (by decide +kernel), List.mem_of_getElem? (i := 1155) (by decide +kernel)⟩
theorem lw_p51 : lw_okq (⟨"BoltRowModel", "give", "(I)I"⟩, 49) := ⟨⟨by decide +kernel, by decide +kernel⟩, List.mem_of_getElem? (i := 830) (by decide +kernel), List.mem_of_getElem? (i := 1158) (by decide +kernel), List.mem_of_getElem? (i := 1159) (by decide +kernel)⟩
theorem lw_p52 : lw_okq (⟨"BoltRowModel", "determinant", "(IIII)J"⟩, 49) := ⟨⟨by decide +kernel, by decide +kernel⟩, List.mem_of_getElem? (i := 830) (by decide +kernel), List.mem_of_getElem? (i := 1162) (by decide +kernel), List.mem_of_getElem? (i := 1163) (by decide +kernel)⟩
theorem lw_p53 : lw_okq (⟨"BoltRowModel", "cell", "(II)J"⟩, 49) := ⟨⟨by decide +kernel, by decide +kernel⟩, List.mem_of_getElem? (i := 830) (by decide +kernel), List.mem_of_getElem? (i := 1166) (by decide +kernel), List.mem_of_getElem? (i := 1167) (by decide +kernel)⟩
theorem lw_p54 : lw_okq (⟨"BoltRowModel", "laySlips", "()V"⟩, 49) := ⟨⟨by decide +kernel, by decide +kernel⟩, List.mem_of_getElem? (i := 830) (by decide +kernel), List.mem_of_getElem? (i := 1170) (by decide +kernel), List.mem_of_getElem? (i := 1171) (by decide +kernel)⟩
theorem lw_p55 : lw_okq (⟨"BoltRowModel", "meets", "(JJJ)V"⟩, 49) := ⟨⟨by decide +kernel, by decide +kernel⟩, List.mem_of_getElem? (i := 830) (by decide +kernel), List.mem_of_getElem? (i := 1174) (by decide +kernel), List.mem_of_getElem? (i := 1175) (by decide +kernel)⟩
theorem lw_p56 : lw_okq (⟨"BoltRowModel", "goNext", "()V"⟩, 49) := ⟨⟨by decide +kernel, by decide +kernel⟩, List.mem_of_getElem? (i := 830) (by decide +kernel), List.mem_of_getElem? (i := 1178) (by decide +kernel), List.mem_of_getElem? (i := 1179) (by decide +kernel)⟩
theorem lw_p57 : lw_okq (⟨"BoltRowModel", "slipThere", "(I)J"⟩, 49) := ⟨⟨by decide +kernel, by decide +kernel⟩, List.mem_of_getElem? (i := 830) (by decide +kernel), List.mem_of_getElem? (i := 1182) (by decide +kernel), List.mem_of_getElem? (i := 1183) (by decide +kernel)⟩
theorem lw_p58 : lw_okq (⟨"BoltRowModel", "unitThere", "()J"⟩, 49) := ⟨⟨by decide +kernel, by decide +kernel⟩, List.mem_of_getElem? (i := 830) (by decide +kernel), List.mem_of_getElem? (i := 1186) (by decide +kernel), List.mem_of_getElem? (i := 1187) (by decide +kernel)⟩
theorem lw_p59 : lw_okq (⟨"BoltRowModel", "forceThere", "(I)J"⟩, 49) := ⟨⟨by decide +kernel, by decide +kernel⟩, List.mem_of_getElem? (i := 830) (by decide +kernel), List.mem_of_getElem? (i := 1190) (by decide +kernel), List.mem_of_getElem? (i := 1191) (by decide +kernel)⟩
theorem lw_p60 : lw_okq (⟨"BoltRowModel", "begins", "(II)V"⟩, 49) := ⟨⟨by decide +kernel, by decide +kernel⟩, List.mem_of_getElem? (i := 830) (by decide +kernel), List.mem_of_getElem? (i := 1194) (by decide +kernel), List.mem_of_getElem? (i := 1195) (by decide +kernel)⟩
theorem lw_p61 : lw_okq (⟨"BoltRowModel", "breaks", "(I)V"⟩, 49) := ⟨⟨by decide +kernel, by decide +kernel⟩, List.mem_of_getElem? (i := 830) (by decide +kernel), List.mem_of_getElem? (i := 1198) (by decide +kernel), List.mem_of_getElem? (i := 1199) (by decide +kernel)⟩
theorem lw_p62 : lw_okq (⟨"BoltRowModel", "settle", "()V"⟩, 49) := ⟨⟨by decide +kernel, by decide +kernel⟩, List.mem_of_getElem? (i := 830) (by decide +kernel), List.mem_of_getElem? (i := 1202) (by decide +kernel), List.mem_of_getElem? (i := 1203) (by decide +kernel)⟩
theorem lw_p63 : lw_okq (⟨"BoltRowModel", "isSo", "()Z"⟩, 49) := ⟨⟨by decide +kernel, by decide +kernel⟩, List.mem_of_getElem? (i := 830) (by decide +kernel), List.mem_of_getElem? (i := 1206) (by decide +kernel), List.mem_of_getElem? (i := 1207) (by decide +kernel)⟩
def lw_privs_4 : List (MethodName × Nat) := [(⟨"BoltRowModel", "solveBy", "()V"⟩, 49), (⟨"BoltRowModel", "layMatrix", "()V"⟩, 49), (⟨"BoltRowModel", "pitchesFrom", "(II)I"⟩, 49), (⟨"BoltRowModel", "give", "(I)I"⟩, 49), (⟨"BoltRowModel", "determinant", "(IIII)J"⟩, 49), (⟨"BoltRowModel", "cell", "(II)J"⟩, 49), (⟨"BoltRowModel", "laySlips", "()V"⟩, 49), (⟨"BoltRowModel", "meets", "(JJJ)V"⟩, 49), (⟨"BoltRowModel", "goNext", "()V"⟩, 49), (⟨"BoltRowModel", "slipThere", "(I)J"⟩, 49), (⟨"BoltRowModel", "unitThere", "()J"⟩, 49), (⟨"BoltRowModel", "forceThere", "(I)J"⟩, 49), (⟨"BoltRowModel", "begins", "(II)V"⟩, 49), (⟨"BoltRowModel", "breaks", "(I)V"⟩, 49), (⟨"BoltRowModel", "settle", "()V"⟩, 49), (⟨"BoltRowModel", "isSo", "()Z"⟩, 49)]
theorem lw_r4 : ∀ q ∈ lw_privs_4, lw_okq q := List.forall_mem_cons.mpr ⟨lw_p48, List.forall_mem_cons.mpr ⟨lw_p49, List.forall_mem_cons.mpr ⟨lw_p50, List.forall_mem_cons.mpr ⟨lw_p51, List.forall_mem_cons.mpr ⟨lw_p52, List.forall_mem_cons.mpr ⟨lw_p53, List.forall_mem_cons.mpr ⟨lw_p54, List.forall_mem_cons.mpr ⟨lw_p55, List.forall_mem_cons.mpr ⟨lw_p56, List.forall_mem_cons.mpr ⟨lw_p57, List.forall_mem_cons.mpr ⟨lw_p58, List.forall_mem_cons.mpr ⟨lw_p59, List.forall_mem_cons.mpr ⟨lw_p60, List.forall_mem_cons.mpr ⟨lw_p61, List.forall_mem_cons.mpr ⟨lw_p62, List.forall_mem_cons.mpr ⟨lw_p63, fun _ h => absurd h List.not_mem_nil⟩⟩⟩⟩⟩⟩⟩⟩⟩⟩⟩⟩⟩⟩⟩⟩
theorem lw_p64 : lw_okq (⟨"BoltRowModel", "worst", "()I"⟩, 49) := ⟨⟨by decide +kernel, by decide +kernel⟩, List.mem_of_getElem? (i := 830) (by decide +kernel), List.mem_of_getElem? (i := 1210) (by decide +kernel), List.mem_of_getElem? (i := 1211) (by decide +kernel)⟩
theorem lw_p65 : lw_okq (⟨"BoltRowModel", "tellFraction", "(JJ)V"⟩, 49) := ⟨⟨by decide +kernel, by decide +kernel⟩, List.mem_of_getElem? (i := 830) (by decide +kernel), List.mem_of_getElem? (i := 1214) (by decide +kernel), List.mem_of_getElem? (i := 1215) (by decide +kernel)⟩
theorem lw_p66 : lw_okq (⟨"BoltRowModel", "tell", "(J)V"⟩, 49) := ⟨⟨by decide +kernel, by decide +kernel⟩, List.mem_of_getElem? (i := 830) (by decide +kernel), List.mem_of_getElem? (i := 1218) (by decide +kernel), List.mem_of_getElem? (i := 1219) (by decide +kernel)⟩
theorem lw_p67 : lw_okq (⟨"BoltRowModel", "borne", "(I)J"⟩, 49) := ⟨⟨by decide +kernel, by decide +kernel⟩, List.mem_of_getElem? (i := 830) (by decide +kernel), List.mem_of_getElem? (i := 1230) (by decide +kernel), List.mem_of_getElem? (i := 1231) (by decide +kernel)⟩
theorem lw_p68 : lw_okq (⟨"BoltRowModel", "stateOf", "(I)I"⟩, 49) := ⟨⟨by decide +kernel, by decide +kernel⟩, List.mem_of_getElem? (i := 830) (by decide +kernel), List.mem_of_getElem? (i := 1242) (by decide +kernel), List.mem_of_getElem? (i := 1243) (by decide +kernel)⟩
theorem lw_p69 : lw_okq (⟨"BoltRowModel", "grow", "()V"⟩, 49) := ⟨⟨by decide +kernel, by decide +kernel⟩, List.mem_of_getElem? (i := 830) (by decide +kernel), List.mem_of_getElem? (i := 1259) (by decide +kernel), List.mem_of_getElem? (i := 1260) (by decide +kernel)⟩
theorem lw_p70 : lw_okq (⟨"BoltRowModel", "square", "(J)J"⟩, 49) := ⟨⟨by decide +kernel, by decide +kernel⟩, List.mem_of_getElem? (i := 830) (by decide +kernel), List.mem_of_getElem? (i := 1267) (by decide +kernel), List.mem_of_getElem? (i := 1268) (by decide +kernel)⟩
theorem lw_p71 : lw_okq (⟨"BoltRowModel", "laySets", "()V"⟩, 49) := ⟨⟨by decide +kernel, by decide +kernel⟩, List.mem_of_getElem? (i := 830) (by decide +kernel), List.mem_of_getElem? (i := 1275) (by decide +kernel), List.mem_of_getElem? (i := 1276) (by decide +kernel)⟩
theorem lw_p72 : lw_okq (⟨"BoltRowModel", "leastSet", "()J"⟩, 49) := ⟨⟨by decide +kernel, by decide +kernel⟩, List.mem_of_getElem? (i := 830) (by decide +kernel), List.mem_of_getElem? (i := 1283) (by decide +kernel), List.mem_of_getElem? (i := 1284) (by decide +kernel)⟩
theorem lw_p73 : lw_okq (⟨"BoltRowModel", "isFallen", "(II)Z"⟩, 49) := ⟨⟨by decide +kernel, by decide +kernel⟩, List.mem_of_getElem? (i := 830) (by decide +kernel), List.mem_of_getElem? (i := 1291) (by decide +kernel), List.mem_of_getElem? (i := 1292) (by decide +kernel)⟩
theorem lw_p74 : lw_okq (⟨"BoltRowModel", "solveFalling", "(I)V"⟩, 49) := ⟨⟨by decide +kernel, by decide +kernel⟩, List.mem_of_getElem? (i := 830) (by decide +kernel), List.mem_of_getElem? (i := 1295) (by decide +kernel), List.mem_of_getElem? (i := 1296) (by decide +kernel)⟩
theorem lw_p75 : lw_okq (⟨"BoltRowModel", "fallenForce", "(II)J"⟩, 49) := ⟨⟨by decide +kernel, by decide +kernel⟩, List.mem_of_getElem? (i := 830) (by decide +kernel), List.mem_of_getElem? (i := 1299) (by decide +kernel), List.mem_of_getElem? (i := 1300) (by decide +kernel)⟩
theorem lw_p76 : lw_okq (⟨"BoltRowModel", "fallenSlip", "(II)J"⟩, 49) := ⟨⟨by decide +kernel, by decide +kernel⟩, List.mem_of_getElem? (i := 830) (by decide +kernel), List.mem_of_getElem? (i := 1303) (by decide +kernel), List.mem_of_getElem? (i := 1304) (by decide +kernel)⟩
theorem lw_p77 : lw_okq (⟨"BoltRowModel", "kindMany", "(I)I"⟩, 49) := ⟨⟨by decide +kernel, by decide +kernel⟩, List.mem_of_getElem? (i := 830) (by decide +kernel), List.mem_of_getElem? (i := 1318) (by decide +kernel), List.mem_of_getElem? (i := 1319) (by decide +kernel)⟩
theorem lw_p78 : lw_okq (⟨"BoltRowModel", "eventOf", "(II)I"⟩, 49) := ⟨⟨by decide +kernel, by decide +kernel⟩, List.mem_of_getElem? (i := 830) (by decide +kernel), List.mem_of_getElem? (i := 1338) (by decide +kernel), List.mem_of_getElem? (i := 1339) (by decide +kernel)⟩
theorem lw_p79 : lw_okq (⟨"BoltRowModel", "lastBreak", "()I"⟩, 49) := ⟨⟨by decide +kernel, by decide +kernel⟩, List.mem_of_getElem? (i := 830) (by decide +kernel), List.mem_of_getElem? (i := 1346) (by decide +kernel), List.mem_of_getElem? (i := 1347) (by decide +kernel)⟩
def lw_privs_5 : List (MethodName × Nat) := [(⟨"BoltRowModel", "worst", "()I"⟩, 49), (⟨"BoltRowModel", "tellFraction", "(JJ)V"⟩, 49), (⟨"BoltRowModel", "tell", "(J)V"⟩, 49), (⟨"BoltRowModel", "borne", "(I)J"⟩, 49), (⟨"BoltRowModel", "stateOf", "(I)I"⟩, 49), (⟨"BoltRowModel", "grow", "()V"⟩, 49), (⟨"BoltRowModel", "square", "(J)J"⟩, 49), (⟨"BoltRowModel", "laySets", "()V"⟩, 49), (⟨"BoltRowModel", "leastSet", "()J"⟩, 49), (⟨"BoltRowModel", "isFallen", "(II)Z"⟩, 49), (⟨"BoltRowModel", "solveFalling", "(I)V"⟩, 49), (⟨"BoltRowModel", "fallenForce", "(II)J"⟩, 49), (⟨"BoltRowModel", "fallenSlip", "(II)J"⟩, 49), (⟨"BoltRowModel", "kindMany", "(I)I"⟩, 49), (⟨"BoltRowModel", "eventOf", "(II)I"⟩, 49), (⟨"BoltRowModel", "lastBreak", "()I"⟩, 49)]
theorem lw_r5 : ∀ q ∈ lw_privs_5, lw_okq q := List.forall_mem_cons.mpr ⟨lw_p64, List.forall_mem_cons.mpr ⟨lw_p65, List.forall_mem_cons.mpr ⟨lw_p66, List.forall_mem_cons.mpr ⟨lw_p67, List.forall_mem_cons.mpr ⟨lw_p68, List.forall_mem_cons.mpr ⟨lw_p69, List.forall_mem_cons.mpr ⟨lw_p70, List.forall_mem_cons.mpr ⟨lw_p71, List.forall_mem_cons.mpr ⟨lw_p72, List.forall_mem_cons.mpr ⟨lw_p73, List.forall_mem_cons.mpr ⟨lw_p74, List.forall_mem_cons.mpr ⟨lw_p75, List.forall_mem_cons.mpr ⟨lw_p76, List.forall_mem_cons.mpr ⟨lw_p77, List.forall_mem_cons.mpr ⟨lw_p78, List.forall_mem_cons.mpr ⟨lw_p79, fun _ h => absurd h List.not_mem_nil⟩⟩⟩⟩⟩⟩⟩⟩⟩⟩⟩⟩⟩⟩⟩⟩
theorem lw_p80 : lw_okq (⟨"BoltRowModel", "layMore", "(II)V"⟩, 49) := ⟨⟨by decide +kernel, by decide +kernel⟩, List.mem_of_getElem? (i := 830) (by decide +kernel), List.mem_of_getElem? (i := 1350) (by decide +kernel), List.mem_of_getElem? (i := 1351) (by decide +kernel)⟩
theorem lw_p81 : lw_okq (⟨"BoltRowModel", "against", "(JJ)I"⟩, 49) := ⟨⟨by decide +kernel, by decide +kernel⟩, List.mem_of_getElem? (i := 830) (by decide +kernel), List.mem_of_getElem? (i := 1362) (by decide +kernel), List.mem_of_getElem? (i := 1363) (by decide +kernel)⟩
theorem lw_p82 : lw_okq (⟨"BoltRowModel", "layAside", "()V"⟩, 49) := ⟨⟨by decide +kernel, by decide +kernel⟩, List.mem_of_getElem? (i := 830) (by decide +kernel), List.mem_of_getElem? (i := 1370) (by decide +kernel), List.mem_of_getElem? (i := 1371) (by decide +kernel)⟩
theorem lw_p83 : lw_okq (⟨"BoltRowModel", "isGreatest", "()Z"⟩, 49) := ⟨⟨by decide +kernel, by decide +kernel⟩, List.mem_of_getElem? (i := 830) (by decide +kernel), List.mem_of_getElem? (i := 1374) (by decide +kernel), List.mem_of_getElem? (i := 1375) (by decide +kernel)⟩
theorem lw_p84 : lw_okq (⟨"BoltRowModel", "comesBack", "()V"⟩, 49) := ⟨⟨by decide +kernel, by decide +kernel⟩, List.mem_of_getElem? (i := 830) (by decide +kernel), List.mem_of_getElem? (i := 1378) (by decide +kernel), List.mem_of_getElem? (i := 1379) (by decide +kernel)⟩
theorem lw_p85 : lw_okq (⟨"BoltRowModel", "nextPlaces", "()Z"⟩, 49) := ⟨⟨by decide +kernel, by decide +kernel⟩, List.mem_of_getElem? (i := 830) (by decide +kernel), List.mem_of_getElem? (i := 1386) (by decide +kernel), List.mem_of_getElem? (i := 1387) (by decide +kernel)⟩
theorem lw_p86 : lw_okq (⟨"BoltRowModel", "swapPlaces", "(II)V"⟩, 49) := ⟨⟨by decide +kernel, by decide +kernel⟩, List.mem_of_getElem? (i := 830) (by decide +kernel), List.mem_of_getElem? (i := 1390) (by decide +kernel), List.mem_of_getElem? (i := 1391) (by decide +kernel)⟩
theorem lw_p87 : lw_okq (⟨"BoltRowModel", "draw", "(I)I"⟩, 49) := ⟨⟨by decide +kernel, by decide +kernel⟩, List.mem_of_getElem? (i := 830) (by decide +kernel), List.mem_of_getElem? (i := 1403) (by decide +kernel), List.mem_of_getElem? (i := 1404) (by decide +kernel)⟩
theorem lw_p88 : lw_okq (⟨"BoltRowModel", "breakAll", "()I"⟩, 49) := ⟨⟨by decide +kernel, by decide +kernel⟩, List.mem_of_getElem? (i := 830) (by decide +kernel), List.mem_of_getElem? (i := 1412) (by decide +kernel), List.mem_of_getElem? (i := 1413) (by decide +kernel)⟩
theorem lw_p89 : lw_okq (⟨"BoltRowModel", "clearLeast", "()I"⟩, 49) := ⟨⟨by decide +kernel, by decide +kernel⟩, List.mem_of_getElem? (i := 830) (by decide +kernel), List.mem_of_getElem? (i := 1416) (by decide +kernel), List.mem_of_getElem? (i := 1417) (by decide +kernel)⟩
def lw_privs_6 : List (MethodName × Nat) := [(⟨"BoltRowModel", "layMore", "(II)V"⟩, 49), (⟨"BoltRowModel", "against", "(JJ)I"⟩, 49), (⟨"BoltRowModel", "layAside", "()V"⟩, 49), (⟨"BoltRowModel", "isGreatest", "()Z"⟩, 49), (⟨"BoltRowModel", "comesBack", "()V"⟩, 49), (⟨"BoltRowModel", "nextPlaces", "()Z"⟩, 49), (⟨"BoltRowModel", "swapPlaces", "(II)V"⟩, 49), (⟨"BoltRowModel", "draw", "(I)I"⟩, 49), (⟨"BoltRowModel", "breakAll", "()I"⟩, 49), (⟨"BoltRowModel", "clearLeast", "()I"⟩, 49)]
theorem lw_r6 : ∀ q ∈ lw_privs_6, lw_okq q := List.forall_mem_cons.mpr ⟨lw_p80, List.forall_mem_cons.mpr ⟨lw_p81, List.forall_mem_cons.mpr ⟨lw_p82, List.forall_mem_cons.mpr ⟨lw_p83, List.forall_mem_cons.mpr ⟨lw_p84, List.forall_mem_cons.mpr ⟨lw_p85, List.forall_mem_cons.mpr ⟨lw_p86, List.forall_mem_cons.mpr ⟨lw_p87, List.forall_mem_cons.mpr ⟨lw_p88, List.forall_mem_cons.mpr ⟨lw_p89, fun _ h => absurd h List.not_mem_nil⟩⟩⟩⟩⟩⟩⟩⟩⟩⟩
def lw_privs : List (MethodName × Nat) := lw_privs_1 ++ (lw_privs_2 ++ (lw_privs_3 ++ (lw_privs_4 ++ (lw_privs_5 ++ (lw_privs_6)))))
def lw_tbl : List Cond := k2_sels lw_privs ++ tables_1
theorem lw_privs_ok : ∀ q ∈ lw_privs, lw_okq q := by
  show ∀ q ∈ lw_privs_1 ++ (lw_privs_2 ++ (lw_privs_3 ++ (lw_privs_4 ++ (lw_privs_5 ++ (lw_privs_6))))), lw_okq q
  exact List.forall_mem_append.mpr ⟨lw_r1, List.forall_mem_append.mpr ⟨lw_r2, List.forall_mem_append.mpr ⟨lw_r3, List.forall_mem_append.mpr ⟨lw_r4, List.forall_mem_append.mpr ⟨lw_r5, lw_r6⟩⟩⟩⟩⟩
def RX0 : String := "BoltRow$Fall"
def TX0 : u_T := fun k => match k with
  | 0 => ("BoltRow$Fall", "joint", "LBoltRow$Joint;", true)
  | 1 => ("BoltRow$Fall", "growth", "LBoltRow$Growth;", true)
  | 2 => ("BoltRow$Fall", "sets", "[J", true)
  | 3 => ("BoltRow$Fall", "unit", "J", false)
  | 4 => ("BoltRow$Fall", "openOver", "J", false)
  | 5 => ("BoltRow$Fall", "openUnder", "J", false)
  | 6 => ("BoltRow$Fall", "forces", "[J", true)
  | _ => ("BoltRow$Fall", "left", "I", false)
def tyX0 : Nat → FieldType := fun k => match k with
  | 0 => .object "BoltRow$Joint"
  | 1 => .object "BoltRow$Growth"
  | 2 => .array .long
  | 3 => .long
  | 4 => .long
  | 5 => .long
  | 6 => .array .long
  | _ => .int
abbrev wsX00 : List Cond := u_ws RX0 TX0 8
theorem nmX0 : ∀ a, a < 8 → ∀ b, b < 8 → a ≠ b → (TX0 a).2.1 ≠ (TX0 b).2.1 := by decide +kernel
theorem tyX0_ok : ∀ k, k < 8 → parseFieldDescriptor (TX0 k).2.2.1 = some (tyX0 k) := by decide +kernel
abbrev cX0_init : ByteArray := prog_2_method_1_code
def yX0_init : MethodName := ⟨RX0, "<init>", "(LBoltRow$Joint;LBoltRow$Growth;)V"⟩
abbrev cX0_startFrom : ByteArray := prog_2_method_2_code
def yX0_startFrom : MethodName := ⟨RX0, "startFrom", "(II)V"⟩
abbrev cX0_comeTo : ByteArray := prog_2_method_3_code
def yX0_comeTo : MethodName := ⟨RX0, "comeTo", "(I)V"⟩
abbrev cX0_seekOpening : ByteArray := prog_2_method_4_code
def yX0_seekOpening : MethodName := ⟨RX0, "seekOpening", "(II)I"⟩
abbrev cX0_layLines : ByteArray := prog_2_method_5_code
def yX0_layLines : MethodName := ⟨RX0, "layLines", "(I)V"⟩
def RX1 : String := "BoltRow$Growth"
def TX1 : u_T := fun k => match k with
  | 0 => ("BoltRow$Growth", "joint", "LBoltRow$Joint;", true)
  | 1 => ("BoltRow$Growth", "lines", "LBoltRow$Lines;", true)
  | 2 => ("BoltRow$Growth", "way", "[I", true)
  | 3 => ("BoltRow$Growth", "wayBefore", "[I", true)
  | 4 => ("BoltRow$Growth", "known", "Z", false)
  | 5 => ("BoltRow$Growth", "total", "I", false)
  | 6 => ("BoltRow$Growth", "kind", "[I", true)
  | 7 => ("BoltRow$Growth", "who", "[I", true)
  | 8 => ("BoltRow$Growth", "over", "[J", true)
  | 9 => ("BoltRow$Growth", "under", "[J", true)
  | 10 => ("BoltRow$Growth", "endOver", "J", false)
  | 11 => ("BoltRow$Growth", "endUnder", "J", false)
  | 12 => ("BoltRow$Growth", "dueOver", "[J", true)
  | 13 => ("BoltRow$Growth", "dueUnder", "[J", true)
  | 14 => ("BoltRow$Growth", "soonOver", "J", false)
  | 15 => ("BoltRow$Growth", "soonUnder", "J", false)
  | 16 => ("BoltRow$Growth", "gains", "[J", true)
  | _ => ("BoltRow$Growth", "gainUnder", "J", false)
def tyX1 : Nat → FieldType := fun k => match k with
  | 0 => .object "BoltRow$Joint"
  | 1 => .object "BoltRow$Lines"
  | 2 => .array .int
  | 3 => .array .int
  | 4 => .boolean
  | 5 => .int
  | 6 => .array .int
  | 7 => .array .int
  | 8 => .array .long
  | 9 => .array .long
  | 10 => .long
  | 11 => .long
  | 12 => .array .long
  | 13 => .array .long
  | 14 => .long
  | 15 => .long
  | 16 => .array .long
  | _ => .long
abbrev wsX10 : List Cond := u_ws RX1 TX1 18
theorem nmX1 : ∀ a, a < 18 → ∀ b, b < 18 → a ≠ b → (TX1 a).2.1 ≠ (TX1 b).2.1 := by decide +kernel
theorem tyX1_ok : ∀ k, k < 18 → parseFieldDescriptor (TX1 k).2.2.1 = some (tyX1 k) := by decide +kernel
abbrev cX1_init : ByteArray := prog_3_method_1_code
def yX1_init : MethodName := ⟨RX1, "<init>", "(LBoltRow$Joint;)V"⟩
abbrev cX1_run : ByteArray := prog_3_method_2_code
def yX1_run : MethodName := ⟨RX1, "run", "()V"⟩
abbrev cX1_settle : ByteArray := prog_3_method_3_code
def yX1_settle : MethodName := ⟨RX1, "settle", "(IJJ)V"⟩
abbrev cX1_compareForces : ByteArray := prog_3_method_4_code
def yX1_compareForces : MethodName := ⟨RX1, "compareForces", "(IIJJ)V"⟩
abbrev cX1_comparePeak : ByteArray := prog_3_method_5_code
def yX1_comparePeak : MethodName := ⟨RX1, "comparePeak", "(JJ)I"⟩
abbrev cX1_countOf : ByteArray := prog_3_method_6_code
def yX1_countOf : MethodName := ⟨RX1, "countOf", "(I)I"⟩
abbrev cX1_find : ByteArray := prog_3_method_7_code
def yX1_find : MethodName := ⟨RX1, "find", "(II)I"⟩
abbrev cX1_brokenAs : ByteArray := prog_3_method_8_code
def yX1_brokenAs : MethodName := ⟨RX1, "brokenAs", "(I)I"⟩
abbrev cX1_leftAhead : ByteArray := prog_3_method_9_code
def yX1_leftAhead : MethodName := ⟨RX1, "leftAhead", "(I)I"⟩
abbrev cX1_leftAfter : ByteArray := prog_3_method_10_code
def yX1_leftAfter : MethodName := ⟨RX1, "leftAfter", "(I)I"⟩
abbrev cX1_start : ByteArray := prog_3_method_11_code
def yX1_start : MethodName := ⟨RX1, "start", "(I)V"⟩
abbrev cX1_seek : ByteArray := prog_3_method_12_code
def yX1_seek : MethodName := ⟨RX1, "seek", "(Z)Z"⟩
abbrev cX1_layLine : ByteArray := prog_3_method_13_code
def yX1_layLine : MethodName := ⟨RX1, "layLine", "(I)V"⟩
abbrev cX1_seekDue : ByteArray := prog_3_method_14_code
def yX1_seekDue : MethodName := ⟨RX1, "seekDue", "(IZ)V"⟩
abbrev cX1_isDue : ByteArray := prog_3_method_15_code
def yX1_isDue : MethodName := ⟨RX1, "isDue", "(I)Z"⟩
abbrev cX1_raiseDue : ByteArray := prog_3_method_16_code
def yX1_raiseDue : MethodName := ⟨RX1, "raiseDue", "()V"⟩
abbrev cX1_firstDue : ByteArray := prog_3_method_17_code
def yX1_firstDue : MethodName := ⟨RX1, "firstDue", "(I)I"⟩
abbrev cX1_noteDue : ByteArray := prog_3_method_18_code
def yX1_noteDue : MethodName := ⟨RX1, "noteDue", "(II)V"⟩
abbrev cX1_reach : ByteArray := prog_3_method_19_code
def yX1_reach : MethodName := ⟨RX1, "reach", "(JJ)V"⟩
abbrev cX1_note : ByteArray := prog_3_method_20_code
def yX1_note : MethodName := ⟨RX1, "note", "(II)V"⟩
abbrev cX1_breakOn : ByteArray := prog_3_method_21_code
def yX1_breakOn : MethodName := ⟨RX1, "breakOn", "(II)I"⟩
abbrev cX1_noteRaised : ByteArray := prog_3_method_22_code
def yX1_noteRaised : MethodName := ⟨RX1, "noteRaised", "(II)V"⟩
abbrev cX1_mostOverloaded : ByteArray := prog_3_method_23_code
def yX1_mostOverloaded : MethodName := ⟨RX1, "mostOverloaded", "()I"⟩
def RX2 : String := "BoltRow$Joint"
def TX2 : u_T := fun k => match k with
  | 0 => ("BoltRow$Joint", "give", "[I", true)
  | 1 => ("BoltRow$Joint", "clear", "[I", true)
  | 2 => ("BoltRow$Joint", "yieldAt", "[I", true)
  | 3 => ("BoltRow$Joint", "soft", "[I", true)
  | 4 => ("BoltRow$Joint", "breakAt", "[I", true)
  | 5 => ("BoltRow$Joint", "out", "[Z", true)
  | 6 => ("BoltRow$Joint", "pitches", "[I", true)
  | 7 => ("BoltRow$Joint", "bolts", "I", false)
  | 8 => ("BoltRow$Joint", "upper", "I", false)
  | _ => ("BoltRow$Joint", "lower", "I", false)
def tyX2 : Nat → FieldType := fun k => match k with
  | 0 => .array .int
  | 1 => .array .int
  | 2 => .array .int
  | 3 => .array .int
  | 4 => .array .int
  | 5 => .array .boolean
  | 6 => .array .int
  | 7 => .int
  | 8 => .int
  | _ => .int
abbrev wsX20 : List Cond := u_ws RX2 TX2 10
theorem nmX2 : ∀ a, a < 10 → ∀ b, b < 10 → a ≠ b → (TX2 a).2.1 ≠ (TX2 b).2.1 := by decide +kernel
theorem tyX2_ok : ∀ k, k < 10 → parseFieldDescriptor (TX2 k).2.2.1 = some (tyX2 k) := by decide +kernel
abbrev cX2_init : ByteArray := prog_4_method_1_code
def yX2_init : MethodName := ⟨RX2, "<init>", "()V"⟩
abbrev cX2_has : ByteArray := prog_4_method_2_code
def yX2_has : MethodName := ⟨RX2, "has", "(I)Z"⟩
abbrev cX2_hasGap : ByteArray := prog_4_method_3_code
def yX2_hasGap : MethodName := ⟨RX2, "hasGap", "(I)Z"⟩
abbrev cX2_write : ByteArray := prog_4_method_4_code
def yX2_write : MethodName := ⟨RX2, "write", "(IIIIII)V"⟩
abbrev cX2_add : ByteArray := prog_4_method_5_code
def yX2_add : MethodName := ⟨RX2, "add", "(IIIII)V"⟩
abbrev cX2_copyBolt : ByteArray := prog_4_method_6_code
def yX2_copyBolt : MethodName := ⟨RX2, "copyBolt", "(LBoltRow$Joint;II)V"⟩
abbrev cX2_copyAll : ByteArray := prog_4_method_7_code
def yX2_copyAll : MethodName := ⟨RX2, "copyAll", "(LBoltRow$Joint;)V"⟩
abbrev cX2_soundBits : ByteArray := prog_4_method_8_code
def yX2_soundBits : MethodName := ⟨RX2, "soundBits", "()I"⟩
abbrev cX2_breaksTogether : ByteArray := prog_4_method_9_code
def yX2_breaksTogether : MethodName := ⟨RX2, "breaksTogether", "()I"⟩
abbrev cX2_leastClear : ByteArray := prog_4_method_10_code
def yX2_leastClear : MethodName := ⟨RX2, "leastClear", "(I)I"⟩
def RX3 : String := "BoltRow$Lines"
def TX3 : u_T := fun k => match k with
  | 0 => ("BoltRow$Lines", "joint", "LBoltRow$Joint;", true)
  | 1 => ("BoltRow$Lines", "stretch", "[I", true)
  | 2 => ("BoltRow$Lines", "rest", "[J", true)
  | 3 => ("BoltRow$Lines", "forceRise", "[J", true)
  | 4 => ("BoltRow$Lines", "forceStart", "[J", true)
  | 5 => ("BoltRow$Lines", "slipRise", "[J", true)
  | 6 => ("BoltRow$Lines", "slipStart", "[J", true)
  | 7 => ("BoltRow$Lines", "under", "J", false)
  | 8 => ("BoltRow$Lines", "byFirst", "[J", true)
  | 9 => ("BoltRow$Lines", "byLoad", "[J", true)
  | 10 => ("BoltRow$Lines", "bare", "[J", true)
  | 11 => ("BoltRow$Lines", "scale", "[J", true)
  | 12 => ("BoltRow$Lines", "firstRise", "J", false)
  | _ => ("BoltRow$Lines", "firstStart", "J", false)
def tyX3 : Nat → FieldType := fun k => match k with
  | 0 => .object "BoltRow$Joint"
  | 1 => .array .int
  | 2 => .array .long
  | 3 => .array .long
  | 4 => .array .long
  | 5 => .array .long
  | 6 => .array .long
  | 7 => .long
  | 8 => .array .long
  | 9 => .array .long
  | 10 => .array .long
  | 11 => .array .long
  | 12 => .long
  | _ => .long
abbrev wsX30 : List Cond := u_ws RX3 TX3 14
theorem nmX3 : ∀ a, a < 14 → ∀ b, b < 14 → a ≠ b → (TX3 a).2.1 ≠ (TX3 b).2.1 := by decide +kernel
theorem tyX3_ok : ∀ k, k < 14 → parseFieldDescriptor (TX3 k).2.2.1 = some (tyX3 k) := by decide +kernel
abbrev cX3_init : ByteArray := prog_5_method_1_code
def yX3_init : MethodName := ⟨RX3, "<init>", "(LBoltRow$Joint;)V"⟩
abbrev cX3_walk : ByteArray := prog_5_method_2_code
def yX3_walk : MethodName := ⟨RX3, "walk", "()V"⟩
abbrev cX3_fill : ByteArray := prog_5_method_3_code
def yX3_fill : MethodName := ⟨RX3, "fill", "()V"⟩
abbrev cX3_forceAt : ByteArray := prog_5_method_4_code
def yX3_forceAt : MethodName := ⟨RX3, "forceAt", "(IJJ)J"⟩
abbrev cX3_slipAt : ByteArray := prog_5_method_5_code
def yX3_slipAt : MethodName := ⟨RX3, "slipAt", "(IJJ)J"⟩
abbrev cX3_borneAt : ByteArray := prog_5_method_6_code
def yX3_borneAt : MethodName := ⟨RX3, "borneAt", "(IJ)J"⟩
def RX4 : String := "BoltRow$Row"
def TX4 : u_T := fun k => match k with
  | 0 => ("BoltRow$Row", "numbers", "[J", true)
  | _ => ("BoltRow$Row", "size", "I", false)
def tyX4 : Nat → FieldType := fun k => match k with
  | 0 => .array .long
  | _ => .int
abbrev wsX40 : List Cond := u_ws RX4 TX4 2
theorem nmX4 : ∀ a, a < 2 → ∀ b, b < 2 → a ≠ b → (TX4 a).2.1 ≠ (TX4 b).2.1 := by decide +kernel
theorem tyX4_ok : ∀ k, k < 2 → parseFieldDescriptor (TX4 k).2.2.1 = some (tyX4 k) := by decide +kernel
abbrev cX4_init : ByteArray := prog_6_method_1_code
def yX4_init : MethodName := ⟨RX4, "<init>", "()V"⟩
abbrev cX4_whole : ByteArray := prog_6_method_2_code
def yX4_whole : MethodName := ⟨RX4, "whole", "(J)V"⟩
abbrev cX4_fraction : ByteArray := prog_6_method_3_code
def yX4_fraction : MethodName := ⟨RX4, "fraction", "(JJ)V"⟩
def RX5 : String := "BoltRow$Script"
def TX5 : u_T := fun k => match k with
  | 0 => ("BoltRow$Script", "signs", "[I", true)
  | 1 => ("BoltRow$Script", "size", "I", false)
  | 2 => ("BoltRow$Script", "next", "I", false)
  | _ => ("BoltRow$Script", "fault", "I", false)
def tyX5 : Nat → FieldType := fun k => match k with
  | 0 => .array .int
  | 1 => .int
  | 2 => .int
  | _ => .int
abbrev wsX50 : List Cond := u_ws RX5 TX5 4
theorem nmX5 : ∀ a, a < 4 → ∀ b, b < 4 → a ≠ b → (TX5 a).2.1 ≠ (TX5 b).2.1 := by decide +kernel
theorem tyX5_ok : ∀ k, k < 4 → parseFieldDescriptor (TX5 k).2.2.1 = some (tyX5 k) := by decide +kernel
abbrev cX5_init : ByteArray := prog_7_method_1_code
def yX5_init : MethodName := ⟨RX5, "<init>", "()V"⟩
abbrev cX5_addFour : ByteArray := prog_7_method_2_code
def yX5_addFour : MethodName := ⟨RX5, "addFour", "(I)Z"⟩
abbrev cX5_cut : ByteArray := prog_7_method_3_code
def yX5_cut : MethodName := ⟨RX5, "cut", "(I)Z"⟩
abbrev cX5_digitAt : ByteArray := prog_7_method_4_code
def yX5_digitAt : MethodName := ⟨RX5, "digitAt", "(I)I"⟩
abbrev cX5_findOrderFault : ByteArray := prog_7_method_5_code
def yX5_findOrderFault : MethodName := ⟨RX5, "findOrderFault", "(I)I"⟩
abbrev cX5_readJoint : ByteArray := prog_7_method_6_code
def yX5_readJoint : MethodName := ⟨RX5, "readJoint", "(LBoltRow$Joint;)I"⟩
abbrev cX5_readBolt : ByteArray := prog_7_method_7_code
def yX5_readBolt : MethodName := ⟨RX5, "readBolt", "(LBoltRow$Joint;)V"⟩
abbrev cX5_readNumber : ByteArray := prog_7_method_8_code
def yX5_readNumber : MethodName := ⟨RX5, "readNumber", "(III)I"⟩
def RX6 : String := "BoltRow"
def TX6 : u_T := fun k => match k with
  | 0 => ("BoltRow", "built", "LBoltRow$Joint;", true)
  | 1 => ("BoltRow", "growth", "LBoltRow$Growth;", true)
  | 2 => ("BoltRow", "fall", "LBoltRow$Fall;", true)
  | 3 => ("BoltRow", "trial", "LBoltRow$Joint;", true)
  | 4 => ("BoltRow", "guess", "LBoltRow$Growth;", true)
  | 5 => ("BoltRow", "text", "LBoltRow$Script;", true)
  | 6 => ("BoltRow", "told", "LBoltRow$Row;", true)
  | 7 => ("BoltRow", "seats", "[I", true)
  | _ => ("BoltRow", "bestSeats", "[I", true)
def tyX6 : Nat → FieldType := fun k => match k with
  | 0 => .object "BoltRow$Joint"
  | 1 => .object "BoltRow$Growth"
  | 2 => .object "BoltRow$Fall"
  | 3 => .object "BoltRow$Joint"
  | 4 => .object "BoltRow$Growth"
  | 5 => .object "BoltRow$Script"
  | 6 => .object "BoltRow$Row"
  | 7 => .array .int
  | _ => .array .int
abbrev wsX60 : List Cond := u_ws RX6 TX6 9
theorem nmX6 : ∀ a, a < 9 → ∀ b, b < 9 → a ≠ b → (TX6 a).2.1 ≠ (TX6 b).2.1 := by decide +kernel
theorem tyX6_ok : ∀ k, k < 9 → parseFieldDescriptor (TX6 k).2.2.1 = some (tyX6 k) := by decide +kernel
abbrev cX6_init : ByteArray := prog_1_method_1_code
def yX6_init : MethodName := ⟨RX6, "<init>", "()V"⟩
abbrev cX6_bolt : ByteArray := prog_1_method_2_code
def yX6_bolt : MethodName := ⟨RX6, "bolt", "(IIIII)I"⟩
abbrev cX6_plates : ByteArray := prog_1_method_3_code
def yX6_plates : MethodName := ⟨RX6, "plates", "(II)I"⟩
abbrev cX6_pitch : ByteArray := prog_1_method_4_code
def yX6_pitch : MethodName := ⟨RX6, "pitch", "(II)I"⟩
abbrev cX6_alters : ByteArray := prog_1_method_5_code
def yX6_alters : MethodName := ⟨RX6, "alters", "(IIIIII)I"⟩
abbrev cX6_takes : ByteArray := prog_1_method_6_code
def yX6_takes : MethodName := ⟨RX6, "takes", "(IZ)I"⟩
abbrev cX6_swaps : ByteArray := prog_1_method_7_code
def yX6_swaps : MethodName := ⟨RX6, "swaps", "(II)Z"⟩
abbrev cX6_clears : ByteArray := prog_1_method_8_code
def yX6_clears : MethodName := ⟨RX6, "clears", "()I"⟩
abbrev cX6_sign : ByteArray := prog_1_method_9_code
def yX6_sign : MethodName := ⟨RX6, "sign", "(I)I"⟩
abbrev cX6_end : ByteArray := prog_1_method_10_code
def yX6_end : MethodName := ⟨RX6, "end", "(I)Z"⟩
abbrev cX6_joint : ByteArray := prog_1_method_11_code
def yX6_joint : MethodName := ⟨RX6, "joint", "()I"⟩
abbrev cX6_part : ByteArray := prog_1_method_12_code
def yX6_part : MethodName := ⟨RX6, "part", "(II)I"⟩
abbrev cX6_force : ByteArray := prog_1_method_13_code
def yX6_force : MethodName := ⟨RX6, "force", "(II)I"⟩
abbrev cX6_slip : ByteArray := prog_1_method_14_code
def yX6_slip : MethodName := ⟨RX6, "slip", "(II)I"⟩
abbrev cX6_bears : ByteArray := prog_1_method_15_code
def yX6_bears : MethodName := ⟨RX6, "bears", "(II)I"⟩
abbrev cX6_stretch : ByteArray := prog_1_method_16_code
def yX6_stretch : MethodName := ⟨RX6, "stretch", "(I)I"⟩
abbrev cX6_state : ByteArray := prog_1_method_17_code
def yX6_state : MethodName := ⟨RX6, "state", "(II)I"⟩
abbrev cX6_idle : ByteArray := prog_1_method_18_code
def yX6_idle : MethodName := ⟨RX6, "idle", "(I)I"⟩
abbrev cX6_hardest : ByteArray := prog_1_method_19_code
def yX6_hardest : MethodName := ⟨RX6, "hardest", "(I)I"⟩
abbrev cX6_margin : ByteArray := prog_1_method_20_code
def yX6_margin : MethodName := ⟨RX6, "margin", "(I)I"⟩
abbrev cX6_work : ByteArray := prog_1_method_21_code
def yX6_work : MethodName := ⟨RX6, "work", "(I)I"⟩
abbrev cX6_set : ByteArray := prog_1_method_22_code
def yX6_set : MethodName := ⟨RX6, "set", "(II)I"⟩
abbrev cX6_falls : ByteArray := prog_1_method_23_code
def yX6_falls : MethodName := ⟨RX6, "falls", "(III)I"⟩
abbrev cX6_opens : ByteArray := prog_1_method_24_code
def yX6_opens : MethodName := ⟨RX6, "opens", "(I)I"⟩
abbrev cX6_events : ByteArray := prog_1_method_25_code
def yX6_events : MethodName := ⟨RX6, "events", "()I"⟩
abbrev cX6_event : ByteArray := prog_1_method_26_code
def yX6_event : MethodName := ⟨RX6, "event", "(I)I"⟩
abbrev cX6_peak : ByteArray := prog_1_method_27_code
def yX6_peak : MethodName := ⟨RX6, "peak", "()I"⟩
abbrev cX6_order : ByteArray := prog_1_method_28_code
def yX6_order : MethodName := ⟨RX6, "order", "()I"⟩
abbrev cX6_when : ByteArray := prog_1_method_29_code
def yX6_when : MethodName := ⟨RX6, "when", "(II)I"⟩
abbrev cX6_sheds : ByteArray := prog_1_method_30_code
def yX6_sheds : MethodName := ⟨RX6, "sheds", "(I)I"⟩
abbrev cX6_replays : ByteArray := prog_1_method_31_code
def yX6_replays : MethodName := ⟨RX6, "replays", "()I"⟩
abbrev cX6_without : ByteArray := prog_1_method_32_code
def yX6_without : MethodName := ⟨RX6, "without", "(I)I"⟩
abbrev cX6_tunes : ByteArray := prog_1_method_33_code
def yX6_tunes : MethodName := ⟨RX6, "tunes", "(I)I"⟩
abbrev cX6_arranges : ByteArray := prog_1_method_34_code
def yX6_arranges : MethodName := ⟨RX6, "arranges", "()I"⟩
abbrev cX6_fits : ByteArray := prog_1_method_35_code
def yX6_fits : MethodName := ⟨RX6, "fits", "(I)I"⟩
abbrev cX6_chance : ByteArray := prog_1_method_36_code
def yX6_chance : MethodName := ⟨RX6, "chance", "(III)I"⟩
abbrev cX6_count : ByteArray := prog_1_method_37_code
def yX6_count : MethodName := ⟨RX6, "count", "(I)I"⟩
abbrev cX6_row : ByteArray := prog_1_method_38_code
def yX6_row : MethodName := ⟨RX6, "row", "(I)J"⟩
abbrev cX6_within : ByteArray := prog_1_method_39_code
def yX6_within : MethodName := ⟨RX6, "within", "(III)Z"⟩
abbrev cX6_isLoad : ByteArray := prog_1_method_40_code
def yX6_isLoad : MethodName := ⟨RX6, "isLoad", "(I)Z"⟩
abbrev cX6_fair : ByteArray := prog_1_method_41_code
def yX6_fair : MethodName := ⟨RX6, "fair", "(IIIII)Z"⟩
abbrev cX6_come : ByteArray := prog_1_method_42_code
def yX6_come : MethodName := ⟨RX6, "come", "(IZ)I"⟩
abbrev cX6_guessPeak : ByteArray := prog_1_method_43_code
def yX6_guessPeak : MethodName := ⟨RX6, "guessPeak", "()V"⟩
abbrev cX6_bearingAt : ByteArray := prog_1_method_44_code
def yX6_bearingAt : MethodName := ⟨RX6, "bearingAt", "(I)I"⟩
abbrev cX6_boltWork : ByteArray := prog_1_method_45_code
def yX6_boltWork : MethodName := ⟨RX6, "boltWork", "(II)J"⟩
abbrev cX6_plateWork : ByteArray := prog_1_method_46_code
def yX6_plateWork : MethodName := ⟨RX6, "plateWork", "(II)J"⟩
abbrev cX6_tellGains : ByteArray := prog_1_method_47_code
def yX6_tellGains : MethodName := ⟨RX6, "tellGains", "(I)I"⟩
abbrev cX6_seat : ByteArray := prog_1_method_48_code
def yX6_seat : MethodName := ⟨RX6, "seat", "()V"⟩
abbrev cX6_nextSeats : ByteArray := prog_1_method_49_code
def yX6_nextSeats : MethodName := ⟨RX6, "nextSeats", "()Z"⟩
abbrev cX6_changeSeats : ByteArray := prog_1_method_50_code
def yX6_changeSeats : MethodName := ⟨RX6, "changeSeats", "(II)V"⟩
abbrev cX6_tellSeats : ByteArray := prog_1_method_51_code
def yX6_tellSeats : MethodName := ⟨RX6, "tellSeats", "(JJ)I"⟩
abbrev cX6_divisor : ByteArray := prog_1_method_52_code
def yX6_divisor : MethodName := ⟨RX6, "divisor", "(JJ)J"⟩
def RX7 : String := "BoltRowModel"
def TX7 : u_T := fun k => match k with
  | 0 => ("BoltRowModel", "now", "[I", true)
  | 1 => ("BoltRowModel", "many", "I", false)
  | 2 => ("BoltRowModel", "upper", "I", false)
  | 3 => ("BoltRowModel", "lower", "I", false)
  | 4 => ("BoltRowModel", "text", "[B", true)
  | 5 => ("BoltRowModel", "typed", "I", false)
  | 6 => ("BoltRowModel", "row", "[J", true)
  | 7 => ("BoltRowModel", "rowMany", "I", false)
  | 8 => ("BoltRowModel", "thrown", "I", false)
  | 9 => ("BoltRowModel", "length", "I", false)
  | 10 => ("BoltRowModel", "at", "I", false)
  | 11 => ("BoltRowModel", "wrong", "I", false)
  | 12 => ("BoltRowModel", "read", "[I", true)
  | 13 => ("BoltRowModel", "mode", "[I", true)
  | 14 => ("BoltRowModel", "under", "J", false)
  | 15 => ("BoltRowModel", "slope", "[J", true)
  | 16 => ("BoltRowModel", "base", "[J", true)
  | 17 => ("BoltRowModel", "slipSlope", "[J", true)
  | 18 => ("BoltRowModel", "slipBase", "[J", true)
  | 19 => ("BoltRowModel", "offset", "[J", true)
  | 20 => ("BoltRowModel", "bearer", "[I", true)
  | 21 => ("BoltRowModel", "bearers", "I", false)
  | 22 => ("BoltRowModel", "matrix", "[J", true)
  | 23 => ("BoltRowModel", "loadOver", "J", false)
  | 24 => ("BoltRowModel", "loadUnder", "J", false)
  | 25 => ("BoltRowModel", "eventMany", "I", false)
  | 26 => ("BoltRowModel", "eventKind", "[I", true)
  | 27 => ("BoltRowModel", "eventBolt", "[I", true)
  | 28 => ("BoltRowModel", "eventOver", "[J", true)
  | 29 => ("BoltRowModel", "eventUnder", "[J", true)
  | 30 => ("BoltRowModel", "had", "[I", true)
  | 31 => ("BoltRowModel", "nextOver", "J", false)
  | 32 => ("BoltRowModel", "nextUnder", "J", false)
  | 33 => ("BoltRowModel", "met", "[Z", true)
  | 34 => ("BoltRowModel", "fresh", "[Z", true)
  | 35 => ("BoltRowModel", "aheadOver", "[J", true)
  | 36 => ("BoltRowModel", "aheadUnder", "[J", true)
  | 37 => ("BoltRowModel", "behindOver", "[J", true)
  | 38 => ("BoltRowModel", "behindUnder", "[J", true)
  | 39 => ("BoltRowModel", "setOf", "[J", true)
  | 40 => ("BoltRowModel", "unit", "J", false)
  | 41 => ("BoltRowModel", "moreOver", "[J", true)
  | 42 => ("BoltRowModel", "moreUnder", "[J", true)
  | 43 => ("BoltRowModel", "aside", "[I", true)
  | 44 => ("BoltRowModel", "bestOver", "J", false)
  | 45 => ("BoltRowModel", "bestUnder", "J", false)
  | 46 => ("BoltRowModel", "places", "[I", true)
  | 47 => ("BoltRowModel", "bestPlaces", "[I", true)
  | _ => ("BoltRowModel", "drawn", "I", false)
def tyX7 : Nat → FieldType := fun k => match k with
  | 0 => .array .int
  | 1 => .int
  | 2 => .int
  | 3 => .int
  | 4 => .array .byte
  | 5 => .int
  | 6 => .array .long
  | 7 => .int
  | 8 => .int
  | 9 => .int
  | 10 => .int
  | 11 => .int
  | 12 => .array .int
  | 13 => .array .int
  | 14 => .long
  | 15 => .array .long
  | 16 => .array .long
  | 17 => .array .long
  | 18 => .array .long
  | 19 => .array .long
  | 20 => .array .int
  | 21 => .int
  | 22 => .array .long
  | 23 => .long
  | 24 => .long
  | 25 => .int
  | 26 => .array .int
  | 27 => .array .int
  | 28 => .array .long
  | 29 => .array .long
  | 30 => .array .int
  | 31 => .long
  | 32 => .long
  | 33 => .array .boolean
  | 34 => .array .boolean
  | 35 => .array .long
  | 36 => .array .long
  | 37 => .array .long
  | 38 => .array .long
  | 39 => .array .long
  | 40 => .long
  | 41 => .array .long
  | 42 => .array .long
  | 43 => .array .int
  | 44 => .long
  | 45 => .long
  | 46 => .array .int
  | 47 => .array .int
  | _ => .int
abbrev wsX70 : List Cond := u_ws RX7 TX7 49
theorem nmX7 : ∀ a, a < 49 → ∀ b, b < 49 → a ≠ b → (TX7 a).2.1 ≠ (TX7 b).2.1 := by decide +kernel
theorem tyX7_ok : ∀ k, k < 49 → parseFieldDescriptor (TX7 k).2.2.1 = some (tyX7 k) := by decide +kernel
abbrev cX7_init : ByteArray := prog_9_method_1_code
def yX7_init : MethodName := ⟨RX7, "<init>", "()V"⟩
abbrev cX7_thrown : ByteArray := prog_9_method_2_code
def yX7_thrown : MethodName := ⟨RX7, "thrown", "()I"⟩
abbrev cX7_in : ByteArray := prog_9_method_3_code
def yX7_in : MethodName := ⟨RX7, "in", "(JJJ)Z"⟩
abbrev cX7_lost : ByteArray := prog_9_method_4_code
def yX7_lost : MethodName := ⟨RX7, "lost", "()I"⟩
abbrev cX7_tell : ByteArray := prog_9_method_5_code
def yX7_tell : MethodName := ⟨RX7, "tell", "(J)V"⟩
abbrev cX7_common : ByteArray := prog_9_method_6_code
def yX7_common : MethodName := ⟨RX7, "common", "(JJ)J"⟩
abbrev cX7_tellFraction : ByteArray := prog_9_method_7_code
def yX7_tellFraction : MethodName := ⟨RX7, "tellFraction", "(JJ)V"⟩
abbrev cX7_of : ByteArray := prog_9_method_8_code
def yX7_of : MethodName := ⟨RX7, "of", "(II)I"⟩
abbrev cX7_isBolt : ByteArray := prog_9_method_9_code
def yX7_isBolt : MethodName := ⟨RX7, "isBolt", "(I)Z"⟩
abbrev cX7_areRight : ByteArray := prog_9_method_10_code
def yX7_areRight : MethodName := ⟨RX7, "areRight", "(IIIII)Z"⟩
abbrev cX7_lays : ByteArray := prog_9_method_11_code
def yX7_lays : MethodName := ⟨RX7, "lays", "(IIIIII)V"⟩
abbrev cX7_comes : ByteArray := prog_9_method_12_code
def yX7_comes : MethodName := ⟨RX7, "comes", "()V"⟩
abbrev cX7_bolt : ByteArray := prog_9_method_13_code
def yX7_bolt : MethodName := ⟨RX7, "bolt", "(IIIII)I"⟩
abbrev cX7_plates : ByteArray := prog_9_method_14_code
def yX7_plates : MethodName := ⟨RX7, "plates", "(II)I"⟩
abbrev cX7_pitch : ByteArray := prog_9_method_15_code
def yX7_pitch : MethodName := ⟨RX7, "pitch", "(II)I"⟩
abbrev cX7_alters : ByteArray := prog_9_method_16_code
def yX7_alters : MethodName := ⟨RX7, "alters", "(IIIIII)I"⟩
abbrev cX7_soundMany : ByteArray := prog_9_method_17_code
def yX7_soundMany : MethodName := ⟨RX7, "soundMany", "()I"⟩
abbrev cX7_takes : ByteArray := prog_9_method_18_code
def yX7_takes : MethodName := ⟨RX7, "takes", "(IZ)I"⟩
abbrev cX7_exchange : ByteArray := prog_9_method_19_code
def yX7_exchange : MethodName := ⟨RX7, "exchange", "(II)V"⟩
abbrev cX7_swaps : ByteArray := prog_9_method_20_code
def yX7_swaps : MethodName := ⟨RX7, "swaps", "(II)Z"⟩
abbrev cX7_clears : ByteArray := prog_9_method_21_code
def yX7_clears : MethodName := ⟨RX7, "clears", "()I"⟩
abbrev cX7_sign : ByteArray := prog_9_method_22_code
def yX7_sign : MethodName := ⟨RX7, "sign", "(I)I"⟩
abbrev cX7_end : ByteArray := prog_9_method_23_code
def yX7_end : MethodName := ⟨RX7, "end", "(I)Z"⟩
abbrev cX7_begin : ByteArray := prog_9_method_24_code
def yX7_begin : MethodName := ⟨RX7, "begin", "()V"⟩
abbrev cX7_here : ByteArray := prog_9_method_25_code
def yX7_here : MethodName := ⟨RX7, "here", "()I"⟩
abbrev cX7_fault : ByteArray := prog_9_method_26_code
def yX7_fault : MethodName := ⟨RX7, "fault", "(I)V"⟩
abbrev cX7_digits : ByteArray := prog_9_method_27_code
def yX7_digits : MethodName := ⟨RX7, "digits", "(III)I"⟩
abbrev cX7_joint : ByteArray := prog_9_method_28_code
def yX7_joint : MethodName := ⟨RX7, "joint", "()I"⟩
abbrev cX7_part : ByteArray := prog_9_method_29_code
def yX7_part : MethodName := ⟨RX7, "part", "(II)I"⟩
abbrev cX7_give : ByteArray := prog_9_method_30_code
def yX7_give : MethodName := ⟨RX7, "give", "(I)I"⟩
abbrev cX7_layOffsets : ByteArray := prog_9_method_31_code
def yX7_layOffsets : MethodName := ⟨RX7, "layOffsets", "()V"⟩
abbrev cX7_pitchesFrom : ByteArray := prog_9_method_32_code
def yX7_pitchesFrom : MethodName := ⟨RX7, "pitchesFrom", "(II)I"⟩
abbrev cX7_cell : ByteArray := prog_9_method_33_code
def yX7_cell : MethodName := ⟨RX7, "cell", "(II)J"⟩
abbrev cX7_layMatrix : ByteArray := prog_9_method_34_code
def yX7_layMatrix : MethodName := ⟨RX7, "layMatrix", "()V"⟩
abbrev cX7_determinant : ByteArray := prog_9_method_35_code
def yX7_determinant : MethodName := ⟨RX7, "determinant", "(IIII)J"⟩
abbrev cX7_solve : ByteArray := prog_9_method_36_code
def yX7_solve : MethodName := ⟨RX7, "solve", "()V"⟩
abbrev cX7_solveBy : ByteArray := prog_9_method_37_code
def yX7_solveBy : MethodName := ⟨RX7, "solveBy", "()V"⟩
abbrev cX7_laySlips : ByteArray := prog_9_method_38_code
def yX7_laySlips : MethodName := ⟨RX7, "laySlips", "()V"⟩
abbrev cX7_setLoad : ByteArray := prog_9_method_39_code
def yX7_setLoad : MethodName := ⟨RX7, "setLoad", "(JJ)V"⟩
abbrev cX7_forceThere : ByteArray := prog_9_method_40_code
def yX7_forceThere : MethodName := ⟨RX7, "forceThere", "(I)J"⟩
abbrev cX7_slipThere : ByteArray := prog_9_method_41_code
def yX7_slipThere : MethodName := ⟨RX7, "slipThere", "(I)J"⟩
abbrev cX7_unitThere : ByteArray := prog_9_method_42_code
def yX7_unitThere : MethodName := ⟨RX7, "unitThere", "()J"⟩
abbrev cX7_isLive : ByteArray := prog_9_method_43_code
def yX7_isLive : MethodName := ⟨RX7, "isLive", "(I)Z"⟩
abbrev cX7_note : ByteArray := prog_9_method_44_code
def yX7_note : MethodName := ⟨RX7, "note", "(II)V"⟩
abbrev cX7_leastClear : ByteArray := prog_9_method_45_code
def yX7_leastClear : MethodName := ⟨RX7, "leastClear", "()I"⟩
abbrev cX7_start : ByteArray := prog_9_method_46_code
def yX7_start : MethodName := ⟨RX7, "start", "()V"⟩
abbrev cX7_isOver : ByteArray := prog_9_method_47_code
def yX7_isOver : MethodName := ⟨RX7, "isOver", "()Z"⟩
abbrev cX7_meets : ByteArray := prog_9_method_48_code
def yX7_meets : MethodName := ⟨RX7, "meets", "(JJJ)V"⟩
abbrev cX7_findNext : ByteArray := prog_9_method_49_code
def yX7_findNext : MethodName := ⟨RX7, "findNext", "()V"⟩
abbrev cX7_goNext : ByteArray := prog_9_method_50_code
def yX7_goNext : MethodName := ⟨RX7, "goNext", "()V"⟩
abbrev cX7_begins : ByteArray := prog_9_method_51_code
def yX7_begins : MethodName := ⟨RX7, "begins", "(II)V"⟩
abbrev cX7_worst : ByteArray := prog_9_method_52_code
def yX7_worst : MethodName := ⟨RX7, "worst", "()I"⟩
abbrev cX7_breaks : ByteArray := prog_9_method_53_code
def yX7_breaks : MethodName := ⟨RX7, "breaks", "(I)V"⟩
abbrev cX7_settle : ByteArray := prog_9_method_54_code
def yX7_settle : MethodName := ⟨RX7, "settle", "()V"⟩
abbrev cX7_isSo : ByteArray := prog_9_method_55_code
def yX7_isSo : MethodName := ⟨RX7, "isSo", "()Z"⟩
abbrev cX7_grow : ByteArray := prog_9_method_56_code
def yX7_grow : MethodName := ⟨RX7, "grow", "()V"⟩
abbrev cX7_growTo : ByteArray := prog_9_method_57_code
def yX7_growTo : MethodName := ⟨RX7, "growTo", "(I)Z"⟩
abbrev cX7_isLoad : ByteArray := prog_9_method_58_code
def yX7_isLoad : MethodName := ⟨RX7, "isLoad", "(I)Z"⟩
abbrev cX7_force : ByteArray := prog_9_method_59_code
def yX7_force : MethodName := ⟨RX7, "force", "(II)I"⟩
abbrev cX7_slip : ByteArray := prog_9_method_60_code
def yX7_slip : MethodName := ⟨RX7, "slip", "(II)I"⟩
abbrev cX7_borne : ByteArray := prog_9_method_61_code
def yX7_borne : MethodName := ⟨RX7, "borne", "(I)J"⟩
abbrev cX7_bears : ByteArray := prog_9_method_62_code
def yX7_bears : MethodName := ⟨RX7, "bears", "(II)I"⟩
abbrev cX7_stretch : ByteArray := prog_9_method_63_code
def yX7_stretch : MethodName := ⟨RX7, "stretch", "(I)I"⟩
abbrev cX7_stateOf : ByteArray := prog_9_method_64_code
def yX7_stateOf : MethodName := ⟨RX7, "stateOf", "(I)I"⟩
abbrev cX7_state : ByteArray := prog_9_method_65_code
def yX7_state : MethodName := ⟨RX7, "state", "(II)I"⟩
abbrev cX7_idle : ByteArray := prog_9_method_66_code
def yX7_idle : MethodName := ⟨RX7, "idle", "(I)I"⟩
abbrev cX7_hardest : ByteArray := prog_9_method_67_code
def yX7_hardest : MethodName := ⟨RX7, "hardest", "(I)I"⟩
abbrev cX7_margin : ByteArray := prog_9_method_68_code
def yX7_margin : MethodName := ⟨RX7, "margin", "(I)I"⟩
abbrev cX7_square : ByteArray := prog_9_method_69_code
def yX7_square : MethodName := ⟨RX7, "square", "(J)J"⟩
abbrev cX7_work : ByteArray := prog_9_method_70_code
def yX7_work : MethodName := ⟨RX7, "work", "(I)I"⟩
abbrev cX7_laySets : ByteArray := prog_9_method_71_code
def yX7_laySets : MethodName := ⟨RX7, "laySets", "()V"⟩
abbrev cX7_set : ByteArray := prog_9_method_72_code
def yX7_set : MethodName := ⟨RX7, "set", "(II)I"⟩
abbrev cX7_solveFalling : ByteArray := prog_9_method_73_code
def yX7_solveFalling : MethodName := ⟨RX7, "solveFalling", "(I)V"⟩
abbrev cX7_fallenForce : ByteArray := prog_9_method_74_code
def yX7_fallenForce : MethodName := ⟨RX7, "fallenForce", "(II)J"⟩
abbrev cX7_fallenSlip : ByteArray := prog_9_method_75_code
def yX7_fallenSlip : MethodName := ⟨RX7, "fallenSlip", "(II)J"⟩
abbrev cX7_isFallen : ByteArray := prog_9_method_76_code
def yX7_isFallen : MethodName := ⟨RX7, "isFallen", "(II)Z"⟩
abbrev cX7_leastSet : ByteArray := prog_9_method_77_code
def yX7_leastSet : MethodName := ⟨RX7, "leastSet", "()J"⟩
abbrev cX7_falls : ByteArray := prog_9_method_78_code
def yX7_falls : MethodName := ⟨RX7, "falls", "(III)I"⟩
abbrev cX7_isGreater : ByteArray := prog_9_method_79_code
def yX7_isGreater : MethodName := ⟨RX7, "isGreater", "(JJJJ)Z"⟩
abbrev cX7_opens : ByteArray := prog_9_method_80_code
def yX7_opens : MethodName := ⟨RX7, "opens", "(I)I"⟩
abbrev cX7_kindMany : ByteArray := prog_9_method_81_code
def yX7_kindMany : MethodName := ⟨RX7, "kindMany", "(I)I"⟩
abbrev cX7_events : ByteArray := prog_9_method_82_code
def yX7_events : MethodName := ⟨RX7, "events", "()I"⟩
abbrev cX7_event : ByteArray := prog_9_method_83_code
def yX7_event : MethodName := ⟨RX7, "event", "(I)I"⟩
abbrev cX7_peak : ByteArray := prog_9_method_84_code
def yX7_peak : MethodName := ⟨RX7, "peak", "()I"⟩
abbrev cX7_order : ByteArray := prog_9_method_85_code
def yX7_order : MethodName := ⟨RX7, "order", "()I"⟩
abbrev cX7_eventOf : ByteArray := prog_9_method_86_code
def yX7_eventOf : MethodName := ⟨RX7, "eventOf", "(II)I"⟩
abbrev cX7_when : ByteArray := prog_9_method_87_code
def yX7_when : MethodName := ⟨RX7, "when", "(II)I"⟩
abbrev cX7_layMore : ByteArray := prog_9_method_88_code
def yX7_layMore : MethodName := ⟨RX7, "layMore", "(II)V"⟩
abbrev cX7_sheds : ByteArray := prog_9_method_89_code
def yX7_sheds : MethodName := ⟨RX7, "sheds", "(I)I"⟩
abbrev cX7_lastBreak : ByteArray := prog_9_method_90_code
def yX7_lastBreak : MethodName := ⟨RX7, "lastBreak", "()I"⟩
abbrev cX7_replays : ByteArray := prog_9_method_91_code
def yX7_replays : MethodName := ⟨RX7, "replays", "()I"⟩
abbrev cX7_layAside : ByteArray := prog_9_method_92_code
def yX7_layAside : MethodName := ⟨RX7, "layAside", "()V"⟩
abbrev cX7_comesBack : ByteArray := prog_9_method_93_code
def yX7_comesBack : MethodName := ⟨RX7, "comesBack", "()V"⟩
abbrev cX7_against : ByteArray := prog_9_method_94_code
def yX7_against : MethodName := ⟨RX7, "against", "(JJ)I"⟩
abbrev cX7_without : ByteArray := prog_9_method_95_code
def yX7_without : MethodName := ⟨RX7, "without", "(I)I"⟩
abbrev cX7_isGreatest : ByteArray := prog_9_method_96_code
def yX7_isGreatest : MethodName := ⟨RX7, "isGreatest", "()Z"⟩
abbrev cX7_tunes : ByteArray := prog_9_method_97_code
def yX7_tunes : MethodName := ⟨RX7, "tunes", "(I)I"⟩
abbrev cX7_nextPlaces : ByteArray := prog_9_method_98_code
def yX7_nextPlaces : MethodName := ⟨RX7, "nextPlaces", "()Z"⟩
abbrev cX7_swapPlaces : ByteArray := prog_9_method_99_code
def yX7_swapPlaces : MethodName := ⟨RX7, "swapPlaces", "(II)V"⟩
abbrev cX7_arranges : ByteArray := prog_9_method_100_code
def yX7_arranges : MethodName := ⟨RX7, "arranges", "()I"⟩
abbrev cX7_fits : ByteArray := prog_9_method_101_code
def yX7_fits : MethodName := ⟨RX7, "fits", "(I)I"⟩
abbrev cX7_draw : ByteArray := prog_9_method_102_code
def yX7_draw : MethodName := ⟨RX7, "draw", "(I)I"⟩
abbrev cX7_chance : ByteArray := prog_9_method_103_code
def yX7_chance : MethodName := ⟨RX7, "chance", "(III)I"⟩
abbrev cX7_breakAll : ByteArray := prog_9_method_104_code
def yX7_breakAll : MethodName := ⟨RX7, "breakAll", "()I"⟩
abbrev cX7_clearLeast : ByteArray := prog_9_method_105_code
def yX7_clearLeast : MethodName := ⟨RX7, "clearLeast", "()I"⟩
abbrev cX7_count : ByteArray := prog_9_method_106_code
def yX7_count : MethodName := ⟨RX7, "count", "(I)I"⟩
abbrev cX7_row : ByteArray := prog_9_method_107_code
def yX7_row : MethodName := ⟨RX7, "row", "(I)J"⟩
def RJx145de : String := "java/io/Serializable"
def TJx145de : u_T := fun k => match k with
  | _ => ("", "", "", false)
def tyJx145de : Nat → FieldType := fun k => match k with
  | _ => .int
abbrev wsJx145de0 : List Cond := u_ws RJx145de TJx145de 0
theorem nmJx145de : ∀ a, a < 0 → ∀ b, b < 0 → a ≠ b → (TJx145de a).2.1 ≠ (TJx145de b).2.1 := by decide +kernel
theorem tyJx145de_ok : ∀ k, k < 0 → parseFieldDescriptor (TJx145de k).2.2.1 = some (tyJx145de k) := by decide +kernel
def RJ6 : String := "java/lang/Integer"
def TJ6 : u_T := fun k => match k with
  | _ => ("", "", "", false)
def tyJ6 : Nat → FieldType := fun k => match k with
  | _ => .int
abbrev wsJ60 : List Cond := u_ws RJ6 TJ6 0
theorem nmJ6 : ∀ a, a < 0 → ∀ b, b < 0 → a ≠ b → (TJ6 a).2.1 ≠ (TJ6 b).2.1 := by decide +kernel
theorem tyJ6_ok : ∀ k, k < 0 → parseFieldDescriptor (TJ6 k).2.2.1 = some (tyJ6 k) := by decide +kernel
abbrev cJ6_bitCount_0f7a4 : ByteArray := prog_12_method_49_code
def yJ6_bitCount_0f7a4 : MethodName := ⟨RJ6, "bitCount", "(I)I"⟩
def RJ13 : String := "java/lang/Long"
def TJ13 : u_T := fun k => match k with
  | _ => ("", "", "", false)
def tyJ13 : Nat → FieldType := fun k => match k with
  | _ => .int
abbrev wsJ130 : List Cond := u_ws RJ13 TJ13 0
theorem nmJ13 : ∀ a, a < 0 → ∀ b, b < 0 → a ≠ b → (TJ13 a).2.1 ≠ (TJ13 b).2.1 := by decide +kernel
theorem tyJ13_ok : ∀ k, k < 0 → parseFieldDescriptor (TJ13 k).2.2.1 = some (tyJ13 k) := by decide +kernel
abbrev cJ13_compare_74951 : ByteArray := prog_13_method_42_code
def yJ13_compare_74951 : MethodName := ⟨RJ13, "compare", "(JJ)I"⟩
def RJ9 : String := "java/lang/Math"
def TJ9 : u_T := fun k => match k with
  | _ => ("", "", "", false)
def tyJ9 : Nat → FieldType := fun k => match k with
  | _ => .int
abbrev wsJ90 : List Cond := u_ws RJ9 TJ9 0
theorem nmJ9 : ∀ a, a < 0 → ∀ b, b < 0 → a ≠ b → (TJ9 a).2.1 ≠ (TJ9 b).2.1 := by decide +kernel
theorem tyJ9_ok : ∀ k, k < 0 → parseFieldDescriptor (TJ9 k).2.2.1 = some (tyJ9 k) := by decide +kernel
abbrev cJ9_abs_067f4 : ByteArray := prog_14_method_61_code
def yJ9_abs_067f4 : MethodName := ⟨RJ9, "abs", "(J)J"⟩
abbrev cJ9_min_7cf53 : ByteArray := prog_14_method_69_code
def yJ9_min_7cf53 : MethodName := ⟨RJ9, "min", "(II)I"⟩
abbrev cJ9_min_f86c9 : ByteArray := prog_14_method_70_code
def yJ9_min_f86c9 : MethodName := ⟨RJ9, "min", "(JJ)J"⟩
def RJ10 : String := "java/lang/System"
def TJ10 : u_T := fun k => match k with
  | _ => ("", "", "", false)
def tyJ10 : Nat → FieldType := fun k => match k with
  | _ => .int
abbrev wsJ100 : List Cond := u_ws RJ10 TJ10 0
theorem nmJ10 : ∀ a, a < 0 → ∀ b, b < 0 → a ≠ b → (TJ10 a).2.1 ≠ (TJ10 b).2.1 := by decide +kernel
theorem tyJ10_ok : ∀ k, k < 0 → parseFieldDescriptor (TJ10 k).2.2.1 = some (tyJ10 k) := by decide +kernel
def RL : String := "BoltRowLaw"
abbrev cL_part : ByteArray := method_3_code
def yL_part : MethodName := ⟨RL, "part", "(LBoltRow;II[J)I"⟩
abbrev cL_row : ByteArray := method_4_code
def yL_row : MethodName := ⟨RL, "row", "(LBoltRow;I[J)I"⟩
abbrev cL_law : ByteArray := code
def yL_law : MethodName := ⟨RL, "law", "([I)Z"⟩
theorem inJx145de : ∀ w ∈ wsJx145de0, w ∈ lw_tbl := by decide +kernel
abbrev vwCl : List vw_C := [(RX0, TX0, 8), (RX1, TX1, 18), (RX2, TX2, 10), (RX3, TX3, 14), (RX4, TX4, 2), (RX5, TX5, 4), (RX6, TX6, 9), (RX7, TX7, 49)]
