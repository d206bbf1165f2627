section
-- ===== PART A: goes FIRST, ahead of the names: the tables' words, and 'selects' of the private methods out of them =====
/-- a private method of a class that the tables say can be made, by its rows of tables_1 -/
def lw_okq (q : MethodName × Nat) : Prop := (q.1.cls ≠ "java/lang/invoke/MethodHandle" ∧ q.1.cls ≠ "java/lang/invoke/VarHandle") ∧ Cond.instantiable q.1.cls q.2 ∈ tables_1 ∧ Cond.privateMethod q.1 ∈ tables_1 ∧ Cond.instanceMethod q.1 ∈ tables_1
theorem lw_p0 : lw_okq (⟨"java/lang/Throwable", "fillInStackTrace", "(I)Ljava/lang/Throwable;"⟩, 6) := ⟨⟨by decide +kernel, by decide +kernel⟩, List.mem_of_getElem? (i := 285) (by decide +kernel), List.mem_of_getElem? (i := 283) (by decide +kernel), List.mem_of_getElem? (i := 284) (by decide +kernel)⟩
theorem lw_p1 : lw_okq (⟨"TurtleChalk", "addOrder", "(IIIZ)I"⟩, 11) := ⟨⟨by decide +kernel, by decide +kernel⟩, List.mem_of_getElem? (i := 22) (by decide +kernel), List.mem_of_getElem? (i := 331) (by decide +kernel), List.mem_of_getElem? (i := 332) (by decide +kernel)⟩
theorem lw_p2 : lw_okq (⟨"TurtleChalk$Program", "pairBlocks", "()V"⟩, 8) := ⟨⟨by decide +kernel, by decide +kernel⟩, List.mem_of_getElem? (i := 470) (by decide +kernel), List.mem_of_getElem? (i := 484) (by decide +kernel), List.mem_of_getElem? (i := 485) (by decide +kernel)⟩
theorem lw_p3 : lw_okq (⟨"TurtleChalk$Program", "lastOpenAhead", "(I)I"⟩, 8) := ⟨⟨by decide +kernel, by decide +kernel⟩, List.mem_of_getElem? (i := 470) (by decide +kernel), List.mem_of_getElem? (i := 488) (by decide +kernel), List.mem_of_getElem? (i := 489) (by decide +kernel)⟩
theorem lw_p4 : lw_okq (⟨"TurtleChalk$Program", "findWords", "()V"⟩, 8) := ⟨⟨by decide +kernel, by decide +kernel⟩, List.mem_of_getElem? (i := 470) (by decide +kernel), List.mem_of_getElem? (i := 501) (by decide +kernel), List.mem_of_getElem? (i := 502) (by decide +kernel)⟩
theorem lw_p5 : lw_okq (⟨"TurtleChalk$Program", "buildForm", "()V"⟩, 8) := ⟨⟨by decide +kernel, by decide +kernel⟩, List.mem_of_getElem? (i := 470) (by decide +kernel), List.mem_of_getElem? (i := 505) (by decide +kernel), List.mem_of_getElem? (i := 506) (by decide +kernel)⟩
theorem lw_p6 : lw_okq (⟨"TurtleChalk$Run", "follow", "(LTurtleChalk$Program;I)I"⟩, 9) := ⟨⟨by decide +kernel, by decide +kernel⟩, List.mem_of_getElem? (i := 52) (by decide +kernel), List.mem_of_getElem? (i := 577) (by decide +kernel), List.mem_of_getElem? (i := 578) (by decide +kernel)⟩
theorem lw_p7 : lw_okq (⟨"TurtleChalk$Run", "closeBlock", "(LTurtleChalk$Program;I)I"⟩, 9) := ⟨⟨by decide +kernel, by decide +kernel⟩, List.mem_of_getElem? (i := 52) (by decide +kernel), List.mem_of_getElem? (i := 583) (by decide +kernel), List.mem_of_getElem? (i := 584) (by decide +kernel)⟩
theorem lw_p8 : lw_okq (⟨"TurtleChalk$Run", "leaveWord", "()I"⟩, 9) := ⟨⟨by decide +kernel, by decide +kernel⟩, List.mem_of_getElem? (i := 52) (by decide +kernel), List.mem_of_getElem? (i := 587) (by decide +kernel), List.mem_of_getElem? (i := 588) (by decide +kernel)⟩
theorem lw_p9 : lw_okq (⟨"TurtleChalk$Run", "canCount", "()Z"⟩, 9) := ⟨⟨by decide +kernel, by decide +kernel⟩, List.mem_of_getElem? (i := 52) (by decide +kernel), List.mem_of_getElem? (i := 591) (by decide +kernel), List.mem_of_getElem? (i := 592) (by decide +kernel)⟩
theorem lw_p10 : lw_okq (⟨"TurtleChalk$Run", "valueOf", "(LTurtleChalk$Order;)I"⟩, 9) := ⟨⟨by decide +kernel, by decide +kernel⟩, List.mem_of_getElem? (i := 52) (by decide +kernel), List.mem_of_getElem? (i := 595) (by decide +kernel), List.mem_of_getElem? (i := 596) (by decide +kernel)⟩
theorem lw_p11 : lw_okq (⟨"TurtleChalk$Run", "nameAt", "(I)I"⟩, 9) := ⟨⟨by decide +kernel, by decide +kernel⟩, List.mem_of_getElem? (i := 52) (by decide +kernel), List.mem_of_getElem? (i := 599) (by decide +kernel), List.mem_of_getElem? (i := 600) (by decide +kernel)⟩
theorem lw_p12 : lw_okq (⟨"TurtleChalk$Run", "goForward", "(I)Z"⟩, 9) := ⟨⟨by decide +kernel, by decide +kernel⟩, List.mem_of_getElem? (i := 52) (by decide +kernel), List.mem_of_getElem? (i := 603) (by decide +kernel), List.mem_of_getElem? (i := 604) (by decide +kernel)⟩
theorem lw_p13 : lw_okq (⟨"TurtleChalk$Turtle", "aheadX", "()I"⟩, 4) := ⟨⟨by decide +kernel, by decide +kernel⟩, List.mem_of_getElem? (i := 58) (by decide +kernel), List.mem_of_getElem? (i := 611) (by decide +kernel), List.mem_of_getElem? (i := 612) (by decide +kernel)⟩
theorem lw_p14 : lw_okq (⟨"TurtleChalk$Turtle", "aheadY", "()I"⟩, 4) := ⟨⟨by decide +kernel, by decide +kernel⟩, List.mem_of_getElem? (i := 58) (by decide +kernel), List.mem_of_getElem? (i := 618) (by decide +kernel), List.mem_of_getElem? (i := 619) (by decide +kernel)⟩
theorem lw_p15 : lw_okq (⟨"TurtleChalk$Drawing", "takeIn", "(IIII)V"⟩, 7) := ⟨⟨by decide +kernel, by decide +kernel⟩, List.mem_of_getElem? (i := 77) (by decide +kernel), List.mem_of_getElem? (i := 634) (by decide +kernel), List.mem_of_getElem? (i := 635) (by decide +kernel)⟩
def lw_privs_1 : List (MethodName × Nat) := [(⟨"java/lang/Throwable", "fillInStackTrace", "(I)Ljava/lang/Throwable;"⟩, 6), (⟨"TurtleChalk", "addOrder", "(IIIZ)I"⟩, 11), (⟨"TurtleChalk$Program", "pairBlocks", "()V"⟩, 8), (⟨"TurtleChalk$Program", "lastOpenAhead", "(I)I"⟩, 8), (⟨"TurtleChalk$Program", "findWords", "()V"⟩, 8), (⟨"TurtleChalk$Program", "buildForm", "()V"⟩, 8), (⟨"TurtleChalk$Run", "follow", "(LTurtleChalk$Program;I)I"⟩, 9), (⟨"TurtleChalk$Run", "closeBlock", "(LTurtleChalk$Program;I)I"⟩, 9), (⟨"TurtleChalk$Run", "leaveWord", "()I"⟩, 9), (⟨"TurtleChalk$Run", "canCount", "()Z"⟩, 9), (⟨"TurtleChalk$Run", "valueOf", "(LTurtleChalk$Order;)I"⟩, 9), (⟨"TurtleChalk$Run", "nameAt", "(I)I"⟩, 9), (⟨"TurtleChalk$Run", "goForward", "(I)Z"⟩, 9), (⟨"TurtleChalk$Turtle", "aheadX", "()I"⟩, 4), (⟨"TurtleChalk$Turtle", "aheadY", "()I"⟩, 4), (⟨"TurtleChalk$Drawing", "takeIn", "(IIII)V"⟩, 7)]
theorem lw_r1 : ∀ q ∈ lw_privs_1, lw_okq q := List.forall_mem_cons.mpr ⟨lw_p0, List.forall_mem_cons.mpr ⟨lw_p1, List.forall_mem_cons.mpr ⟨lw_p2, List.forall_mem_cons.mpr ⟨lw_p3, List.forall_mem_cons.mpr ⟨lw_p4, List.forall_mem_cons.mpr ⟨lw_p5, List.forall_mem_cons.mpr ⟨lw_p6, List.forall_mem_cons.mpr ⟨lw_p7, List.forall_mem_cons.mpr ⟨lw_p8, List.forall_mem_cons.mpr ⟨lw_p9, List.forall_mem_cons.mpr ⟨lw_p10, List.forall_mem_cons.mpr ⟨lw_p11, List.forall_mem_cons.mpr ⟨lw_p12, List.forall_mem_cons.mpr ⟨lw_p13, List.forall_mem_cons.mpr ⟨lw_p14, List.forall_mem_cons.mpr ⟨lw_p15, fun _ h => absurd h List.not_mem_nil⟩⟩⟩⟩⟩⟩⟩⟩⟩⟩⟩⟩⟩⟩⟩⟩
theorem lw_p16 : lw_okq (⟨"TurtleChalk$Run", "putName", "(II)Z"⟩, 9) := ⟨⟨by decide +kernel, by decide +kernel⟩, List.mem_of_getElem? (i := 52) (by decide +kernel), List.mem_of_getElem? (i := 649) (by decide +kernel), List.mem_of_getElem? (i := 650) (by decide +kernel)⟩
theorem lw_p17 : lw_okq (⟨"TurtleChalk$Run", "beginRepeat", "(LTurtleChalk$Program;II)I"⟩, 9) := ⟨⟨by decide +kernel, by decide +kernel⟩, List.mem_of_getElem? (i := 52) (by decide +kernel), List.mem_of_getElem? (i := 653) (by decide +kernel), List.mem_of_getElem? (i := 654) (by decide +kernel)⟩
theorem lw_p18 : lw_okq (⟨"TurtleChalk$Run", "enterWord", "(LTurtleChalk$Program;II)I"⟩, 9) := ⟨⟨by decide +kernel, by decide +kernel⟩, List.mem_of_getElem? (i := 52) (by decide +kernel), List.mem_of_getElem? (i := 657) (by decide +kernel), List.mem_of_getElem? (i := 658) (by decide +kernel)⟩
theorem lw_p19 : lw_okq (⟨"TurtleChalk", "programAt", "(I)LTurtleChalk$Program;"⟩, 11) := ⟨⟨by decide +kernel, by decide +kernel⟩, List.mem_of_getElem? (i := 22) (by decide +kernel), List.mem_of_getElem? (i := 684) (by decide +kernel), List.mem_of_getElem? (i := 685) (by decide +kernel)⟩
theorem lw_p20 : lw_okq (⟨"TurtleChalk", "exerciseAt", "(I)LTurtleChalk$Exercise;"⟩, 11) := ⟨⟨by decide +kernel, by decide +kernel⟩, List.mem_of_getElem? (i := 22) (by decide +kernel), List.mem_of_getElem? (i := 716) (by decide +kernel), List.mem_of_getElem? (i := 717) (by decide +kernel)⟩
theorem lw_p21 : lw_okq (⟨"TurtleChalk", "layWall", "()V"⟩, 11) := ⟨⟨by decide +kernel, by decide +kernel⟩, List.mem_of_getElem? (i := 22) (by decide +kernel), List.mem_of_getElem? (i := 725) (by decide +kernel), List.mem_of_getElem? (i := 726) (by decide +kernel)⟩
theorem lw_p22 : lw_okq (⟨"TurtleChalk$Drawing", "rowInCorner", "([II)I"⟩, 7) := ⟨⟨by decide +kernel, by decide +kernel⟩, List.mem_of_getElem? (i := 77) (by decide +kernel), List.mem_of_getElem? (i := 746) (by decide +kernel), List.mem_of_getElem? (i := 747) (by decide +kernel)⟩
theorem lw_p23 : lw_okq (⟨"TurtleChalk$Wall", "takenFrom", "(II)J"⟩, 3) := ⟨⟨by decide +kernel, by decide +kernel⟩, List.mem_of_getElem? (i := 150) (by decide +kernel), List.mem_of_getElem? (i := 766) (by decide +kernel), List.mem_of_getElem? (i := 767) (by decide +kernel)⟩
theorem lw_p24 : lw_okq (⟨"TurtleChalk$Wall", "take", "(IIJ)V"⟩, 3) := ⟨⟨by decide +kernel, by decide +kernel⟩, List.mem_of_getElem? (i := 150) (by decide +kernel), List.mem_of_getElem? (i := 773) (by decide +kernel), List.mem_of_getElem? (i := 774) (by decide +kernel)⟩
theorem lw_p25 : lw_okq (⟨"TurtleChalk", "countMeeting", "(LTurtleChalk$Exercise;)I"⟩, 11) := ⟨⟨by decide +kernel, by decide +kernel⟩, List.mem_of_getElem? (i := 22) (by decide +kernel), List.mem_of_getElem? (i := 781) (by decide +kernel), List.mem_of_getElem? (i := 782) (by decide +kernel)⟩
theorem lw_p26 : lw_okq (⟨"TurtleChalk", "findOriginal", "(LTurtleChalk$Program;LTurtleChalk$Exercise;)I"⟩, 11) := ⟨⟨by decide +kernel, by decide +kernel⟩, List.mem_of_getElem? (i := 22) (by decide +kernel), List.mem_of_getElem? (i := 794) (by decide +kernel), List.mem_of_getElem? (i := 795) (by decide +kernel)⟩
theorem lw_p27 : lw_okq (⟨"TurtleChalk", "workAt", "(I)LTurtleChalk$Work;"⟩, 11) := ⟨⟨by decide +kernel, by decide +kernel⟩, List.mem_of_getElem? (i := 22) (by decide +kernel), List.mem_of_getElem? (i := 843) (by decide +kernel), List.mem_of_getElem? (i := 844) (by decide +kernel)⟩
theorem lw_p28 : lw_okq (⟨"TurtleChalk", "countHanging", "()I"⟩, 11) := ⟨⟨by decide +kernel, by decide +kernel⟩, List.mem_of_getElem? (i := 22) (by decide +kernel), List.mem_of_getElem? (i := 860) (by decide +kernel), List.mem_of_getElem? (i := 861) (by decide +kernel)⟩
theorem lw_p29 : lw_okq (⟨"TurtleChalk$Desk", "fillBelow", "(I[II)V"⟩, 2) := ⟨⟨by decide +kernel, by decide +kernel⟩, List.mem_of_getElem? (i := 137) (by decide +kernel), List.mem_of_getElem? (i := 938) (by decide +kernel), List.mem_of_getElem? (i := 939) (by decide +kernel)⟩
theorem lw_p30 : lw_okq (⟨"TurtleChalkModel", "isValue", "(IIZI)Z"⟩, 49) := ⟨⟨by decide +kernel, by decide +kernel⟩, List.mem_of_getElem? (i := 991) (by decide +kernel), List.mem_of_getElem? (i := 1153) (by decide +kernel), List.mem_of_getElem? (i := 1154) (by decide +kernel)⟩
theorem lw_p31 : lw_okq (⟨"TurtleChalkModel", "holds", "(I)Z"⟩, 49) := ⟨⟨by decide +kernel, by decide +kernel⟩, List.mem_of_getElem? (i := 991) (by decide +kernel), List.mem_of_getElem? (i := 1163) (by decide +kernel), List.mem_of_getElem? (i := 1164) (by decide +kernel)⟩
def lw_privs_2 : List (MethodName × Nat) := [(⟨"TurtleChalk$Run", "putName", "(II)Z"⟩, 9), (⟨"TurtleChalk$Run", "beginRepeat", "(LTurtleChalk$Program;II)I"⟩, 9), (⟨"TurtleChalk$Run", "enterWord", "(LTurtleChalk$Program;II)I"⟩, 9), (⟨"TurtleChalk", "programAt", "(I)LTurtleChalk$Program;"⟩, 11), (⟨"TurtleChalk", "exerciseAt", "(I)LTurtleChalk$Exercise;"⟩, 11), (⟨"TurtleChalk", "layWall", "()V"⟩, 11), (⟨"TurtleChalk$Drawing", "rowInCorner", "([II)I"⟩, 7), (⟨"TurtleChalk$Wall", "takenFrom", "(II)J"⟩, 3), (⟨"TurtleChalk$Wall", "take", "(IIJ)V"⟩, 3), (⟨"TurtleChalk", "countMeeting", "(LTurtleChalk$Exercise;)I"⟩, 11), (⟨"TurtleChalk", "findOriginal", "(LTurtleChalk$Program;LTurtleChalk$Exercise;)I"⟩, 11), (⟨"TurtleChalk", "workAt", "(I)LTurtleChalk$Work;"⟩, 11), (⟨"TurtleChalk", "countHanging", "()I"⟩, 11), (⟨"TurtleChalk$Desk", "fillBelow", "(I[II)V"⟩, 2), (⟨"TurtleChalkModel", "isValue", "(IIZI)Z"⟩, 49), (⟨"TurtleChalkModel", "holds", "(I)Z"⟩, 49)]
theorem lw_r2 : ∀ q ∈ lw_privs_2, lw_okq q := List.forall_mem_cons.mpr ⟨lw_p16, List.forall_mem_cons.mpr ⟨lw_p17, List.forall_mem_cons.mpr ⟨lw_p18, List.forall_mem_cons.mpr ⟨lw_p19, List.forall_mem_cons.mpr ⟨lw_p20, List.forall_mem_cons.mpr ⟨lw_p21, List.forall_mem_cons.mpr ⟨lw_p22, List.forall_mem_cons.mpr ⟨lw_p23, List.forall_mem_cons.mpr ⟨lw_p24, List.forall_mem_cons.mpr ⟨lw_p25, List.forall_mem_cons.mpr ⟨lw_p26, List.forall_mem_cons.mpr ⟨lw_p27, List.forall_mem_cons.mpr ⟨lw_p28, List.forall_mem_cons.mpr ⟨lw_p29, List.forall_mem_cons.mpr ⟨lw_p30, List.forall_mem_cons.mpr ⟨lw_p31, fun _ h => absurd h List.not_mem_nil⟩⟩⟩⟩⟩⟩⟩⟩⟩⟩⟩⟩⟩⟩⟩⟩
theorem lw_p32 : lw_okq (⟨"TurtleChalkModel", "drafts", "(IIIZ)I"⟩, 49) := ⟨⟨by decide +kernel, by decide +kernel⟩, List.mem_of_getElem? (i := 991) (by decide +kernel), List.mem_of_getElem? (i := 1167) (by decide +kernel), List.mem_of_getElem? (i := 1168) (by decide +kernel)⟩
theorem lw_p33 : lw_okq (⟨"TurtleChalkModel", "wipes", "()I"⟩, 49) := ⟨⟨by decide +kernel, by decide +kernel⟩, List.mem_of_getElem? (i := 991) (by decide +kernel), List.mem_of_getElem? (i := 1207) (by decide +kernel), List.mem_of_getElem? (i := 1208) (by decide +kernel)⟩
theorem lw_p34 : lw_okq (⟨"TurtleChalkModel", "runs", "(I)V"⟩, 49) := ⟨⟨by decide +kernel, by decide +kernel⟩, List.mem_of_getElem? (i := 991) (by decide +kernel), List.mem_of_getElem? (i := 1215) (by decide +kernel), List.mem_of_getElem? (i := 1216) (by decide +kernel)⟩
theorem lw_p35 : lw_okq (⟨"TurtleChalkModel", "begins", "(I)V"⟩, 49) := ⟨⟨by decide +kernel, by decide +kernel⟩, List.mem_of_getElem? (i := 991) (by decide +kernel), List.mem_of_getElem? (i := 1219) (by decide +kernel), List.mem_of_getElem? (i := 1220) (by decide +kernel)⟩
theorem lw_p36 : lw_okq (⟨"TurtleChalkModel", "endOf", "(II)I"⟩, 49) := ⟨⟨by decide +kernel, by decide +kernel⟩, List.mem_of_getElem? (i := 991) (by decide +kernel), List.mem_of_getElem? (i := 1223) (by decide +kernel), List.mem_of_getElem? (i := 1224) (by decide +kernel)⟩
theorem lw_p37 : lw_okq (⟨"TurtleChalkModel", "ends", "()V"⟩, 49) := ⟨⟨by decide +kernel, by decide +kernel⟩, List.mem_of_getElem? (i := 991) (by decide +kernel), List.mem_of_getElem? (i := 1227) (by decide +kernel), List.mem_of_getElem? (i := 1228) (by decide +kernel)⟩
theorem lw_p38 : lw_okq (⟨"TurtleChalkModel", "counts", "()Z"⟩, 49) := ⟨⟨by decide +kernel, by decide +kernel⟩, List.mem_of_getElem? (i := 991) (by decide +kernel), List.mem_of_getElem? (i := 1231) (by decide +kernel), List.mem_of_getElem? (i := 1232) (by decide +kernel)⟩
theorem lw_p39 : lw_okq (⟨"TurtleChalkModel", "does", "(II)V"⟩, 49) := ⟨⟨by decide +kernel, by decide +kernel⟩, List.mem_of_getElem? (i := 991) (by decide +kernel), List.mem_of_getElem? (i := 1235) (by decide +kernel), List.mem_of_getElem? (i := 1236) (by decide +kernel)⟩
theorem lw_p40 : lw_okq (⟨"TurtleChalkModel", "goes", "(I)V"⟩, 49) := ⟨⟨by decide +kernel, by decide +kernel⟩, List.mem_of_getElem? (i := 991) (by decide +kernel), List.mem_of_getElem? (i := 1239) (by decide +kernel), List.mem_of_getElem? (i := 1240) (by decide +kernel)⟩
theorem lw_p41 : lw_okq (⟨"TurtleChalkModel", "draws", "(III)V"⟩, 49) := ⟨⟨by decide +kernel, by decide +kernel⟩, List.mem_of_getElem? (i := 991) (by decide +kernel), List.mem_of_getElem? (i := 1246) (by decide +kernel), List.mem_of_getElem? (i := 1247) (by decide +kernel)⟩
theorem lw_p42 : lw_okq (⟨"TurtleChalkModel", "enters", "(II)V"⟩, 49) := ⟨⟨by decide +kernel, by decide +kernel⟩, List.mem_of_getElem? (i := 991) (by decide +kernel), List.mem_of_getElem? (i := 1250) (by decide +kernel), List.mem_of_getElem? (i := 1251) (by decide +kernel)⟩
theorem lw_p43 : lw_okq (⟨"TurtleChalkModel", "callsWord", "(II)V"⟩, 49) := ⟨⟨by decide +kernel, by decide +kernel⟩, List.mem_of_getElem? (i := 991) (by decide +kernel), List.mem_of_getElem? (i := 1254) (by decide +kernel), List.mem_of_getElem? (i := 1255) (by decide +kernel)⟩
theorem lw_p44 : lw_okq (⟨"TurtleChalkModel", "blockOf", "(II)I"⟩, 49) := ⟨⟨by decide +kernel, by decide +kernel⟩, List.mem_of_getElem? (i := 991) (by decide +kernel), List.mem_of_getElem? (i := 1258) (by decide +kernel), List.mem_of_getElem? (i := 1259) (by decide +kernel)⟩
theorem lw_p45 : lw_okq (⟨"TurtleChalkModel", "isProgram", "(I)Z"⟩, 49) := ⟨⟨by decide +kernel, by decide +kernel⟩, List.mem_of_getElem? (i := 991) (by decide +kernel), List.mem_of_getElem? (i := 1266) (by decide +kernel), List.mem_of_getElem? (i := 1267) (by decide +kernel)⟩
theorem lw_p46 : lw_okq (⟨"TurtleChalkModel", "isExercise", "(I)Z"⟩, 49) := ⟨⟨by decide +kernel, by decide +kernel⟩, List.mem_of_getElem? (i := 991) (by decide +kernel), List.mem_of_getElem? (i := 1277) (by decide +kernel), List.mem_of_getElem? (i := 1278) (by decide +kernel)⟩
theorem lw_p47 : lw_okq (⟨"TurtleChalkModel", "doesMeet", "(I)Z"⟩, 49) := ⟨⟨by decide +kernel, by decide +kernel⟩, List.mem_of_getElem? (i := 991) (by decide +kernel), List.mem_of_getElem? (i := 1281) (by decide +kernel), List.mem_of_getElem? (i := 1282) (by decide +kernel)⟩
def lw_privs_3 : List (MethodName × Nat) := [(⟨"TurtleChalkModel", "drafts", "(IIIZ)I"⟩, 49), (⟨"TurtleChalkModel", "wipes", "()I"⟩, 49), (⟨"TurtleChalkModel", "runs", "(I)V"⟩, 49), (⟨"TurtleChalkModel", "begins", "(I)V"⟩, 49), (⟨"TurtleChalkModel", "endOf", "(II)I"⟩, 49), (⟨"TurtleChalkModel", "ends", "()V"⟩, 49), (⟨"TurtleChalkModel", "counts", "()Z"⟩, 49), (⟨"TurtleChalkModel", "does", "(II)V"⟩, 49), (⟨"TurtleChalkModel", "goes", "(I)V"⟩, 49), (⟨"TurtleChalkModel", "draws", "(III)V"⟩, 49), (⟨"TurtleChalkModel", "enters", "(II)V"⟩, 49), (⟨"TurtleChalkModel", "callsWord", "(II)V"⟩, 49), (⟨"TurtleChalkModel", "blockOf", "(II)I"⟩, 49), (⟨"TurtleChalkModel", "isProgram", "(I)Z"⟩, 49), (⟨"TurtleChalkModel", "isExercise", "(I)Z"⟩, 49), (⟨"TurtleChalkModel", "doesMeet", "(I)Z"⟩, 49)]
theorem lw_r3 : ∀ q ∈ lw_privs_3, lw_okq q := List.forall_mem_cons.mpr ⟨lw_p32, List.forall_mem_cons.mpr ⟨lw_p33, List.forall_mem_cons.mpr ⟨lw_p34, List.forall_mem_cons.mpr ⟨lw_p35, List.forall_mem_cons.mpr ⟨lw_p36, List.forall_mem_cons.mpr ⟨lw_p37, List.forall_mem_cons.mpr ⟨lw_p38, List.forall_mem_cons.mpr ⟨lw_p39, List.forall_mem_cons.mpr ⟨lw_p40, List.forall_mem_cons.mpr ⟨lw_p41, List.forall_mem_cons.mpr ⟨lw_p42, List.forall_mem_cons.mpr ⟨lw_p43, List.forall_mem_cons.mpr ⟨lw_p44, List.forall_mem_cons.mpr ⟨lw_p45, List.forall_mem_cons.mpr ⟨lw_p46, List.forall_mem_cons.mpr ⟨lw_p47, fun _ h => absurd h List.not_mem_nil⟩⟩⟩⟩⟩⟩⟩⟩⟩⟩⟩⟩⟩⟩⟩⟩
theorem lw_p48 : lw_okq (⟨"TurtleChalkModel", "alike", "(II)Z"⟩, 49) := ⟨⟨by decide +kernel, by decide +kernel⟩, List.mem_of_getElem? (i := 991) (by decide +kernel), List.mem_of_getElem? (i := 1285) (by decide +kernel), List.mem_of_getElem? (i := 1286) (by decide +kernel)⟩
theorem lw_p49 : lw_okq (⟨"TurtleChalkModel", "leastOf", "(IZ)I"⟩, 49) := ⟨⟨by decide +kernel, by decide +kernel⟩, List.mem_of_getElem? (i := 991) (by decide +kernel), List.mem_of_getElem? (i := 1289) (by decide +kernel), List.mem_of_getElem? (i := 1290) (by decide +kernel)⟩
theorem lw_p50 : lw_okq (⟨"TurtleChalkModel", "isWork", "(I)Z"⟩, 49) := ⟨⟨by decide +kernel, by decide +kernel⟩, List.mem_of_getElem? (i := 991) (by decide +kernel), List.mem_of_getElem? (i := 1301) (by decide +kernel), List.mem_of_getElem? (i := 1302) (by decide +kernel)⟩
theorem lw_p51 : lw_okq (⟨"TurtleChalkModel", "hangsAll", "()V"⟩, 49) := ⟨⟨by decide +kernel, by decide +kernel⟩, List.mem_of_getElem? (i := 991) (by decide +kernel), List.mem_of_getElem? (i := 1309) (by decide +kernel), List.mem_of_getElem? (i := 1310) (by decide +kernel)⟩
theorem lw_p52 : lw_okq (⟨"TurtleChalkModel", "copied", "(I)I"⟩, 49) := ⟨⟨by decide +kernel, by decide +kernel⟩, List.mem_of_getElem? (i := 991) (by decide +kernel), List.mem_of_getElem? (i := 1313) (by decide +kernel), List.mem_of_getElem? (i := 1314) (by decide +kernel)⟩
theorem lw_p53 : lw_okq (⟨"TurtleChalkModel", "oneForm", "(II)Z"⟩, 49) := ⟨⟨by decide +kernel, by decide +kernel⟩, List.mem_of_getElem? (i := 991) (by decide +kernel), List.mem_of_getElem? (i := 1317) (by decide +kernel), List.mem_of_getElem? (i := 1318) (by decide +kernel)⟩
theorem lw_p54 : lw_okq (⟨"TurtleChalkModel", "lays", "(II)V"⟩, 49) := ⟨⟨by decide +kernel, by decide +kernel⟩, List.mem_of_getElem? (i := 991) (by decide +kernel), List.mem_of_getElem? (i := 1321) (by decide +kernel), List.mem_of_getElem? (i := 1322) (by decide +kernel)⟩
theorem lw_p55 : lw_okq (⟨"TurtleChalkModel", "hangsOne", "(I)V"⟩, 49) := ⟨⟨by decide +kernel, by decide +kernel⟩, List.mem_of_getElem? (i := 991) (by decide +kernel), List.mem_of_getElem? (i := 1328) (by decide +kernel), List.mem_of_getElem? (i := 1329) (by decide +kernel)⟩
theorem lw_p56 : lw_okq (⟨"TurtleChalkModel", "greatestOf", "(IZ)I"⟩, 49) := ⟨⟨by decide +kernel, by decide +kernel⟩, List.mem_of_getElem? (i := 991) (by decide +kernel), List.mem_of_getElem? (i := 1332) (by decide +kernel), List.mem_of_getElem? (i := 1333) (by decide +kernel)⟩
theorem lw_p57 : lw_okq (⟨"TurtleChalkModel", "isFree", "(IIII)Z"⟩, 49) := ⟨⟨by decide +kernel, by decide +kernel⟩, List.mem_of_getElem? (i := 991) (by decide +kernel), List.mem_of_getElem? (i := 1336) (by decide +kernel), List.mem_of_getElem? (i := 1337) (by decide +kernel)⟩
theorem lw_p58 : lw_okq (⟨"TurtleChalkModel", "areTwo", "(II)Z"⟩, 49) := ⟨⟨by decide +kernel, by decide +kernel⟩, List.mem_of_getElem? (i := 991) (by decide +kernel), List.mem_of_getElem? (i := 1372) (by decide +kernel), List.mem_of_getElem? (i := 1373) (by decide +kernel)⟩
theorem lw_p59 : lw_okq (⟨"TurtleChalkModel", "longestRow", "(II)I"⟩, 49) := ⟨⟨by decide +kernel, by decide +kernel⟩, List.mem_of_getElem? (i := 991) (by decide +kernel), List.mem_of_getElem? (i := 1384) (by decide +kernel), List.mem_of_getElem? (i := 1385) (by decide +kernel)⟩
theorem lw_p60 : lw_okq (⟨"TurtleChalkModel", "covers", "(III)Z"⟩, 49) := ⟨⟨by decide +kernel, by decide +kernel⟩, List.mem_of_getElem? (i := 991) (by decide +kernel), List.mem_of_getElem? (i := 1408) (by decide +kernel), List.mem_of_getElem? (i := 1409) (by decide +kernel)⟩
def lw_privs_4 : List (MethodName × Nat) := [(⟨"TurtleChalkModel", "alike", "(II)Z"⟩, 49), (⟨"TurtleChalkModel", "leastOf", "(IZ)I"⟩, 49), (⟨"TurtleChalkModel", "isWork", "(I)Z"⟩, 49), (⟨"TurtleChalkModel", "hangsAll", "()V"⟩, 49), (⟨"TurtleChalkModel", "copied", "(I)I"⟩, 49), (⟨"TurtleChalkModel", "oneForm", "(II)Z"⟩, 49), (⟨"TurtleChalkModel", "lays", "(II)V"⟩, 49), (⟨"TurtleChalkModel", "hangsOne", "(I)V"⟩, 49), (⟨"TurtleChalkModel", "greatestOf", "(IZ)I"⟩, 49), (⟨"TurtleChalkModel", "isFree", "(IIII)Z"⟩, 49), (⟨"TurtleChalkModel", "areTwo", "(II)Z"⟩, 49), (⟨"TurtleChalkModel", "longestRow", "(II)I"⟩, 49), (⟨"TurtleChalkModel", "covers", "(III)Z"⟩, 49)]
theorem lw_r4 : ∀ q ∈ lw_privs_4, lw_okq q := List.forall_mem_cons.mpr ⟨lw_p48, List.forall_mem_cons.mpr ⟨lw_p49, List.forall_mem_cons.mpr ⟨lw_p50, List.forall_mem_cons.mpr ⟨lw_p51, List.forall_mem_cons.mpr ⟨lw_p52, List.forall_mem_cons.mpr ⟨lw_p53, List.forall_mem_cons.mpr ⟨lw_p54, List.forall_mem_cons.mpr ⟨lw_p55, List.forall_mem_cons.mpr ⟨lw_p56, List.forall_mem_cons.mpr ⟨lw_p57, List.forall_mem_cons.mpr ⟨lw_p58, List.forall_mem_cons.mpr ⟨lw_p59, List.forall_mem_cons.mpr ⟨lw_p60, fun _ h => absurd h List.not_mem_nil⟩⟩⟩⟩⟩⟩⟩⟩⟩⟩⟩⟩⟩
def lw_privs : List (MethodName × Nat) := lw_privs_1 ++ (lw_privs_2 ++ (lw_privs_3 ++ (lw_privs_4)))
def lw_tbl : List Cond := k2_sels lw_privs ++ tables_1
theorem lw_privs_ok : ∀ q ∈ lw_privs, lw_okq q := by
  show ∀ q ∈ lw_privs_1 ++ (lw_privs_2 ++ (lw_privs_3 ++ (lw_privs_4))), lw_okq q
  exact List.forall_mem_append.mpr ⟨lw_r1, List.forall_mem_append.mpr ⟨lw_r2, List.forall_mem_append.mpr ⟨lw_r3, lw_r4⟩⟩⟩
-- ===== end of PART A; then your names; then what follows =====
end
section
/-! ===== BEGIN words of one list among another's, by their places ===== -/
theorem goodIn_r {big : List Cond} (ws : List Cond) (ps : List Nat) (hp : ws = ps.filterMap (fun i => big[i]?)) (h : ws.all goodWord = true) : GoodIn big ws := by
  intro w hw
  have h1 := List.all_eq_true.mp h w hw
  rw [hp] at hw
  obtain ⟨i, -, hi⟩ := List.mem_filterMap.mp hw
  have hm : w ∈ big := by first | exact List.mem_of_getElem? hi | exact List.getElem?_mem hi
  exact ⟨hm, good_of_word h1⟩
theorem goodIn_app {big a b : List Cond} (ha : GoodIn big a) (hb : GoodIn big b) : GoodIn big (a ++ b) := fun w h => (List.mem_append.mp h).elim (ha w) (hb w)
theorem goodIn_ca {big a b : List Cond} {c : Cond} (ha : GoodIn big (c :: a)) (hb : GoodIn big b) : GoodIn big (c :: (a ++ b)) := fun w h => (List.mem_cons.mp h).elim (fun e => ha w (List.mem_cons.mpr (Or.inl e))) (fun h => (List.mem_append.mp h).elim (fun h => ha w (List.mem_cons.mpr (Or.inr h))) (hb w))
theorem goodIn_sub {big ws : List Cond} (hm : ∀ w ∈ ws, w ∈ big) (h : ws.all goodWord = true) : GoodIn big ws := fun w hw => ⟨hm w hw, good_of_word (List.all_eq_true.mp h w hw)⟩
/-! ===== END ===== -/

/-! ===== BEGIN exceptions that leave a method, and their catching by the caller (launches without stack traces) ===== -/
section VXA
/-! The laws vx_back, vx_callV, vx_callS, vx_callSW, vx_throw0, vx_throwS follow proofs of the library, with one case more: JvmDerived/Free/Laws.lean (Back.of_free), Shelf42/LK1.lean (callV, callS), Shelf/KitTraced.lean (throwNew0V, throwNewS). -/
/-- where a method has thrown q: the class by its name, the cell, what was written, the world -/
def vx_T (XC : String → State → State → Prop) (st : State) (q : Addr) (t : State) (mc ms : Nat) (free : Addr → Prop) : Prop :=
  ∃ (E : String) (ce : Cell) (L : List Loc), XC E st t ∧ t.heap[q]? = some ce ∧ ce.vm = .none ∧ st.vm.findClass E = some ce.cls ∧ st.WarmedH t.vm ∧ st.sameButNew ({ t with vm := st.vm } : State) L mc ms ∧ ∀ z ∈ L, free z.base
def vx_Q (Qc : Array Value → State → Outcome → State → Prop) (XC : String → State → State → Prop) (mc ms : Nat) (free : Addr → Prop) : Array Value → State → Outcome → State → Prop := fun a st o t =>
  (Qc a st o t ∧ ∃ L, FrameEnd st o t L mc ms ∧ ∀ q ∈ L, free q.base) ∨ ∃ q, o = .threw q ∧ vx_T XC st q t mc ms free
/-- a callee that returns or throws -/
def vx_Met (l : Launch) (y : MethodName) (ws : List Cond) (rm : Room) (Pc : Array Value → State → Prop) (Qc : Array Value → State → Outcome → State → Prop) (XC : String → State → State → Prop) (mc ms : Nat) (free : Addr → Prop) : Prop :=
  MetFree l y (headSpec ws rm) Pc (fun _ _ _ _ _ => True) (vx_Q Qc XC mc ms free)
def vx_Post (XC : String → State → State → Prop) (mc ms : Nat) (free : Addr → Prop) : Pt → Array Value → Addr → Pt → Prop := fun A a q B =>
  ∃ (g : JFrame) (mk : MethodId) (t : State) (L : List Loc) (E : String) (ce : Cell), B.U.heap = t.heap ∧ B.U.vm = t.vm ∧ XC E (A.U.calling g mk a) t ∧ t.heap[q]? = some ce ∧ ce.vm = .none ∧ A.U.vm.findClass E = some ce.cls ∧ B.locs = A.locs ++ L ∧ (∀ z ∈ L, free z.base) ∧ B.cells = A.cells + mc ∧ B.slots = A.slots + ms
def vx_Back (l : Launch) (R : Room) (p : Program) (e : Env) (below : List Frame) (s : State) (sargs : Array Value) (y : MethodName) (len W9 : Nat)
    (Pre : Pt → Array Value → Prop) (Post : Pt → Array Value → Option Value → Pt → Prop) (PostX : Pt → Array Value → Addr → Pt → Prop) : Prop :=
  ∀ (m : MethodId) (meth : Method) (c : Code) (A : Pt) (g : JFrame) (ig : Instr) (mk : MethodId) (a : Array Value),
    Stand p l e R s m sargs below meth c A.U A.locs A.cells A.slots → g.method = m → g.locals.size = c.maxLocals → decode c.code g.pc = .ok (ig, len) →
    2 * g.monitorRoom + (g.stack.map fun v => v.category).sum ≤ W9 → A.U.methodNamed? y = some mk → Pre A a →
    (∃ (v : Option Value) (B : Pt), Stand p l e R s m sargs below meth c B.U B.locs B.cells B.slots ∧ Post A a v B ∧
      Steps p.tables e below (doInvoke e (A.U.setTop g) [] mk a).1 (B.U.setTop { g with pc := g.pc + len, stack := v.toList ++ g.stack })) ∨
    (∃ (q : Addr) (B : Pt), Stand p l e R s m sargs below meth c B.U B.locs B.cells B.slots ∧ PostX A a q B ∧
      Steps p.tables e below (doInvoke e (A.U.setTop g) [] mk a).1 ((B.U.setTop g).pushFrame (.throwing q)))
section Payer
variable {l : Launch} {R : Room} {p : Program} {e : Env} {below : List Frame} {s : State} {sargs : Array Value} {y : MethodName} {len W9 : Nat}
theorem vx_back {ws : List Cond} {rm : Room} {Pc : Array Value → State → Prop} {Qc : Array Value → State → Outcome → State → Prop} {XC : String → State → State → Prop} {mc ms : Nat} {free : Addr → Prop} {bytes : ByteArray} {maxL : Nat} {ret : Option FieldType}
    (hM : vx_Met l y ws rm Pc Qc XC mc ms free) (hblind : FrameBlind Pc) (hrc : rm.cells = mc) (hrs : rm.slots = ms)
    (hframes : rm.frames + 1 ≤ R.frames) (hlocals : W9 + (maxL + 11) + rm.locals ≤ R.locals)
    (hws : ∀ w ∈ ws, ∀ a' U, s.WarmedH U.vm → w.before a' U = true) (hcode : Cond.code y bytes maxL ret ∈ ws) (hinit : ∀ a' U, s.WarmedH U.vm → (Cond.initialized y.cls).before a' U = true) :
    vx_Back l R p e below s sargs y len W9 (PreOf R mc ms Pc) (PostOf Qc mc ms free) (vx_Post XC mc ms free) := by
  intro m meth c A g ig mk a X hg hsize hdg hW hn hp
  have h1 : (headSpec ws rm).pre.before a A.U = true := atoms_intro fun w hw => hws w hw _ _ X.warmed
  have h2 : (Cond.code y bytes maxL ret).before a A.U = true := hws _ hcode _ _ X.warmed
  have h3 : (Cond.initialized y.cls).before a A.U = true := hinit _ _ X.warmed
  have h4 : A.cells + (headSpec ws rm).room.cells ≤ R.cells := by rw [show (headSpec ws rm).room.cells = mc from hrc]; exact hp.1
  have h5 : A.slots + (headSpec ws rm).room.slots ≤ R.slots := by rw [show (headSpec ws rm).room.slots = ms from hrs]; exact hp.2.1
  have hPc : Pc a (A.U.calling g mk a) := hblind _ _ _ _ hp.2.2
  obtain ⟨U, Ls, c0, s0⟩ := A
  dsimp only [Pt.U, Pt.locs, Pt.cells, Pt.slots] at h1 h2 h3 h4 h5 X hn hPc ⊢
  obtain ⟨methY, cY, hmY, hcY, -, hlY, -, -, -, -⟩ := Cond.code_spec hn h2
  obtain ⟨kY, hkY, -⟩ := className_of_methodNamed hn
  have hinitY : kY.init = .initialized := Cond.initialized_spec (findClass_of_methodNamed hn) hkY h3
  have h : At U g.method c below := by rw [hg]; exact X.here
  have hlocals9 : W9 + (maxL + 11) + (headSpec ws rm).room.locals ≤ R.locals := hlocals
  have happ : (headSpec ws rm).appliesLoose y e.platform (U.calling g mk a) = true :=
    Spec.appliesLoose_calling (g := g) h hdg hn hkY hinitY
      (X.room_calling (g := g) (R' := (headSpec ws rm).room) hsize hmY hcY hframes (by rw [hlY]; omega) h4 h5) h1
  obtain ⟨mid, hmid⟩ := h.above
  have hfr : (U.setTop g).frames = (.java g :: mid) ++ below := by rw [State.frames_setTop' g h.top, hmid]; rfl
  obtain ⟨o, s₂, hsteps, -, hend, hq⟩ := Steps.callFree hM p X.admits X.cas X.clock (acts := []) hfr happ hPc trivial
  have hq' : vx_Q Qc XC mc ms free a (U.calling g mk a) o s₂ := hq
  rw [State.frames_setTop' g h.top] at hend
  obtain ⟨g₀, hg0⟩ := Option.isSome_iff_exists.mp h.top
  obtain ⟨r, hr⟩ := State.topJava?_eq_some.mp hg0
  have hr' : (({ U with heap := s₂.heap, slotsUsed := s₂.slotsUsed } : State).setVm s₂.vm).frames = .java g₀ :: r := hr
  rcases hq' with ⟨hqc, L, hfe, hL⟩ | ⟨q, rfl, E, ce, L, hx, hce, hcv, hcl, hW₂, hsm, hL⟩
  · obtain ⟨⟨v, rfl⟩, hW₂, e2, q2, q3, q4, q5, q6⟩ := id hfe
    have e3 : s₂ = ({ (U.calling g mk a).setFrames s₂.frames with heap := s₂.heap, slotsUsed := s₂.slotsUsed } : State).setVm s₂.vm := by
      have : s₂ = ({ s₂ with vm := (U.calling g mk a).vm } : State).setVm s₂.vm := rfl
      rw [e2] at this
      exact this
    obtain ⟨c₂, i₂, len₂, hc₂, hd₂, hf₂⟩ := hend
    have hW' : U.WarmedH s₂.vm := hW₂
    have hcc : c₂ = c := by
      have h1 : s₂.code? g.method = U.code? g.method := by
        rw [State.code?_eq, State.code?_eq, hW'.alike.method?]
      exact Option.some.inj (hc₂.symm.trans (h1.trans h.code))
    subst hcc
    have hlen : len₂ = len := by rw [hdg] at hd₂; cases hd₂; rfl
    subst hlen
    have hs₂ : s₂ = (({ U with heap := s₂.heap, slotsUsed := s₂.slotsUsed } : State).setVm s₂.vm).setTop { g with pc := g.pc + len₂, stack := v.toList ++ g.stack } := by
      refine e3.trans ?_
      rw [hf₂, State.calling_eq h.top, State.setFrames_setFrames, State.setTop_of_frames _ hr', hr]
      rfl
    have hsame : U.sameButNew ({ U with heap := s₂.heap, slotsUsed := s₂.slotsUsed } : State) L mc ms := by
      refine ⟨?_, q2, q3, q4, q5, q6⟩
      obtain ⟨t, ht, -⟩ := State.frames_cons hr
      show ({ U with heap := s₂.heap, slotsUsed := s₂.slotsUsed } : State) = { U.setFrames U.frames with heap := s₂.heap, slotsUsed := s₂.slotsUsed }
      rw [State.setFrames_self ht]
    subst hg
    refine Or.inl ⟨v, ⟨(({ U with heap := s₂.heap, slotsUsed := s₂.slotsUsed } : State).setVm s₂.vm), Ls ++ L, c0 + mc, s0 + ms⟩,
      ⟨X.admits, X.cas, X.clock, X.frames, X.room, X.hears, X.method, X.code, (X.here.setHeapUsed s₂.heap s₂.slotsUsed).setVm hW'.alike, X.tail, State.WarmedH.trans X.warmed hW', X.limits, X.bytes, X.same.trans (hsame.setVm s.vm)⟩,
      ⟨g, mk, s₂, L, rfl, rfl, hqc, rfl, hL, rfl, rfl⟩, ?_⟩
    show Steps p.tables e below _ ((({ U with heap := s₂.heap, slotsUsed := s₂.slotsUsed } : State).setVm s₂.vm).setTop { g with pc := g.pc + len₂, stack := v.toList ++ g.stack })
    rw [← hs₂]
    exact hsteps
  · obtain ⟨e2, q2, q3, q4, q5, q6⟩ := id hsm
    have e3 : s₂ = ({ (U.calling g mk a).setFrames s₂.frames with heap := s₂.heap, slotsUsed := s₂.slotsUsed } : State).setVm s₂.vm := by
      have : s₂ = ({ s₂ with vm := (U.calling g mk a).vm } : State).setVm s₂.vm := rfl
      rw [e2] at this
      exact this
    have hf₂ : s₂.frames = .throwing q :: .java g :: U.frames.tail := hend
    have hW' : U.WarmedH s₂.vm := hW₂
    have hs₂ : s₂ = ((({ U with heap := s₂.heap, slotsUsed := s₂.slotsUsed } : State).setVm s₂.vm).setTop g).pushFrame (.throwing q) := by
      refine e3.trans ?_
      rw [hf₂, State.calling_eq h.top, State.setFrames_setFrames, State.pushFrame, State.frames_setTop _ hr', State.setTop_of_frames _ hr', State.setFrames_setFrames, hr]
      rfl
    have hsame : U.sameButNew ({ U with heap := s₂.heap, slotsUsed := s₂.slotsUsed } : State) L mc ms := by
      refine ⟨?_, q2, q3, q4, q5, q6⟩
      obtain ⟨t, ht, -⟩ := State.frames_cons hr
      show ({ U with heap := s₂.heap, slotsUsed := s₂.slotsUsed } : State) = { U.setFrames U.frames with heap := s₂.heap, slotsUsed := s₂.slotsUsed }
      rw [State.setFrames_self ht]
    subst hg
    refine Or.inr ⟨q, ⟨(({ U with heap := s₂.heap, slotsUsed := s₂.slotsUsed } : State).setVm s₂.vm), Ls ++ L, c0 + mc, s0 + ms⟩,
      ⟨X.admits, X.cas, X.clock, X.frames, X.room, X.hears, X.method, X.code, (X.here.setHeapUsed s₂.heap s₂.slotsUsed).setVm hW'.alike, X.tail, State.WarmedH.trans X.warmed hW', X.limits, X.bytes, X.same.trans (hsame.setVm s.vm)⟩,
      ⟨g, mk, s₂, L, E, ce, rfl, rfl, hx, hce, hcv, hcl, rfl, hL, rfl, rfl⟩, ?_⟩
    show Steps p.tables e below _ (((({ U with heap := s₂.heap, slotsUsed := s₂.slotsUsed } : State).setVm s₂.vm).setTop g).pushFrame (.throwing q))
    rw [← hs₂]
    exact hsteps
end Payer
section Calls
variable {p : Program} {l : Launch} {e : Env} {R : Room} {s : State} {m : MethodId} {args : Array Value} {below : List Frame} {meth : Method} {c : Code} {T : State} {locs : List Loc} {cells slots : Nat}
theorem vx_callV (X : Stand p l e R s m args below meth c T locs cells slots) (hexec : p.tables.exec = Jvm.exec) {own C : String} {index : Nat} {y : MethodName} {bytes : ByteArray} {maxL : Nat} {ret : Option FieldType}
    (hown : s.vm.findClass own = some m.cls) (hlink : (Cond.methodLink own index y).before args s = true) (hinst : (Cond.instanceMethod y).before args s = true) (hsel : (Cond.selects C y y).before args s = true)
    (hcode : (Cond.code y bytes maxL ret).before args s = true) (hy : y.cls ≠ "java/lang/invoke/MethodHandle" ∧ y.cls ≠ "java/lang/invoke/VarHandle")
    {W9 : Nat} {Pre : Pt → Array Value → Prop} {Post : Pt → Array Value → Option Value → Pt → Prop} {PostX : Pt → Array Value → Addr → Pt → Prop} (hK : vx_Back l R p e below s args y 3 W9 Pre Post PostX)
    {b : Addr} {cellB : Cell} (hcell : T.heap[b]? = some cellB) (hobj : cellB.vm.isStatics = false) (hcls : s.vm.findClass C = some cellB.cls)
    {g : JFrame} (hg : g.method = m) (hsize : g.locals.size = c.maxLocals) {argsL rest : List Value} (hlen : ∀ sig, parseMethodDescriptor y.desc = some sig → argsL.length = sig.parameters.length)
    (hstack : g.stack = argsL.reverse ++ .ref b :: rest) (hW : 2 * g.monitorRoom + (rest.map fun v => v.category).sum ≤ W9) (hdg : decode c.code g.pc = .ok (.invokevirtual index, 3))
    (hpre : ∀ vm₁, s.WarmedH vm₁ → Pre ⟨T.setVm vm₁, locs, cells, slots⟩ (Value.ref b :: argsL).toArray) :
    (∃ (v : Option Value) (vm₁ : Vm) (B : Pt), s.WarmedH vm₁ ∧ Stand p l e R s m args below meth c B.U B.locs B.cells B.slots ∧ Post ⟨T.setVm vm₁, locs, cells, slots⟩ (Value.ref b :: argsL).toArray v B ∧
      ∀ target, Steps p.tables e below (B.U.setTop { g with pc := g.pc + 3, stack := v.toList ++ rest }) target → Steps p.tables e below (T.setTop g) target) ∨
    (∃ (q : Addr) (vm₁ : Vm) (B : Pt), s.WarmedH vm₁ ∧ Stand p l e R s m args below meth c B.U B.locs B.cells B.slots ∧ PostX ⟨T.setVm vm₁, locs, cells, slots⟩ (Value.ref b :: argsL).toArray q B ∧
      Steps p.tables e below (T.setTop g) ((B.U.setTop { g with stack := rest }).pushFrame (.throwing q))) := by
  obtain ⟨mk, methM, hnamed, hmethM, hstM, habM⟩ := Cond.instanceMethod_spec hinst
  obtain ⟨methM', cM, hmethM', -, -, -, -, -, -, hsigM⟩ := Cond.code_spec hnamed hcode
  cases hmethM.symm.trans hmethM'
  obtain ⟨c2, r2, m2, q1, q2, q3, q4, kP, hkP, hkPi⟩ := Cond.selects_spec hsel
  cases hcls.symm.trans q1
  cases (State.methodFound?_of_named hnamed hy).symm.trans q2
  cases hnamed.symm.trans q3
  have hselP : selectMethod e.platform s.vm cellB.cls mk = .method mk := by rw [Launch.admits_selectMethod X.admits]; exact q4
  obtain ⟨vm₁, X₁, hstep₁⟩ := X.invokevirtual hexec hown hlink hnamed hmethM hstM hkP hkPi hy (a := b) (cell := cellB) hcell
    (fun z h => by rw [h] at hobj; cases hobj) hselP hmethM habM hkP hkPi (g := g) hg (argsL := argsL) (rest := rest) (hlen _ hsigM) hstack hdg
  rcases hK m meth c ⟨T.setVm vm₁, locs, cells, slots⟩ { g with stack := rest } (.invokevirtual index) mk (Value.ref b :: argsL).toArray X₁ hg hsize hdg hW (X₁.named hnamed) (hpre vm₁ X₁.warmed) with ⟨v, B, X', hpost, hsteps⟩ | ⟨q, B, X', hpost, hsteps⟩
  · exact Or.inl ⟨v, vm₁, B, X₁.warmed, X', hpost, fun target h => hstep₁ _ fun acts => by rw [doInvoke_state]; exact hsteps.trans h⟩
  · exact Or.inr ⟨q, vm₁, B, X₁.warmed, X', hpost, hstep₁ _ fun acts => by rw [doInvoke_state]; exact hsteps⟩
theorem vx_callS (X : Stand p l e R s m args below meth c T locs cells slots) (hexec : p.tables.exec = Jvm.exec) {own : String} {index : Nat} {y : MethodName} {bytes : ByteArray} {maxL : Nat} {ret : Option FieldType}
    (hown : s.vm.findClass own = some m.cls) (hlink : (Cond.methodLink own index y).before args s = true) (hstat : (Cond.static y).before args s = true) (hinit : (Cond.initialized y.cls).before args s = true)
    (hcode : (Cond.code y bytes maxL ret).before args s = true) (hy : y.cls ≠ "java/lang/invoke/MethodHandle" ∧ y.cls ≠ "java/lang/invoke/VarHandle")
    {W9 : Nat} {Pre : Pt → Array Value → Prop} {Post : Pt → Array Value → Option Value → Pt → Prop} {PostX : Pt → Array Value → Addr → Pt → Prop} (hK : vx_Back l R p e below s args y 3 W9 Pre Post PostX)
    {g : JFrame} (hg : g.method = m) (hsize : g.locals.size = c.maxLocals) {argsL rest : List Value} (hlen : ∀ sig, parseMethodDescriptor y.desc = some sig → argsL.length = sig.parameters.length)
    (hstack : g.stack = argsL.reverse ++ rest) (hW : 2 * g.monitorRoom + (rest.map fun v => v.category).sum ≤ W9) (hdg : decode c.code g.pc = .ok (.invokestatic index, 3))
    (hpre : ∀ vm₁, s.WarmedH vm₁ → Pre ⟨T.setVm vm₁, locs, cells, slots⟩ argsL.toArray) :
    (∃ (v : Option Value) (vm₁ : Vm) (B : Pt), s.WarmedH vm₁ ∧ Stand p l e R s m args below meth c B.U B.locs B.cells B.slots ∧ Post ⟨T.setVm vm₁, locs, cells, slots⟩ argsL.toArray v B ∧
      ∀ target, Steps p.tables e below (B.U.setTop { g with pc := g.pc + 3, stack := v.toList ++ rest }) target → Steps p.tables e below (T.setTop g) target) ∨
    (∃ (q : Addr) (vm₁ : Vm) (B : Pt), s.WarmedH vm₁ ∧ Stand p l e R s m args below meth c B.U B.locs B.cells B.slots ∧ PostX ⟨T.setVm vm₁, locs, cells, slots⟩ argsL.toArray q B ∧
      Steps p.tables e below (T.setTop g) ((B.U.setTop { g with stack := rest }).pushFrame (.throwing q))) := by
  obtain ⟨mk, hnamed⟩ := Cond.code_named hcode
  obtain ⟨methM, cM, hmethM, -, -, -, -, -, -, hsigM⟩ := Cond.code_spec hnamed hcode
  have hstatic : methM.isStatic = true := Cond.static_spec hnamed hmethM hstat
  obtain ⟨kP, hkP, -⟩ := className_of_methodNamed hnamed
  have hinitP : kP.init = .initialized := Cond.initialized_spec (findClass_of_methodNamed hnamed) hkP hinit
  obtain ⟨vm₁, X₁, hstep₁⟩ := X.invokestatic hexec hown hlink hnamed hmethM hstatic hkP hinitP hy (g := g) hg (argsL := argsL) (rest := rest) (hlen _ hsigM) hstack hdg
  rcases hK m meth c ⟨T.setVm vm₁, locs, cells, slots⟩ { g with stack := rest } (.invokestatic index) mk argsL.toArray X₁ hg hsize hdg hW (X₁.named hnamed) (hpre vm₁ X₁.warmed) with ⟨v, B, X', hpost, hsteps⟩ | ⟨q, B, X', hpost, hsteps⟩
  · exact Or.inl ⟨v, vm₁, B, X₁.warmed, X', hpost, fun target h => hstep₁ _ fun acts => by rw [doInvoke_state]; exact hsteps.trans h⟩
  · exact Or.inr ⟨q, vm₁, B, X₁.warmed, X', hpost, hstep₁ _ fun acts => by rw [doInvoke_state]; exact hsteps⟩
end Calls
theorem vx_cls {s : State} {T : State} {vm₁ : Vm} {E : String} {k : ClassId} (hW : s.WarmedH vm₁) (h : (T.setVm vm₁).vm.findClass E = some k) : s.vm.findClass E = some k := by
  have h1 : vm₁.findClass E = some k := h
  rw [hW.alike.findClass] at h1
  exact h1
/-- the method's frame g, with q thrown over it -/
def vx_W (p : Program) (l : Launch) (e : Env) (R : Room) (s : State) (m : MethodId) (args : Array Value) (below : List Frame) (meth : Method) (c : Code) (H : Heap) (locs : List Loc) (cells slots : Nat) (Q : State → Prop) (g : JFrame) (q : Addr) : Prop :=
  ∀ T : State, T.heap = H → Stand p l e R s m args below meth c T locs cells slots → ∃ t, Steps p.tables e below ((T.setTop g).pushFrame (.throwing q)) t ∧ Q t
def vx_Run (p : Program) (l : Launch) (e : Env) (R : Room) (s : State) (m : MethodId) (args : Array Value) (below : List Frame) (meth : Method) (c : Code) (H : Heap) (locs : List Loc) (cells slots mc ms : Nat) (g : JFrame) (rest : List Value) (Qa : State → Outcome → State → Prop) (XC : String → State → State → Prop) (free : Addr → Prop) : Prop :=
  ∀ T : State, T.heap = H → Stand p l e R s m args below meth c T locs cells slots →
    (∃ (v : Option Value) (st₀ t T' : State) (L : List Loc), st₀.heap = H ∧ Stand p l e R s m args below meth c T' (locs ++ L) (cells + mc) (slots + ms) ∧ (∀ q ∈ L, free q.base) ∧ T'.heap = t.heap ∧ T'.vm = t.vm ∧ Qa st₀ (.returned v) t ∧
      Goes p e below T g T' { g with pc := g.pc + 3, stack := v.toList ++ rest }) ∨
    (∃ (q : Addr) (st₀ t T' : State) (L : List Loc) (E : String) (ce : Cell), st₀.heap = H ∧ Stand p l e R s m args below meth c T' (locs ++ L) (cells + mc) (slots + ms) ∧ (∀ z ∈ L, free z.base) ∧ T'.heap = t.heap ∧ T'.vm = t.vm ∧ XC E st₀ t ∧ t.heap[q]? = some ce ∧ ce.vm = .none ∧ s.vm.findClass E = some ce.cls ∧
      Steps p.tables e below (T.setTop g) ((T'.setTop { g with stack := rest }).pushFrame (.throwing q)))
def vx_X {S : Type} (px : S → Prop) (B : String → S → State → Prop) (A : Nat → Prop) : String → State → State → Prop := fun E st t => ∃ u : S, px u ∧ B E u t ∧ va_F A st t
section Runs
variable {p : Program} {l : Launch} {e : Env} {R : Room} {s : State} {m : MethodId} {args : Array Value} {below : List Frame} {meth : Method} {c : Code} {H : Heap} {locs : List Loc} {cells slots : Nat}
variable {y : MethodName} {bytes cc : ByteArray} {maxL nL mc ms n index : Nat} {ret : Option FieldType} {ws : List Cond} {rm : Room} {Pc : Array Value → State → Prop} {Qc : Array Value → State → Outcome → State → Prop} {XC : String → State → State → Prop} {free : Addr → Prop} {Ts : List Cond} {own C : String} {b : Addr} {As rest : List Value} {g : JFrame}
theorem vx_callBack (cb : CallB R s args own index y bytes maxL ret ws rm mc ms n) (hM : vx_Met l y ws rm Pc Qc XC mc ms free) (hbl : FrameBlind Pc) : vx_Back l R p e below s args y 3 8 (PreOf R mc ms Pc) (PostOf Qc mc ms free) (vx_Post XC mc ms free) := by
  obtain ⟨hrc, hrs, hfr, hlo, hws, hcw, -, hini, -⟩ := cb
  exact vx_back (bytes := bytes) (maxL := maxL) (ret := ret) hM hbl hrc hrs hfr hlo hws hcw (fun a' U hW => word_at hW (Or.inl (by first | rfl | simp [Cond.onTables, Cond.keeps, Cond.steady])) hini)
theorem vx_runV (S : CallFix p m c cc nL s args Ts own) (hM : vx_Met l y ws rm Pc Qc XC mc ms free) (cw : CallW R s args own C index y bytes maxL ret ws rm mc ms n) (hp : PreV s H C b Pc As)
    (hg : g.method = m) (hn : As.length = n) (hsize : g.locals.size = nL) (hstack : g.stack = As.reverse ++ .ref b :: rest) (hW : 2 * g.monitorRoom + (rest.map fun v => v.category).sum ≤ 8) (hdg : decode cc g.pc = .ok (.invokevirtual index, 3)) (hf : cells + mc ≤ R.cells ∧ slots + ms ≤ R.slots) :
    vx_Run p l e R s m args below meth c H locs cells slots mc ms g rest (Qc (Value.ref b :: As).toArray) XC free := by
  have hK : vx_Back l R p e below s args y 3 8 (PreOf R mc ms Pc) (PostOf Qc mc ms free) (vx_Post XC mc ms free) := vx_callBack cw.1 hM hp.1
  obtain ⟨⟨-, -, -, -, -, -, hcode, -, hy, hlen, hl⟩, hin, hse⟩ := cw
  obtain ⟨hx, hb, hml, ho, -⟩ := S
  obtain ⟨-, ⟨cellB, hcB, hoB, hclB⟩, hPc⟩ := hp
  intro T hT X
  rcases vx_callV X hx (C := C) (bytes := bytes) (maxL := maxL) (ret := ret) ho hl hin hse hcode hy hK (by rw [hT]; exact hcB) hoB hclB hg (hsize.trans hml.symm) (argsL := As) (rest := rest) (fun sig h => hn.trans (hlen sig h)) hstack hW (by rw [hb]; exact hdg)
    (fun vm₁ hW₁ => ⟨hf.1, hf.2, hPc (T.setVm vm₁) hT hW₁⟩) with ⟨v, vm₁, ⟨U', l2, c2, s2⟩, hW₁, X', ⟨g', mk, t, L, e1, e2, hq, h1, hL, h2, h3⟩, st⟩ | ⟨q, vm₁, ⟨U', l2, c2, s2⟩, hW₁, X', ⟨g', mk, t, L, E, ce, e1, e2, hq, hce, hcv, hcl, h1, hL, h2, h3⟩, st⟩
  · dsimp only [Pt.U, Pt.locs, Pt.cells, Pt.slots] at X' e1 e2 h1 h2 h3 st
    subst h1; subst h2; subst h3
    exact Or.inl ⟨v, (T.setVm vm₁).calling g' mk (Value.ref b :: As).toArray, t, U', L, hT, X', hL, e1, e2, hq, st⟩
  · dsimp only [Pt.U, Pt.locs, Pt.cells, Pt.slots] at X' e1 e2 h1 h2 h3 st hcl
    subst h1; subst h2; subst h3
    exact Or.inr ⟨q, (T.setVm vm₁).calling g' mk (Value.ref b :: As).toArray, t, U', L, E, ce, hT, X', hL, e1, e2, hq, hce, hcv, vx_cls hW₁ hcl, st⟩
theorem vx_runS (S : CallFix p m c cc nL s args Ts own) (hM : vx_Met l y ws rm Pc Qc XC mc ms free) (cw : CallB R s args own index y bytes maxL ret ws rm mc ms n ∧ (Cond.static y).before args s = true) (hp : PreS s H Pc As)
    (hg : g.method = m) (hn : As.length = n) (hsize : g.locals.size = nL) (hstack : g.stack = As.reverse ++ rest) (hW : 2 * g.monitorRoom + (rest.map fun v => v.category).sum ≤ 8) (hdg : decode cc g.pc = .ok (.invokestatic index, 3)) (hf : cells + mc ≤ R.cells ∧ slots + ms ≤ R.slots) :
    vx_Run p l e R s m args below meth c H locs cells slots mc ms g rest (Qc As.toArray) XC free := by
  have hK : vx_Back l R p e below s args y 3 8 (PreOf R mc ms Pc) (PostOf Qc mc ms free) (vx_Post XC mc ms free) := vx_callBack cw.1 hM hp.1
  obtain ⟨⟨-, -, -, -, -, -, hcode, hini, hy, hlen, hl⟩, hstt⟩ := cw
  obtain ⟨hx, hb, hml, ho, -⟩ := S
  intro T hT X
  rcases vx_callS X hx (bytes := bytes) (maxL := maxL) (ret := ret) ho hl hstt hini hcode hy hK hg (hsize.trans hml.symm) (argsL := As) (rest := rest) (fun sig h => hn.trans (hlen sig h)) hstack hW (by rw [hb]; exact hdg)
    (fun vm₁ hW₁ => ⟨hf.1, hf.2, hp.2 (T.setVm vm₁) hT hW₁⟩) with ⟨v, vm₁, ⟨U', l2, c2, s2⟩, hW₁, X', ⟨g', mk, t, L, e1, e2, hq, h1, hL, h2, h3⟩, st⟩ | ⟨q, vm₁, ⟨U', l2, c2, s2⟩, hW₁, X', ⟨g', mk, t, L, E, ce, e1, e2, hq, hce, hcv, hcl, h1, hL, h2, h3⟩, st⟩
  · dsimp only [Pt.U, Pt.locs, Pt.cells, Pt.slots] at X' e1 e2 h1 h2 h3 st
    subst h1; subst h2; subst h3
    exact Or.inl ⟨v, (T.setVm vm₁).calling g' mk As.toArray, t, U', L, hT, X', hL, e1, e2, hq, st⟩
  · dsimp only [Pt.U, Pt.locs, Pt.cells, Pt.slots] at X' e1 e2 h1 h2 h3 st hcl
    subst h1; subst h2; subst h3
    exact Or.inr ⟨q, (T.setVm vm₁).calling g' mk As.toArray, t, U', L, E, ce, hT, X', hL, e1, e2, hq, hce, hcv, vx_cls hW₁ hcl, st⟩
end Runs
section Rows
variable {p : Program} {l : Launch} {e : Env} {R : Room} {s : State} {m : MethodId} {args : Array Value} {below : List Frame} {meth : Method} {c : Code} {H : Heap} {locs : List Loc} {cells slots : Nat} {Q : State → Prop}
variable {mc ms : Nat} {free : Addr → Prop} {A0 A1 : Nat → Prop} {H0 : Heap} {a : Array Value} {pc : Nat} {ls : Array Slot} {st0 rest : List Value}
theorem vx_keep {st₀ t T' : State} {L : List Loc} (h0 : st₀.heap = H) (e1 : T'.heap = t.heap) (hS : va_S A0 H0 H locs) (hA : ∀ q, q < H.size → A1 q → A0 q) (hf : ∀ q, free q → A0 q) (hL : ∀ q ∈ L, free q.base) (hF : va_F A1 st₀ t) :
    H.size ≤ T'.heap.size ∧ (∀ q : Nat, q < H.size → ¬ A1 q → T'.heap[q]? = H[q]?) ∧ va_S A0 H0 T'.heap (locs ++ L) := by
  obtain ⟨hz, hk⟩ := hF
  rw [h0] at hz hk
  exact ⟨by rw [e1]; exact hz, fun q h1 h2 => by rw [e1]; exact hk q h1 h2,
    ⟨Nat.le_trans hS.1 (by rw [e1]; exact hz), fun q h1 h2 => by rw [e1, hk q (Nat.lt_of_lt_of_le h1 hS.1) (fun z => h2 (hA q (Nat.lt_of_lt_of_le h1 hS.1) z))]; exact hS.2.1 q h1 h2, fun q hq => by
      rcases List.mem_append.mp hq with h | h
      · exact hS.2.2 q h
      · exact hf _ (hL q h)⟩⟩
theorem vx_calli {S SX : Type} {post : Int32 → S → Prop} {px : SX → Prop} {B : S → State → Prop} {BX : String → SX → State → Prop} {AX : Nat → Prop} (hr : vx_Run p l e R s m args below meth c H locs cells slots mc ms (F0 m pc ls st0) rest (va_Qi post B A1 a) (vx_X px BX AX) free) (hS : va_S A0 H0 H locs) (hA : ∀ q, q < H.size → A1 q → A0 q) (hf : ∀ q, free q → A0 q) (hAX : ∀ q, q < H.size → AX q → A0 q)
    (kx : ∀ (E : String) (ce : Cell) (q9 : Addr) (u : SX) (t : State) (H1 : Heap) (locs1 : List Loc), t.heap = H1 → s.vm.Alike t.vm → px u → BX E u t → H.size ≤ H1.size → (∀ q : Nat, q < H.size → ¬ AX q → H1[q]? = H[q]?) → va_S A0 H0 H1 locs1 → H1[q9]? = some ce → ce.vm = .none → s.vm.findClass E = some ce.cls → vx_W p l e R s m args below meth c H1 locs1 (cells + mc) (slots + ms) Q (F0 m pc ls rest) q9)
    (kk : ∀ (r : Int32) (u : S) (t : State) (H1 : Heap) (locs1 : List Loc), t.heap = H1 → s.vm.Alike t.vm → post r u → B u t → H.size ≤ H1.size → (∀ q : Nat, q < H.size → ¬ A1 q → H1[q]? = H[q]?) → va_S A0 H0 H1 locs1 → W p l e R s m args below meth c H1 locs1 (cells + mc) (slots + ms) Q (F0 m (pc + 3) ls (.int r :: rest))) : W p l e R s m args below meth c H locs cells slots Q (F0 m pc ls st0) := by
  intro T hT X
  rcases hr T hT X with ⟨v, st₀, t, T', L, h0, X', hL, e1, e2, ⟨⟨r, u, hv, hp, hb⟩, hF⟩, st⟩ | ⟨q, st₀, t, T', L, E, ce, h0, X', hL, e1, e2, ⟨u, hp, hb, hF⟩, hce, hcv, hcl, st⟩
  · cases hv
    obtain ⟨k1, k2, k3⟩ := vx_keep h0 e1 hS hA hf hL hF
    obtain ⟨t2, a1, b1⟩ := kk r u t T'.heap (locs ++ L) e1.symm (by rw [← e2]; exact X'.warmed.alike) hp hb k1 k2 k3 T' rfl X'
    exact ⟨t2, st t2 a1, b1⟩
  · obtain ⟨k1, k2, k3⟩ := vx_keep h0 e1 hS hAX hf hL hF
    obtain ⟨t2, a1, b1⟩ := kx E ce q u t T'.heap (locs ++ L) e1.symm (by rw [← e2]; exact X'.warmed.alike) hp hb k1 k2 k3 (by rw [e1]; exact hce) hcv hcl T' rfl X'
    exact ⟨t2, st.trans a1, b1⟩
theorem vx_calll {S SX : Type} {post : Int64 → S → Prop} {px : SX → Prop} {B : S → State → Prop} {BX : String → SX → State → Prop} {AX : Nat → Prop} (hr : vx_Run p l e R s m args below meth c H locs cells slots mc ms (F0 m pc ls st0) rest (va_Ql post B A1 a) (vx_X px BX AX) free) (hS : va_S A0 H0 H locs) (hA : ∀ q, q < H.size → A1 q → A0 q) (hf : ∀ q, free q → A0 q) (hAX : ∀ q, q < H.size → AX q → A0 q)
    (kx : ∀ (E : String) (ce : Cell) (q9 : Addr) (u : SX) (t : State) (H1 : Heap) (locs1 : List Loc), t.heap = H1 → s.vm.Alike t.vm → px u → BX E u t → H.size ≤ H1.size → (∀ q : Nat, q < H.size → ¬ AX q → H1[q]? = H[q]?) → va_S A0 H0 H1 locs1 → H1[q9]? = some ce → ce.vm = .none → s.vm.findClass E = some ce.cls → vx_W p l e R s m args below meth c H1 locs1 (cells + mc) (slots + ms) Q (F0 m pc ls rest) q9)
    (kk : ∀ (r : Int64) (u : S) (t : State) (H1 : Heap) (locs1 : List Loc), t.heap = H1 → s.vm.Alike t.vm → post r u → B u t → H.size ≤ H1.size → (∀ q : Nat, q < H.size → ¬ A1 q → H1[q]? = H[q]?) → va_S A0 H0 H1 locs1 → W p l e R s m args below meth c H1 locs1 (cells + mc) (slots + ms) Q (F0 m (pc + 3) ls (.long r :: rest))) : W p l e R s m args below meth c H locs cells slots Q (F0 m pc ls st0) := by
  intro T hT X
  rcases hr T hT X with ⟨v, st₀, t, T', L, h0, X', hL, e1, e2, ⟨⟨r, u, hv, hp, hb⟩, hF⟩, st⟩ | ⟨q, st₀, t, T', L, E, ce, h0, X', hL, e1, e2, ⟨u, hp, hb, hF⟩, hce, hcv, hcl, st⟩
  · cases hv
    obtain ⟨k1, k2, k3⟩ := vx_keep h0 e1 hS hA hf hL hF
    obtain ⟨t2, a1, b1⟩ := kk r u t T'.heap (locs ++ L) e1.symm (by rw [← e2]; exact X'.warmed.alike) hp hb k1 k2 k3 T' rfl X'
    exact ⟨t2, st t2 a1, b1⟩
  · obtain ⟨k1, k2, k3⟩ := vx_keep h0 e1 hS hAX hf hL hF
    obtain ⟨t2, a1, b1⟩ := kx E ce q u t T'.heap (locs ++ L) e1.symm (by rw [← e2]; exact X'.warmed.alike) hp hb k1 k2 k3 (by rw [e1]; exact hce) hcv hcl T' rfl X'
    exact ⟨t2, st.trans a1, b1⟩
theorem vx_callf {S SX : Type} {post : UInt32 → S → Prop} {px : SX → Prop} {B : S → State → Prop} {BX : String → SX → State → Prop} {AX : Nat → Prop} (hr : vx_Run p l e R s m args below meth c H locs cells slots mc ms (F0 m pc ls st0) rest (va_Qf post B A1 a) (vx_X px BX AX) free) (hS : va_S A0 H0 H locs) (hA : ∀ q, q < H.size → A1 q → A0 q) (hf : ∀ q, free q → A0 q) (hAX : ∀ q, q < H.size → AX q → A0 q)
    (kx : ∀ (E : String) (ce : Cell) (q9 : Addr) (u : SX) (t : State) (H1 : Heap) (locs1 : List Loc), t.heap = H1 → s.vm.Alike t.vm → px u → BX E u t → H.size ≤ H1.size → (∀ q : Nat, q < H.size → ¬ AX q → H1[q]? = H[q]?) → va_S A0 H0 H1 locs1 → H1[q9]? = some ce → ce.vm = .none → s.vm.findClass E = some ce.cls → vx_W p l e R s m args below meth c H1 locs1 (cells + mc) (slots + ms) Q (F0 m pc ls rest) q9)
    (kk : ∀ (r : UInt32) (u : S) (t : State) (H1 : Heap) (locs1 : List Loc), t.heap = H1 → s.vm.Alike t.vm → post r u → B u t → H.size ≤ H1.size → (∀ q : Nat, q < H.size → ¬ A1 q → H1[q]? = H[q]?) → va_S A0 H0 H1 locs1 → W p l e R s m args below meth c H1 locs1 (cells + mc) (slots + ms) Q (F0 m (pc + 3) ls (.float r :: rest))) : W p l e R s m args below meth c H locs cells slots Q (F0 m pc ls st0) := by
  intro T hT X
  rcases hr T hT X with ⟨v, st₀, t, T', L, h0, X', hL, e1, e2, ⟨⟨r, u, hv, hp, hb⟩, hF⟩, st⟩ | ⟨q, st₀, t, T', L, E, ce, h0, X', hL, e1, e2, ⟨u, hp, hb, hF⟩, hce, hcv, hcl, st⟩
  · cases hv
    obtain ⟨k1, k2, k3⟩ := vx_keep h0 e1 hS hA hf hL hF
    obtain ⟨t2, a1, b1⟩ := kk r u t T'.heap (locs ++ L) e1.symm (by rw [← e2]; exact X'.warmed.alike) hp hb k1 k2 k3 T' rfl X'
    exact ⟨t2, st t2 a1, b1⟩
  · obtain ⟨k1, k2, k3⟩ := vx_keep h0 e1 hS hAX hf hL hF
    obtain ⟨t2, a1, b1⟩ := kx E ce q u t T'.heap (locs ++ L) e1.symm (by rw [← e2]; exact X'.warmed.alike) hp hb k1 k2 k3 (by rw [e1]; exact hce) hcv hcl T' rfl X'
    exact ⟨t2, st.trans a1, b1⟩
theorem vx_calld {S SX : Type} {post : UInt64 → S → Prop} {px : SX → Prop} {B : S → State → Prop} {BX : String → SX → State → Prop} {AX : Nat → Prop} (hr : vx_Run p l e R s m args below meth c H locs cells slots mc ms (F0 m pc ls st0) rest (va_Qd post B A1 a) (vx_X px BX AX) free) (hS : va_S A0 H0 H locs) (hA : ∀ q, q < H.size → A1 q → A0 q) (hf : ∀ q, free q → A0 q) (hAX : ∀ q, q < H.size → AX q → A0 q)
    (kx : ∀ (E : String) (ce : Cell) (q9 : Addr) (u : SX) (t : State) (H1 : Heap) (locs1 : List Loc), t.heap = H1 → s.vm.Alike t.vm → px u → BX E u t → H.size ≤ H1.size → (∀ q : Nat, q < H.size → ¬ AX q → H1[q]? = H[q]?) → va_S A0 H0 H1 locs1 → H1[q9]? = some ce → ce.vm = .none → s.vm.findClass E = some ce.cls → vx_W p l e R s m args below meth c H1 locs1 (cells + mc) (slots + ms) Q (F0 m pc ls rest) q9)
    (kk : ∀ (r : UInt64) (u : S) (t : State) (H1 : Heap) (locs1 : List Loc), t.heap = H1 → s.vm.Alike t.vm → post r u → B u t → H.size ≤ H1.size → (∀ q : Nat, q < H.size → ¬ A1 q → H1[q]? = H[q]?) → va_S A0 H0 H1 locs1 → W p l e R s m args below meth c H1 locs1 (cells + mc) (slots + ms) Q (F0 m (pc + 3) ls (.double r :: rest))) : W p l e R s m args below meth c H locs cells slots Q (F0 m pc ls st0) := by
  intro T hT X
  rcases hr T hT X with ⟨v, st₀, t, T', L, h0, X', hL, e1, e2, ⟨⟨r, u, hv, hp, hb⟩, hF⟩, st⟩ | ⟨q, st₀, t, T', L, E, ce, h0, X', hL, e1, e2, ⟨u, hp, hb, hF⟩, hce, hcv, hcl, st⟩
  · cases hv
    obtain ⟨k1, k2, k3⟩ := vx_keep h0 e1 hS hA hf hL hF
    obtain ⟨t2, a1, b1⟩ := kk r u t T'.heap (locs ++ L) e1.symm (by rw [← e2]; exact X'.warmed.alike) hp hb k1 k2 k3 T' rfl X'
    exact ⟨t2, st t2 a1, b1⟩
  · obtain ⟨k1, k2, k3⟩ := vx_keep h0 e1 hS hAX hf hL hF
    obtain ⟨t2, a1, b1⟩ := kx E ce q u t T'.heap (locs ++ L) e1.symm (by rw [← e2]; exact X'.warmed.alike) hp hb k1 k2 k3 (by rw [e1]; exact hce) hcv hcl T' rfl X'
    exact ⟨t2, st.trans a1, b1⟩
theorem vx_callv {S SX : Type} {post : S → Prop} {px : SX → Prop} {B : S → State → Prop} {BX : String → SX → State → Prop} {AX : Nat → Prop} (hr : vx_Run p l e R s m args below meth c H locs cells slots mc ms (F0 m pc ls st0) rest (va_Qv post B A1 a) (vx_X px BX AX) free) (hS : va_S A0 H0 H locs) (hA : ∀ q, q < H.size → A1 q → A0 q) (hf : ∀ q, free q → A0 q) (hAX : ∀ q, q < H.size → AX q → A0 q)
    (kx : ∀ (E : String) (ce : Cell) (q9 : Addr) (u : SX) (t : State) (H1 : Heap) (locs1 : List Loc), t.heap = H1 → s.vm.Alike t.vm → px u → BX E u t → H.size ≤ H1.size → (∀ q : Nat, q < H.size → ¬ AX q → H1[q]? = H[q]?) → va_S A0 H0 H1 locs1 → H1[q9]? = some ce → ce.vm = .none → s.vm.findClass E = some ce.cls → vx_W p l e R s m args below meth c H1 locs1 (cells + mc) (slots + ms) Q (F0 m pc ls rest) q9)
    (kk : ∀ (u : S) (t : State) (H1 : Heap) (locs1 : List Loc), t.heap = H1 → s.vm.Alike t.vm → post u → B u t → H.size ≤ H1.size → (∀ q : Nat, q < H.size → ¬ A1 q → H1[q]? = H[q]?) → va_S A0 H0 H1 locs1 → W p l e R s m args below meth c H1 locs1 (cells + mc) (slots + ms) Q (F0 m (pc + 3) ls (rest))) : W p l e R s m args below meth c H locs cells slots Q (F0 m pc ls st0) := by
  intro T hT X
  rcases hr T hT X with ⟨v, st₀, t, T', L, h0, X', hL, e1, e2, ⟨⟨u, hv, hp, hb⟩, hF⟩, st⟩ | ⟨q, st₀, t, T', L, E, ce, h0, X', hL, e1, e2, ⟨u, hp, hb, hF⟩, hce, hcv, hcl, st⟩
  · cases hv
    obtain ⟨k1, k2, k3⟩ := vx_keep h0 e1 hS hA hf hL hF
    obtain ⟨t2, a1, b1⟩ := kk u t T'.heap (locs ++ L) e1.symm (by rw [← e2]; exact X'.warmed.alike) hp hb k1 k2 k3 T' rfl X'
    exact ⟨t2, st t2 a1, b1⟩
  · obtain ⟨k1, k2, k3⟩ := vx_keep h0 e1 hS hAX hf hL hF
    obtain ⟨t2, a1, b1⟩ := kx E ce q u t T'.heap (locs ++ L) e1.symm (by rw [← e2]; exact X'.warmed.alike) hp hb k1 k2 k3 (by rw [e1]; exact hce) hcv hcl T' rfl X'
    exact ⟨t2, st.trans a1, b1⟩
/-- caught by the row x of this method's table; the rows ahead don't take it -/
theorem vx_catch {own name : String} {E : String} {ce : Cell} {q : Addr} (hown : s.vm.findClass own = some m.cls) (pre : List ExceptionTableEntry) (x : ExceptionTableEntry) (suf : List ExceptionTableEntry) (hsplit : c.exceptionTable.toList = pre ++ x :: suf)
    (hpass : ∀ z ∈ pre, covers z pc = false ∨ (z.catchType ≠ 0 ∧ ∃ nm : String, (Cond.classLink own z.catchType nm).before args s = true ∧ va_Nc E nm s)) (hx : covers x pc = true) (h0 : x.catchType ≠ 0)
    (hlink : (Cond.classLink own x.catchType name).before args s = true) (hcast : (Cond.castable E name).before args s = true) (hcell : H[q]? = some ce) (hv : ce.vm = .none) (hcl : s.vm.findClass E = some ce.cls)
    (kk : W p l e R s m args below meth c H locs cells slots Q (F0 m x.handlerPc ls [.ref q])) : vx_W p l e R s m args below meth c H locs cells slots Q (F0 m pc ls rest) q := by
  intro T hT X
  have hpl : e.platform.magicAccessors = ({} : Platform).magicAccessors := by rw [X.admits.platform]
  obtain ⟨c3, c4, hc3, hc4, hasg⟩ := Cond.castable_spec hcast
  cases Option.some.inj (hc3.symm.trans hcl)
  obtain ⟨c5, hc5, hcl5⟩ := Cond.classLink_spec hown hlink e.platform hpl
  cases Option.some.inj (hc4.symm.trans hc5)
  obtain ⟨vm', X', st⟩ := X.thenCaughtThrough q (g := F0 m pc ls rest) rfl (Steps.refl _) (by rw [hT]; exact hcell) (by rw [hv]; rfl) (by obtain ⟨k9, h9, -⟩ := Vm.findClass_spec hcl; exact ⟨k9, h9⟩) pre x suf hsplit
    (fun z hz => by
      rcases hpass z hz with h | ⟨hz0, nm, hl1, hn1⟩
      · exact Or.inl h
      · obtain ⟨c6, hc6, hcl6⟩ := Cond.classLink_spec hown hl1 e.platform hpl
        obtain ⟨a8, b8, h1, h2, h3⟩ := hn1
        cases Option.some.inj (h1.symm.trans hcl)
        cases Option.some.inj (h2.symm.trans hc6)
        exact Or.inr ⟨hz0, _, hcl6, h3⟩) hx (Or.inr ⟨h0, c4, hcl5, hasg⟩)
  obtain ⟨t, a1, b1⟩ := kk (T.setVm vm') hT X'
  exact ⟨t, st.trans a1, b1⟩
end Rows
section Ends
variable {p : Program} {l : Launch} {e : Env} {R : Room} {s : State} {m : MethodId} {args : Array Value} {below : List Frame} {meth : Method} {c : Code} {H : Heap} {locs : List Loc} {cells slots : Nat} {Q : State → Prop}
variable {mc ms : Nat} {free : Addr → Prop} {A0 A1 : Nat → Prop} {H0 : Heap} {a : Array Value} {ls : Array Slot} {st0 rest : List Value}
variable {Qc : Array Value → State → Outcome → State → Prop} {XC : String → State → State → Prop}
/-- what a body that may throw owes at its end -/
def vx_MQ (below : List Frame) (Qc : Array Value → State → Outcome → State → Prop) (XC : String → State → State → Prop) (a : Array Value) (s : State) (mc ms : Nat) (free : Addr → Prop) : State → Prop := fun t =>
  ∃ o, t.status = .running ∧ Ended t below o ∧ vx_Q Qc XC mc ms free a s o t
theorem vx_ret {g : JFrame} {mc ms : Nat} (k : W p l e R s m args below meth c H locs cells slots (MQ below Qc args s mc ms free) g) : W p l e R s m args below meth c H locs cells slots (vx_MQ below Qc XC args s mc ms free) g := by
  intro T hT X
  obtain ⟨t, a1, o, b1, b2, b3, b4⟩ := k T hT X
  exact ⟨t, a1, o, b1, b2, Or.inl ⟨b3, b4⟩⟩
/-- not caught here: it goes on to the caller -/
theorem vx_widen {g : JFrame} {q : Addr} {k n : Nat} (h1 : cells ≤ k) (h2 : slots ≤ n) (kk : vx_W p l e R s m args below meth c H locs k n Q g q) : vx_W p l e R s m args below meth c H locs cells slots Q g q := fun T hT X => kk T hT (stand_widen X h1 h2)
theorem vx_out {pc : Nat} {E : String} {ce : Cell} {q : Addr} {mc ms : Nat} (hout : ∀ x ∈ c.exceptionTable.toList, covers x pc = false) (hlocks : meth.locks = false) (hcell : H[q]? = some ce) (hv : ce.vm = .none) (hcl : s.vm.findClass E = some ce.cls)
    (hx : ∀ t : State, t.heap = H → s.vm.Alike t.vm → XC E s t) (hf : ∀ z ∈ locs, free z.base) (hc : cells ≤ mc) (hs : slots ≤ ms) :
    vx_W p l e R s m args below meth c H locs cells slots (vx_MQ below Qc XC args s mc ms free) (F0 m pc ls rest) q := by
  intro T hT X
  obtain ⟨st1, hrun, hend, hW, hsm⟩ := X.leaveThrown q (g := F0 m pc ls rest) rfl rfl rfl hout hlocks
  have hcell9 : (T.setFrames (.throwing q :: below)).heap[q]? = some ce := by
    show T.heap[q]? = some ce
    rw [hT]; exact hcell
  exact ⟨_, st1, .threw q, hrun, hend, Or.inr ⟨q, rfl, E, ce, locs, hx _ hT hW.alike, hcell9, hv, hcl, hW, hsm.mono hc hs, hf⟩⟩
theorem vx_frame {U : State} {k n : Nat} (h : s.sameButNew ({ U with vm := s.vm } : State) locs k n) : s.heap.size ≤ U.heap.size ∧ ∀ q : Nat, q < s.heap.size → (∀ z ∈ locs, z.base ≠ q) → U.heap[q]? = s.heap[q]? := by
  obtain ⟨-, h2, -, -, -, h6⟩ := h
  refine ⟨h2, fun q hq hz => ?_⟩
  obtain ⟨c9, e1, e2, e3, e4⟩ := h6 q _ (Array.getElem?_eq_getElem hq)
  have hs : c9.slots = (s.heap[q]).slots := Array.ext_getElem? fun i => e4 i fun hm => hz _ hm rfl
  have h9 : c9 = s.heap[q] := by
    rw [hs] at e2
    exact e2
  have e5 : U.heap[q]? = some c9 := e1
  rw [e5, h9, Array.getElem?_eq_getElem hq]
/-- the words of a throw but the four that speak of the heap -/
def vx_no (w : Cond) : Bool := decide (w ≠ .isRef (.static Bundle.tN "UNASSIGNED_STACK" Bundle.steD)) && decide (w ≠ .isRef (.static Bundle.tN "SUPPRESSED_SENTINEL" Bundle.listD)) && decide (w ≠ .laysStatic Bundle.tN "UNASSIGNED_STACK" Bundle.steD) && decide (w ≠ .laysStatic Bundle.tN "SUPPRESSED_SENTINEL" Bundle.listD)
def vx_at0 (own : String) (ic : Nat) (X : String) (names : List String) : List Cond := (Bundle.ownAtoms0 own ic X names).filter vx_no
def vx_atS (own : String) (ic : Nat) (X : String) (names : List String) : List Cond := (Bundle.ownAtoms own ic X names).filter vx_no
/-- a word that the tables alone decide, or a good one -/
def vx_ot (w : Cond) : Bool := w.onTables || goodWord w
theorem vx_ot_at {args a' : Array Value} {s U : State} {w : Cond} (hW : s.WarmedH U.vm) (hvm : s.vm = U.vm) (hg : vx_ot w = true) (h : w.before args s = true) : w.before a' U = true := by
  simp only [vx_ot, Bool.or_eq_true] at hg
  rcases hg with hg | hg
  · exact va_tabs hg hvm h
  · exact word_at hW (good_of_word hg) h
/-- a list's words: the good ones out of the method's own list, the others by premises of their own -/
theorem vx_hat {args : Array Value} {s : State} {L B : List Cond} (h1 : ∀ w ∈ L.filter goodWord, w.before args s = true) (h2 : ∀ w ∈ L.filter (fun w => !goodWord w), w ∈ B) (h3 : ∀ w ∈ B, w.before args s = true) : ∀ w ∈ L, w.before args s = true := by
  intro w hw
  by_cases g : goodWord w = true
  · exact h1 w (List.mem_filter.mpr ⟨hw, g⟩)
  · refine h3 w (h2 w (List.mem_filter.mpr ⟨hw, ?_⟩))
    show (!goodWord w) = true
    cases hgw : goodWord w
    · rfl
    · exact absurd hgw g
theorem vx_c {args : Array Value} {s : State} {w : Cond} {B : List Cond} (h : w.before args s = true) (t : ∀ w ∈ B, w.before args s = true) : ∀ w' ∈ w :: B, w'.before args s = true := fun w' h' => (List.mem_cons.mp h').elim (fun e => by rw [e]; exact h) (t w')
theorem vx_n {args : Array Value} {s : State} : ∀ w ∈ ([] : List Cond), w.before args s = true := fun _ h => nomatch h
theorem vx_own {args : Array Value} {s : State} {L : List Cond} (h1 : ∀ w ∈ L.filter vx_no, w.before args s = true)
    (hU : (Cond.isRef (.static Bundle.tN "UNASSIGNED_STACK" Bundle.steD)).before args s = true) (hN : (Cond.isRef (.static Bundle.tN "SUPPRESSED_SENTINEL" Bundle.listD)).before args s = true)
    (lU : (Cond.laysStatic Bundle.tN "UNASSIGNED_STACK" Bundle.steD).before args s = true) (lN : (Cond.laysStatic Bundle.tN "SUPPRESSED_SENTINEL" Bundle.listD).before args s = true) : ∀ w ∈ L, w.before args s = true := by
  intro w hw
  by_cases e1 : w = .isRef (.static Bundle.tN "UNASSIGNED_STACK" Bundle.steD)
  · rw [e1]; exact hU
  · by_cases e2 : w = .isRef (.static Bundle.tN "SUPPRESSED_SENTINEL" Bundle.listD)
    · rw [e2]; exact hN
    · by_cases e3 : w = .laysStatic Bundle.tN "UNASSIGNED_STACK" Bundle.steD
      · rw [e3]; exact lU
      · by_cases e4 : w = .laysStatic Bundle.tN "SUPPRESSED_SENTINEL" Bundle.listD
        · rw [e4]; exact lN
        · exact h1 w (List.mem_filter.mpr ⟨hw, by unfold vx_no; rw [decide_eq_true e1, decide_eq_true e2, decide_eq_true e3, decide_eq_true e4]; rfl⟩)
/-- where a static field lies, its class's statics cell in H -/
def vx_L (C n d : String) (A : Nat → Prop) (U : State) (H : Heap) : Prop := ∃ (c : ClassId) (k : Class) (i : Nat) (f : Field) (a : Nat) (cell : Cell), U.vm.findClass C = some c ∧ U.fieldFound? C n d = some (c, k, i, f) ∧ f.isStatic = true ∧ k.statics = some a ∧ H[a]? = some cell ∧ cell.vm.isStatics = true ∧ cell.cls = c ∧ f.slot < cell.slots.size ∧ k.staticTypes[f.slot]? = some f.type ∧ ¬ A a
theorem vx_L.moved {C n d : String} {A : Nat → Prop} {u U : State} {H : Heap} (hvm : u.vm.Alike U.vm) (h : vx_L C n d A u H) : vx_L C n d A U H := by
  obtain ⟨c, k, i, f, a, cell, h1, h2, h3, h4, h5, h6, h7, h8, h9, h10⟩ := h
  obtain ⟨k', hi', he⟩ := State.fieldFound?_setVm hvm h2
  exact ⟨c, k', i, f, a, cell, by rw [hvm.findClass]; exact h1, hi', h3, by rw [he]; exact h4, h5, h6, h7, h8, by rw [he]; exact h9, h10⟩
theorem vx_L.kept {C n d : String} {A : Nat → Prop} {U : State} {H H1 : Heap} (h : vx_L C n d A U H) (hq : ∀ a : Nat, a < H.size → ¬ A a → H1[a]? = H[a]?) : vx_L C n d A U H1 := by
  obtain ⟨c, k, i, f, a, cell, h1, h2, h3, h4, h5, h6, h7, h8, h9, h10⟩ := h
  exact ⟨c, k, i, f, a, cell, h1, h2, h3, h4, by rw [hq a (Array.getElem?_eq_some_iff.mp h5).1 h10]; exact h5, h6, h7, h8, h9, h10⟩
theorem vx_L.narrow {C n d : String} {A B : Nat → Prop} {U : State} {H : Heap} (h : vx_L C n d A U H) (hAB : ∀ q, B q → A q) : vx_L C n d B U H := by
  obtain ⟨c, k, i, f, a, cell, h1, h2, h3, h4, h5, h6, h7, h8, h9, h10⟩ := h
  exact ⟨c, k, i, f, a, cell, h1, h2, h3, h4, h5, h6, h7, h8, h9, fun z => h10 (hAB _ z)⟩
theorem vx_L.word {C n d : String} {A : Nat → Prop} {s : State} {args : Array Value} (h : vx_L C n d A s s.heap) : (Cond.laysStatic C n d).before args s = true := by
  obtain ⟨c, k, i, f, a, cell, h1, h2, h3, h4, h5, h6, h7, h8, h9, -⟩ := h
  show (Cond.laysStatic C n d).holds args s none s [] = true
  exact Cond.laysStatic_of h1 h2 h3 h4 h5 h6 h7 h8 h9
/-- .. and what it holds: null or some reference -/
def vx_Zq (C n d : String) (A : Nat → Prop) (U : State) (H : Heap) : Prop := va_Zq C n d A U H ∧ vx_L C n d A U H
theorem vx_Zq.moved {C n d : String} {A : Nat → Prop} {u U : State} {H : Heap} (hvm : u.vm.Alike U.vm) (h : vx_Zq C n d A u H) : vx_Zq C n d A U H := ⟨va_Zq.moved hvm h.1, vx_L.moved hvm h.2⟩
theorem vx_Zq.kept {C n d : String} {A : Nat → Prop} {U : State} {H H1 : Heap} (h : vx_Zq C n d A U H) (hq : ∀ a : Nat, a < H.size → ¬ A a → H1[a]? = H[a]?) : vx_Zq C n d A U H1 := ⟨va_Zq.kept h.1 hq, vx_L.kept h.2 hq⟩
theorem vx_Zq.narrow {C n d : String} {A B : Nat → Prop} {U : State} {H : Heap} (h : vx_Zq C n d A U H) (hAB : ∀ q, B q → A q) : vx_Zq C n d B U H := ⟨va_Zq.narrow h.1 hAB, vx_L.narrow h.2 hAB⟩
theorem vx_Zqof {args : Array Value} {s : State} {C n d : String} {A : Nat → Prop} (hl : (Cond.laysStatic C n d).before args s = true) (hini : (Cond.initialized C).before args s = true) (h : (Cond.isRef (.static C n d)).before args s = true) (hA : ∀ a : Nat, a < s.heap.size → ¬ A a) : vx_Zq C n d A s s.heap := by
  refine ⟨va_Zqof hl hini h hA, ?_⟩
  obtain ⟨c, k, i, f, a, cell, h1, h2, h3, h4, h5, h6, h7, h8, h9⟩ := Cond.laysStatic_spec hl
  exact ⟨c, k, i, f, a, cell, h1, h2, h3, h4, h5, h6, h7, h8, h9, hA a (Array.getElem?_eq_some_iff.mp h5).1⟩
theorem vx_isRef {C n d : String} {v : Value} {A : Nat → Prop} {s : State} {args : Array Value} (h : va_Z C n d v A s s.heap) (hv : v.isRef = true) : (Cond.isRef (.static C n d)).before args s = true := by
  obtain ⟨cf, kf, fi, f, a, cell, h1, h2, h3, h4, h5, h6, h7, -⟩ := h
  have he : (Term.static C n d).eval args s none [] s = some v := by
    simp [Term.eval, State.fieldNamed?, h1, h2, h4, h5, h6, h7]
  simp only [Cond.before, Cond.holds, Cond.value, he]
  cases v <;> simp_all [Value.isRef]
theorem vx_isRefq {C n d : String} {A : Nat → Prop} {s : State} {args : Array Value} (h : va_Zq C n d A s s.heap) : (Cond.isRef (.static C n d)).before args s = true := by
  rcases h with h | ⟨t, h⟩
  · exact vx_isRef h rfl
  · exact vx_isRef h rfl
/-- the same frame, seen from here: as if the method were called anew in this heap -/
theorem vx_rebase {T : State} (X : Stand p l e R s m args below meth c T locs cells slots) {R' : Room} (hf : R'.frames ≤ R.frames) (hl : R'.locals ≤ R.locals) (hc : cells + R'.cells ≤ R.cells) (hs : slots + R'.slots ≤ R.slots) :
    Stand p l e R' ((T.setVm s.vm).setFrames (.invoking m args :: below)) m args below meth c T [] 0 0 := by
  have htop : (T.setVm s.vm).topJava?.isSome := X.here.top
  have hF : ((T.setVm s.vm).setFrames (.invoking m args :: below)).frames = .invoking m args :: below := State.frames_setFrames _ (State.cur_lt_of_top htop)
  obtain ⟨g₀, hg0⟩ := Option.isSome_iff_exists.mp htop
  obtain ⟨r, hr⟩ := State.topJava?_eq_some.mp hg0
  have hl9 : e.platform.stackLimits (T.setVm s.vm).me = e.platform.stackLimits s.me := X.limits
  have hb9 : (T.setVm s.vm).me.stackBytes = s.me.stackBytes := X.bytes
  refine ⟨X.admits, X.cas, X.clock, hF, ?_, X.hears, X.method, X.code, X.here, X.tail, X.warmed, ?_, ?_, ?_⟩
  · have h := X.room
    have hU : ((T.setVm s.vm).setFrames (.invoking m args :: below)).localsInUse = s.localsInUse := by
      rw [State.localsInUse_invoking hF (meth := meth) (c := c) X.method X.code, State.localsInUse_invoking X.frames X.method X.code]
    simp only [State.hasRoom, Bool.and_eq_true, decide_eq_true_eq] at h ⊢
    obtain ⟨⟨⟨⟨h1, h2, h3, h4, h5, h6⟩, h7⟩, h8⟩, h9⟩ := h
    rw [X.frames, List.length_cons] at h2 h3
    have q1 := X.heapSize
    have q2 := X.used
    simp only [hF, hU, List.length_cons, State.stackLimits_setFrames, State.stackBytes_setFrames, hl9, hb9]
    refine ⟨⟨⟨⟨by omega, by omega, by omega, by omega, by omega, h6⟩, ?_⟩, ?_⟩, X.book⟩
    · show T.heap.size + R'.cells ≤ e.platform.maxCells
      omega
    · show T.slotsUsed + R'.slots ≤ e.platform.maxSlots
      omega
  · rw [State.stackLimits_setFrames]; rfl
  · rw [State.stackBytes_setFrames]; rfl
  · refine ⟨?_, Nat.le_refl _, Nat.le_refl _, ?_, ?_, fun a c9 h9 => ⟨c9, h9, rfl, rfl, fun _ _ => rfl⟩⟩
    · obtain ⟨t, ht, -⟩ := State.frames_cons hr
      show T.setVm s.vm = { ((T.setVm s.vm).setFrames (.invoking m args :: below)).setFrames (T.setVm s.vm).frames with heap := T.heap, slotsUsed := T.slotsUsed }
      rw [State.setFrames_setFrames, State.setFrames_self ht]
      rfl
    · show T.slotsUsed = T.slotsUsed + ((T.heap.toList.drop T.heap.size).map (·.slots.size)).sum
      rw [List.drop_eq_nil_of_le (Nat.le_of_eq Array.length_toList)]
      rfl
    · show ((T.heap.toList.drop T.heap.size).map (·.slots.size)).sum ≤ 0
      rw [List.drop_eq_nil_of_le (Nat.le_of_eq Array.length_toList)]
      exact Nat.le_refl _
/-- 'throw new E()': new; dup; invokespecial; athrow -/
theorem vx_throw0 {cc : ByteArray} {pc : Nat} (hexec : p.tables.exec = Jvm.exec) (hb : c.code = cc) (hl : l.stackTraces = false) {own cls : String} {names : List String} {ik ic mc ms : Nat} {A : Nat → Prop}
    (hown : s.vm.findClass own = some m.cls) (hcls : Bundle.fit cls = true) (hnames : ∀ n ∈ names, Bundle.fit n = true)
    (hk : (Cond.classLink own ik cls).before args s = true) (hini : (Cond.initialized cls).before args s = true) (hat : ∀ w ∈ vx_at0 own ic cls names, w.before args s = true)
    (hgood : ∀ w ∈ Cond.classLink own ik cls :: Cond.initialized cls :: vx_at0 own ic cls names, vx_ot w = true)
    (hU : vx_Zq Bundle.tN "UNASSIGNED_STACK" Bundle.steD A s s.heap) (hN : vx_Zq Bundle.tN "SUPPRESSED_SENTINEL" Bundle.listD A s s.heap) (hS : va_S A s.heap H locs) (hsize : ls.size = c.maxLocals)
    (d0 : decode cc pc = .ok (.new ik, 3)) (d3 : decode cc (pc + 3) = .ok (.dup, 1)) (d4 : decode cc (pc + 4) = .ok (.invokespecial ic, 3)) (d7 : decode cc (pc + 7) = .ok (.athrow, 1))
    (hout : ∀ x ∈ c.exceptionTable.toList, covers x (pc + 7) = false)
    (hRframes : names.length + 3 < R.frames) (hRlocals : (rest.map fun v => v.category).sum + (13 * (names.length + 1) + 42) ≤ R.locals) (hRcells : cells + 1 ≤ R.cells) (hRslots : slots + 6 ≤ R.slots) (hlocks : meth.locks = false)
    (hx : ∀ t : State, s.vm.Alike t.vm → H.size ≤ t.heap.size → (∀ q : Nat, q < H.size → t.heap[q]? = H[q]?) → XC cls s t)
    (hf : ∀ z ∈ locs, free z.base) (hc : cells + 1 ≤ mc) (hs : slots + 6 ≤ ms) :
    W p l e R s m args below meth c H locs cells slots (vx_MQ below Qc XC args s mc ms free) (F0 m pc ls rest) := by
  intro T hT X
  have htr : e.platform.stackTraces = false := (show e.platform.stackTraces = l.stackTraces by rw [X.admits.platform]).trans hl
  have Y := vx_rebase X (R' := { frames := R.frames, locals := R.locals, cells := 1, slots := 6 }) (Nat.le_refl _) (Nat.le_refl _) hRcells hRslots
  obtain ⟨s', hA⟩ : ∃ z, z = (T.setVm s.vm).setFrames (.invoking m args :: below) := ⟨_, rfl⟩
  rw [← hA] at Y
  have hvm : s'.vm = s.vm := by rw [hA]; rfl
  have hhp : s'.heap = H := by rw [hA]; exact hT
  have hW0 : s.WarmedH s'.vm := by rw [hvm]; exact State.WarmedH.refl s
  have hat' : ∀ w ∈ vx_at0 own ic cls names, w.before args s' = true := fun w hw => vx_ot_at hW0 hvm.symm (hgood w (List.mem_cons_of_mem _ (List.mem_cons_of_mem _ hw))) (hat w hw)
  have hk' : (Cond.classLink own ik cls).before args s' = true := vx_ot_at hW0 hvm.symm (hgood _ List.mem_cons_self) hk
  have hini' : (Cond.initialized cls).before args s' = true := vx_ot_at hW0 hvm.symm (hgood _ (List.mem_cons_of_mem _ List.mem_cons_self)) hini
  have hU' : vx_Zq Bundle.tN "UNASSIGNED_STACK" Bundle.steD A s' s'.heap := by rw [hhp]; exact vx_Zq.moved hW0.alike (hU.kept hS.2.1)
  have hN' : vx_Zq Bundle.tN "SUPPRESSED_SENTINEL" Bundle.listD A s' s'.heap := by rw [hhp]; exact vx_Zq.moved hW0.alike (hN.kept hS.2.1)
  have h : ∀ w ∈ Bundle.ownAtoms0 own ic cls names, w.before args s' = true := vx_own hat' (vx_isRefq hU'.1) (vx_isRefq hN'.1) hU'.2.word hN'.2.word
  have hown' : s'.vm.findClass own = some m.cls := by rw [hvm]; exact hown
  have hins : (Cond.instantiable cls 6).before args s' = true := h _ (by simp [Bundle.ownAtoms0])
  obtain ⟨vm₁, cX, kX, hfX, hkX, -, -, X₁, st1⟩ := Y.newCold hexec (own := own) (C := cls) (index := ik) (n := 6) hown' hk' hins hini'
    (g := F0 m pc ls rest) rfl (by rw [hb]; exact d0) (Nat.le_refl _) (Nat.le_refl _)
  generalize hT1 : (T.setVm vm₁).pushCell { cls := cX, slots := kX.instanceTypes.map defaultValue, vm := .none } = T1 at X₁ st1
  have hcat : (Value.ref T.heap.size).category = 1 := rfl
  have hcellA : T1.heap[T.heap.size]? = some (freshCell cX kX) := by rw [← hT1]; exact State.heap_pushCell_size _ _
  have d3' : decode c.code (pc + 3) = .ok (.dup, 1) := by rw [hb]; exact d3
  obtain ⟨U, hsteps, hrun, hend, hW, hsame, ce, hce, hO⟩ := X₁.ctorThrow0 hexec htr (own := own) (cls := cls) (names := names) (ic := ic) hown' hcls hnames h (fun x hx => nomatch hx) hfX hkX hcellA (by rw [hhp, hT]; exact Nat.le_refl _)
    (g := { method := m, pc := pc + 4, locals := ls, stack := .ref T.heap.size :: .ref T.heap.size :: rest, locked := none }) rfl hsize rfl rfl (rest := rest) rfl
    (by rw [hb]; exact d4) (by rw [hb]; exact d7) hout hRframes (by simp only [List.map_cons, List.sum_cons, hcat]; omega) hlocks
  obtain ⟨f1, f2⟩ := vx_frame hsame
  rw [hhp] at f1 f2
  have hWs : s.WarmedH U.vm := State.WarmedH.trans hW0 hW
  have hcl : s.vm.findClass cls = some ce.cls := by
    have h9 := hO.cls
    rw [hvm] at h9
    exact h9
  have hall : s.sameButNew ({ U with vm := s.vm } : State) locs mc ms := by
    subst hA
    obtain ⟨e1, e2⟩ := hsame
    rw [State.setFrames_setFrames] at e1
    have h2 : (T.setVm s.vm).sameButNew ({ U with vm := s.vm } : State) [] (0 + 1) (0 + 6) := ⟨e1, e2⟩
    have h3 := X.same.trans h2
    rw [List.append_nil] at h3
    exact h3.mono hc hs
  refine ⟨U, ?_, .threw T.heap.size, hrun, hend, Or.inr ⟨T.heap.size, rfl, cls, ce, locs, hx U hWs.alike f1 (fun q hq => f2 q hq (fun z hz => nomatch hz)), hce, hO.vm, hcl, hWs, hall, hf⟩⟩
  refine st1 _ ?_
  show Steps p.tables e below (T1.setTop { method := m, pc := pc + 3, locals := ls, stack := .ref T.heap.size :: rest, locked := none }) _
  jvm_step X₁.here [X₁.here.top, hexec, d3', Value.category]
  exact hsteps
/-- 'throw new E("text")': new; dup; ldc; invokespecial; athrow -/
theorem vx_throwS {cc : ByteArray} {pc : Nat} (hexec : p.tables.exec = Jvm.exec) (hb : c.code = cc) (hl : l.stackTraces = false) {own cls text : String} {names : List String} {ik is ic mc ms sa : Nat} {A : Nat → Prop}
    (hown : s.vm.findClass own = some m.cls) (hcls : Bundle.fit cls = true) (hnames : ∀ n ∈ names, Bundle.fit n = true)
    (hk : (Cond.classLink own ik cls).before args s = true) (hini : (Cond.initialized cls).before args s = true) (hstr : vk_R own is text sa s) (hat : ∀ w ∈ vx_atS own ic cls names, w.before args s = true)
    (hgood : ∀ w ∈ Cond.classLink own ik cls :: Cond.initialized cls :: vx_atS own ic cls names, vx_ot w = true)
    (hU : vx_Zq Bundle.tN "UNASSIGNED_STACK" Bundle.steD A s s.heap) (hN : vx_Zq Bundle.tN "SUPPRESSED_SENTINEL" Bundle.listD A s s.heap) (hS : va_S A s.heap H locs) (hsize : ls.size = c.maxLocals)
    (d0 : decode cc pc = .ok (.new ik, 3)) (d3 : decode cc (pc + 3) = .ok (.dup, 1)) (d4 : decode cc (pc + 4) = .ok (.ldc is, 2)) (d6 : decode cc (pc + 6) = .ok (.invokespecial ic, 3)) (d9 : decode cc (pc + 9) = .ok (.athrow, 1))
    (hout : ∀ x ∈ c.exceptionTable.toList, covers x (pc + 9) = false)
    (hRframes : names.length + 3 < R.frames) (hRlocals : (rest.map fun v => v.category).sum + (13 * (names.length + 1) + 43) ≤ R.locals) (hRcells : cells + 1 ≤ R.cells) (hRslots : slots + 6 ≤ R.slots) (hlocks : meth.locks = false)
    (hx : ∀ t : State, s.vm.Alike t.vm → H.size ≤ t.heap.size → (∀ q : Nat, q < H.size → t.heap[q]? = H[q]?) → XC cls s t)
    (hf : ∀ z ∈ locs, free z.base) (hc : cells + 1 ≤ mc) (hs : slots + 6 ≤ ms) :
    W p l e R s m args below meth c H locs cells slots (vx_MQ below Qc XC args s mc ms free) (F0 m pc ls rest) := by
  intro T hT X
  have htr : e.platform.stackTraces = false := (show e.platform.stackTraces = l.stackTraces by rw [X.admits.platform]).trans hl
  have Y := vx_rebase X (R' := { frames := R.frames, locals := R.locals, cells := 1, slots := 6 }) (Nat.le_refl _) (Nat.le_refl _) hRcells hRslots
  obtain ⟨s', hA⟩ : ∃ z, z = (T.setVm s.vm).setFrames (.invoking m args :: below) := ⟨_, rfl⟩
  rw [← hA] at Y
  have hvm : s'.vm = s.vm := by rw [hA]; rfl
  have hhp : s'.heap = H := by rw [hA]; exact hT
  have hW0 : s.WarmedH s'.vm := by rw [hvm]; exact State.WarmedH.refl s
  have hat' : ∀ w ∈ vx_atS own ic cls names, w.before args s' = true := fun w hw => vx_ot_at hW0 hvm.symm (hgood w (List.mem_cons_of_mem _ (List.mem_cons_of_mem _ hw))) (hat w hw)
  have hk' : (Cond.classLink own ik cls).before args s' = true := vx_ot_at hW0 hvm.symm (hgood _ List.mem_cons_self) hk
  have hini' : (Cond.initialized cls).before args s' = true := vx_ot_at hW0 hvm.symm (hgood _ (List.mem_cons_of_mem _ List.mem_cons_self)) hini
  have hU' : vx_Zq Bundle.tN "UNASSIGNED_STACK" Bundle.steD A s' s'.heap := by rw [hhp]; exact vx_Zq.moved hW0.alike (hU.kept hS.2.1)
  have hN' : vx_Zq Bundle.tN "SUPPRESSED_SENTINEL" Bundle.listD A s' s'.heap := by rw [hhp]; exact vx_Zq.moved hW0.alike (hN.kept hS.2.1)
  have h : ∀ w ∈ Bundle.ownAtoms own ic cls names, w.before args s' = true := vx_own hat' (vx_isRefq hU'.1) (vx_isRefq hN'.1) hU'.2.word hN'.2.word
  have hown' : s'.vm.findClass own = some m.cls := by rw [hvm]; exact hown
  have hins : (Cond.instantiable cls 6).before args s' = true := h _ (by simp [Bundle.ownAtoms])
  obtain ⟨vm₁, cX, kX, hfX, hkX, -, -, X₁, st1⟩ := Y.newCold hexec (own := own) (C := cls) (index := ik) (n := 6) hown' hk' hins hini'
    (g := F0 m pc ls rest) rfl (by rw [hb]; exact d0) (Nat.le_refl _) (Nat.le_refl _)
  generalize hT1 : (T.setVm vm₁).pushCell { cls := cX, slots := kX.instanceTypes.map defaultValue, vm := .none } = T1 at X₁ st1
  have hcat : (Value.ref T.heap.size).category = 1 := rfl
  have hcellA : T1.heap[T.heap.size]? = some (freshCell cX kX) := by rw [← hT1]; exact State.heap_pushCell_size _ _
  have d3' : decode c.code (pc + 3) = .ok (.dup, 1) := by rw [hb]; exact d3
  have d4' : decode c.code (pc + 4) = .ok (.ldc is, 2) := by rw [hb]; exact d4
  have hstr' : vk_R own is text sa s' := vk_R.warm hW0 hstr
  obtain ⟨U, hsteps, hrun, hend, hW, hsame, ce, hce, hO⟩ := X₁.ctorThrowS hexec htr (own := own) (cls := cls) (names := names) (ic := ic) hown' hcls hnames h (fun x hx => nomatch hx) hfX hkX hcellA (by rw [hhp, hT]; exact Nat.le_refl _) (msg := .ref sa) rfl
    (g := { method := m, pc := pc + 6, locals := ls, stack := .ref sa :: .ref T.heap.size :: .ref T.heap.size :: rest, locked := none }) rfl hsize rfl rfl (rest := rest) rfl
    (by rw [hb]; exact d6) (by rw [hb]; exact d9) hout hRframes (by simp only [List.map_cons, List.sum_cons, hcat]; omega) hlocks
  obtain ⟨f1, f2⟩ := vx_frame hsame
  rw [hhp] at f1 f2
  have hWs : s.WarmedH U.vm := State.WarmedH.trans hW0 hW
  have hcl : s.vm.findClass cls = some ce.cls := by
    have h9 := hO.cls
    rw [hvm] at h9
    exact h9
  have hall : s.sameButNew ({ U with vm := s.vm } : State) locs mc ms := by
    subst hA
    obtain ⟨e1, e2⟩ := hsame
    rw [State.setFrames_setFrames] at e1
    have h2 : (T.setVm s.vm).sameButNew ({ U with vm := s.vm } : State) [] (0 + 1) (0 + 6) := ⟨e1, e2⟩
    have h3 := X.same.trans h2
    rw [List.append_nil] at h3
    exact h3.mono hc hs
  refine ⟨U, ?_, .threw T.heap.size, hrun, hend, Or.inr ⟨T.heap.size, rfl, cls, ce, locs, hx U hWs.alike f1 (fun q hq => f2 q hq (fun z hz => nomatch hz)), hce, hO.vm, hcl, hWs, hall, hf⟩⟩
  refine st1 _ ?_
  show Steps p.tables e below (T1.setTop { method := m, pc := pc + 3, locals := ls, stack := .ref T.heap.size :: rest, locked := none }) _
  jvm_step X₁.here [X₁.here.top, hexec, d3', Value.category]
  exact X₁.ldcString hexec (own := own) (text := text) (index := is) (a := sa) hown' hstr'.1 hstr'.2
    (g := { method := m, pc := pc + 4, locals := ls, stack := .ref T.heap.size :: .ref T.heap.size :: rest, locked := none }) rfl d4' _ hsteps
/-- 'throw new E("text")', the text by a wide index -/
theorem vx_throwSW {cc : ByteArray} {pc : Nat} (hexec : p.tables.exec = Jvm.exec) (hb : c.code = cc) (hl : l.stackTraces = false) {own cls text : String} {names : List String} {ik is ic mc ms sa : Nat} {A : Nat → Prop}
    (hown : s.vm.findClass own = some m.cls) (hcls : Bundle.fit cls = true) (hnames : ∀ n ∈ names, Bundle.fit n = true)
    (hk : (Cond.classLink own ik cls).before args s = true) (hini : (Cond.initialized cls).before args s = true) (hstr : vk_R own is text sa s) (hat : ∀ w ∈ vx_atS own ic cls names, w.before args s = true)
    (hgood : ∀ w ∈ Cond.classLink own ik cls :: Cond.initialized cls :: vx_atS own ic cls names, vx_ot w = true)
    (hU : vx_Zq Bundle.tN "UNASSIGNED_STACK" Bundle.steD A s s.heap) (hN : vx_Zq Bundle.tN "SUPPRESSED_SENTINEL" Bundle.listD A s s.heap) (hS : va_S A s.heap H locs) (hsize : ls.size = c.maxLocals)
    (d0 : decode cc pc = .ok (.new ik, 3)) (d3 : decode cc (pc + 3) = .ok (.dup, 1)) (d4 : decode cc (pc + 4) = .ok (.ldc_w is, 3)) (d7 : decode cc (pc + 7) = .ok (.invokespecial ic, 3)) (d10 : decode cc (pc + 10) = .ok (.athrow, 1))
    (hout : ∀ x ∈ c.exceptionTable.toList, covers x (pc + 10) = false)
    (hRframes : names.length + 3 < R.frames) (hRlocals : (rest.map fun v => v.category).sum + (13 * (names.length + 1) + 43) ≤ R.locals) (hRcells : cells + 1 ≤ R.cells) (hRslots : slots + 6 ≤ R.slots) (hlocks : meth.locks = false)
    (hx : ∀ t : State, s.vm.Alike t.vm → H.size ≤ t.heap.size → (∀ q : Nat, q < H.size → t.heap[q]? = H[q]?) → XC cls s t)
    (hf : ∀ z ∈ locs, free z.base) (hc : cells + 1 ≤ mc) (hs : slots + 6 ≤ ms) :
    W p l e R s m args below meth c H locs cells slots (vx_MQ below Qc XC args s mc ms free) (F0 m pc ls rest) := by
  intro T hT X
  have htr : e.platform.stackTraces = false := (show e.platform.stackTraces = l.stackTraces by rw [X.admits.platform]).trans hl
  have Y := vx_rebase X (R' := { frames := R.frames, locals := R.locals, cells := 1, slots := 6 }) (Nat.le_refl _) (Nat.le_refl _) hRcells hRslots
  obtain ⟨s', hA⟩ : ∃ z, z = (T.setVm s.vm).setFrames (.invoking m args :: below) := ⟨_, rfl⟩
  rw [← hA] at Y
  have hvm : s'.vm = s.vm := by rw [hA]; rfl
  have hhp : s'.heap = H := by rw [hA]; exact hT
  have hW0 : s.WarmedH s'.vm := by rw [hvm]; exact State.WarmedH.refl s
  have hat' : ∀ w ∈ vx_atS own ic cls names, w.before args s' = true := fun w hw => vx_ot_at hW0 hvm.symm (hgood w (List.mem_cons_of_mem _ (List.mem_cons_of_mem _ hw))) (hat w hw)
  have hk' : (Cond.classLink own ik cls).before args s' = true := vx_ot_at hW0 hvm.symm (hgood _ List.mem_cons_self) hk
  have hini' : (Cond.initialized cls).before args s' = true := vx_ot_at hW0 hvm.symm (hgood _ (List.mem_cons_of_mem _ List.mem_cons_self)) hini
  have hU' : vx_Zq Bundle.tN "UNASSIGNED_STACK" Bundle.steD A s' s'.heap := by rw [hhp]; exact vx_Zq.moved hW0.alike (hU.kept hS.2.1)
  have hN' : vx_Zq Bundle.tN "SUPPRESSED_SENTINEL" Bundle.listD A s' s'.heap := by rw [hhp]; exact vx_Zq.moved hW0.alike (hN.kept hS.2.1)
  have h : ∀ w ∈ Bundle.ownAtoms own ic cls names, w.before args s' = true := vx_own hat' (vx_isRefq hU'.1) (vx_isRefq hN'.1) hU'.2.word hN'.2.word
  have hown' : s'.vm.findClass own = some m.cls := by rw [hvm]; exact hown
  have hins : (Cond.instantiable cls 6).before args s' = true := h _ (by simp [Bundle.ownAtoms])
  obtain ⟨vm₁, cX, kX, hfX, hkX, -, -, X₁, st1⟩ := Y.newCold hexec (own := own) (C := cls) (index := ik) (n := 6) hown' hk' hins hini'
    (g := F0 m pc ls rest) rfl (by rw [hb]; exact d0) (Nat.le_refl _) (Nat.le_refl _)
  generalize hT1 : (T.setVm vm₁).pushCell { cls := cX, slots := kX.instanceTypes.map defaultValue, vm := .none } = T1 at X₁ st1
  have hcat : (Value.ref T.heap.size).category = 1 := rfl
  have hcellA : T1.heap[T.heap.size]? = some (freshCell cX kX) := by rw [← hT1]; exact State.heap_pushCell_size _ _
  have d3' : decode c.code (pc + 3) = .ok (.dup, 1) := by rw [hb]; exact d3
  have d4' : decode c.code (pc + 4) = .ok (.ldc_w is, 3) := by rw [hb]; exact d4
  have hstr' : vk_R own is text sa s' := vk_R.warm hW0 hstr
  obtain ⟨U, hsteps, hrun, hend, hW, hsame, ce, hce, hO⟩ := X₁.ctorThrowS hexec htr (own := own) (cls := cls) (names := names) (ic := ic) hown' hcls hnames h (fun x hx => nomatch hx) hfX hkX hcellA (by rw [hhp, hT]; exact Nat.le_refl _) (msg := .ref sa) rfl
    (g := { method := m, pc := pc + 7, locals := ls, stack := .ref sa :: .ref T.heap.size :: .ref T.heap.size :: rest, locked := none }) rfl hsize rfl rfl (rest := rest) rfl
    (by rw [hb]; exact d7) (by rw [hb]; exact d10) hout hRframes (by simp only [List.map_cons, List.sum_cons, hcat]; omega) hlocks
  obtain ⟨f1, f2⟩ := vx_frame hsame
  rw [hhp] at f1 f2
  have hWs : s.WarmedH U.vm := State.WarmedH.trans hW0 hW
  have hcl : s.vm.findClass cls = some ce.cls := by
    have h9 := hO.cls
    rw [hvm] at h9
    exact h9
  have hall : s.sameButNew ({ U with vm := s.vm } : State) locs mc ms := by
    subst hA
    obtain ⟨e1, e2⟩ := hsame
    rw [State.setFrames_setFrames] at e1
    have h2 : (T.setVm s.vm).sameButNew ({ U with vm := s.vm } : State) [] (0 + 1) (0 + 6) := ⟨e1, e2⟩
    have h3 := X.same.trans h2
    rw [List.append_nil] at h3
    exact h3.mono hc hs
  refine ⟨U, ?_, .threw T.heap.size, hrun, hend, Or.inr ⟨T.heap.size, rfl, cls, ce, locs, hx U hWs.alike f1 (fun q hq => f2 q hq (fun z hz => nomatch hz)), hce, hO.vm, hcl, hWs, hall, hf⟩⟩
  refine st1 _ ?_
  show Steps p.tables e below (T1.setTop { method := m, pc := pc + 3, locals := ls, stack := .ref T.heap.size :: rest, locked := none }) _
  jvm_step X₁.here [X₁.here.top, hexec, d3', Value.category]
  exact X₁.ldcStringW hexec (own := own) (text := text) (index := is) (a := sa) hown' hstr'.1 hstr'.2
    (g := { method := m, pc := pc + 4, locals := ls, stack := .ref T.heap.size :: .ref T.heap.size :: rest, locked := none }) rfl d4' _ hsteps
end Ends
section Bodies
variable {l : Launch}
theorem vx_ofW {y : MethodName} {ws ws' : List Cond} {rm : Room} {Pc : Array Value → State → Prop} {Qc : Array Value → State → Outcome → State → Prop} {XC : String → State → State → Prop} {mc ms : Nat} {free : Addr → Prop} {cc : ByteArray} {maxL : Nat} {ret : Option FieldType}
    (hy : plainName y.cls = true) (hw : ws = Cond.code y cc maxL ret :: ws')
    (body : ∀ p e s m args below meth c s₁, BodyLoose p l y (headSpec ws rm) cc maxL ret e s m args below meth c s₁ → c.maxLocals = maxL → (∀ x ∈ c.exceptionTable.toList, False) → Pc args s →
      W p l e (headSpec ws rm).room s m args below meth c s.heap [] 0 0 (vx_MQ below Qc XC args s mc ms free) (entryFrame m args maxL)) : vx_Met l y ws rm Pc Qc XC mc ms free := by
  refine MetFree.of_bodyS (code := cc) (maxLocals := maxL) (ret := ret) hy ?_ ?_
  · intro args s m h hn
    obtain ⟨meth, c, h1, h2, h3, h4, h5, h6, -, -⟩ := Cond.code_spec hn (atoms_spec (ws := ws) h _ (by rw [hw]; exact List.mem_cons_self))
    exact ⟨meth, c, h1, h2, h3, h4, h5, h6⟩
  · intro p e s m args below meth c s₁ B hml hP _
    have hh0 : s₁.heap = s.heap := by rw [B.state]; rfl
    have ht : ∀ x ∈ c.exceptionTable.toList, False := by
      obtain ⟨meth9, c9, h1, h2, -, -, -, -, h7, -⟩ := Cond.code_spec B.named (atoms_spec (ws := ws) B.pre _ (by rw [hw]; exact List.mem_cons_self))
      cases Option.some.inj (h1.symm.trans B.method)
      cases Option.some.inj (h2.symm.trans (Stand.of_body B).code)
      intro x hx
      rw [Array.isEmpty_iff.mp h7] at hx
      cases hx
    obtain ⟨t, a1, o, b1, b2, b3⟩ := body p e s m args below meth c s₁ B hml ht hP s₁ hh0 (Stand.of_body B)
    exact ⟨t, o, a1, b1, b2, b3⟩
/-- the table of a body with handlers -/
theorem vx_table {p : Program} {x y : MethodName} {S : Spec} {cc bytes : ByteArray} {maxL maxL' : Nat} {ret ret' : Option FieldType} {e : Env} {s s₁ : State} {m : MethodId} {args : Array Value} {below : List Frame} {meth : Method} {c : Code} {hh : List (Nat × Nat × Nat × Nat)}
    (B : BodyLoose p l y S cc maxL ret e s m args below meth c s₁) (h : (Cond.codeWith y bytes maxL' ret' hh).before args s = true) : c.exceptionTable.toList = tableOf hh := by
  obtain ⟨m9, meth9, c9, hn9, h1, h2, -, -, h6, -⟩ := Cond.codeWith_spec h
  cases Option.some.inj (hn9.symm.trans B.named)
  cases Option.some.inj (h1.symm.trans B.method)
  cases Option.some.inj (h2.symm.trans (Stand.of_body B).code)
  rw [← h6, table_eq]
end Bodies
end VXA
/-! ===== END ===== -/
/-! ===== BEGIN a static call of a method with an exception table ===== -/
section VXS
variable {p : Program} {l : Launch} {e : Env} {R : Room} {s : State} {m : MethodId} {args : Array Value} {below : List Frame} {meth : Method} {c : Code} {T : State} {H : Heap} {locs : List Loc} {cells slots : Nat}
abbrev vx_CSW (R : Room) (s : State) (args : Array Value) (own : String) (index : Nat) (y : MethodName) (bytes : ByteArray) (maxL : Nat) (ret : Option FieldType) (hh : List (Nat × Nat × Nat × Nat)) (ws : List Cond) (rm : Room) (mc ms n : Nat) : Prop :=
  (rm.cells = mc ∧ rm.slots = ms ∧ rm.frames + 1 ≤ R.frames ∧ 8 + (maxL + 11) + rm.locals ≤ R.locals ∧ (∀ w ∈ ws, ∀ (a' : Array Value) (U : State), s.WarmedH U.vm → w.before a' U = true) ∧ Cond.codeWith y bytes maxL ret hh ∈ ws) ∧
  (Cond.codeWith y bytes maxL ret hh).before args s = true ∧ (Cond.initialized y.cls).before args s = true ∧ (y.cls ≠ "java/lang/invoke/MethodHandle" ∧ y.cls ≠ "java/lang/invoke/VarHandle") ∧
  (∀ sig, parseMethodDescriptor y.desc = some sig → n = sig.parameters.length) ∧ (Cond.methodLink own index y).before args s = true ∧ (Cond.static y).before args s = true
theorem vx_cwSW {own : String} {index maxL mc ms : Nat} {y : MethodName} {bytes : ByteArray} {ret : Option FieldType} {hh : List (Nat × Nat × Nat × Nat)} {Ts ws ws' : List Cond} {rm : Room} (n : Nat) (ht : ∀ w ∈ Ts, w.before args s = true) (hT : GoodIn Ts (va_wsS own index y ws)) (hw : ws = Cond.codeWith y bytes maxL ret hh :: ws') (hrc : rm.cells = mc) (hrs : rm.slots = ms)
    (hd : y.cls ≠ "java/lang/invoke/MethodHandle" ∧ y.cls ≠ "java/lang/invoke/VarHandle" ∧ (parseMethodDescriptor y.desc).map (fun d => d.parameters.length) = some n) (hR : rm.frames + 1 ≤ R.frames ∧ 8 + (maxL + 11) + rm.locals ≤ R.locals) :
    vx_CSW R s args own index y bytes maxL ret hh ws rm mc ms n := by
  have ok : ∀ w ∈ va_wsS own index y ws, w.before args s = true := fun w h => ht w (hT w h).1
  have hG : GoodIn Ts ws := fun w h => hT w (by unfold va_wsS; exact List.mem_append_right _ h)
  have hc : Cond.codeWith y bytes maxL ret hh ∈ ws := by rw [hw]; exact List.mem_cons_self
  refine ⟨⟨hrc, hrs, hR.1, hR.2, pay_in ht hG, hc⟩, ht _ (hG _ hc).1, ok _ (by simp [va_wsS]), ⟨hd.1, hd.2.1⟩, fun sig h => ?_, ok _ (by simp [va_wsS]), ok _ (by simp [va_wsS])⟩
  have h2 := hd.2.2
  rw [h] at h2
  exact (Option.some.inj h2).symm
theorem vx_callSW (X : Stand p l e R s m args below meth c T locs cells slots) (hexec : p.tables.exec = Jvm.exec) {own : String} {index : Nat} {y : MethodName} {bytes : ByteArray} {maxL : Nat} {ret : Option FieldType} {hh : List (Nat × Nat × Nat × Nat)}
    (hown : s.vm.findClass own = some m.cls) (hlink : (Cond.methodLink own index y).before args s = true) (hstat : (Cond.static y).before args s = true) (hinit : (Cond.initialized y.cls).before args s = true)
    (hcode : (Cond.codeWith y bytes maxL ret hh).before args s = true) (hy : y.cls ≠ "java/lang/invoke/MethodHandle" ∧ y.cls ≠ "java/lang/invoke/VarHandle")
    {W9 : Nat} {Pre : Pt → Array Value → Prop} {Post : Pt → Array Value → Option Value → Pt → Prop} (hK : Back l R p e below s args y 3 W9 Pre Post)
    {g : JFrame} (hg : g.method = m) (hsize : g.locals.size = c.maxLocals) {argsL rest : List Value} (hlen : ∀ sig, parseMethodDescriptor y.desc = some sig → argsL.length = sig.parameters.length)
    (hstack : g.stack = argsL.reverse ++ rest) (hW : 2 * g.monitorRoom + (rest.map fun v => v.category).sum ≤ W9) (hdg : decode c.code g.pc = .ok (.invokestatic index, 3))
    (hpre : ∀ vm₁, s.WarmedH vm₁ → Pre ⟨T.setVm vm₁, locs, cells, slots⟩ argsL.toArray) :
    ∃ (v : Option Value) (vm₁ : Vm) (B : Pt), s.WarmedH vm₁ ∧ Stand p l e R s m args below meth c B.U B.locs B.cells B.slots ∧ Post ⟨T.setVm vm₁, locs, cells, slots⟩ argsL.toArray v B ∧
      ∀ target, Steps p.tables e below (B.U.setTop { g with pc := g.pc + 3, stack := v.toList ++ rest }) target → Steps p.tables e below (T.setTop g) target := by
  obtain ⟨mk, methM, cM, hnamed, hmethM, -, -, -, -, -, -, hsigM⟩ := Cond.codeWith_spec hcode
  have hstatic : methM.isStatic = true := Cond.static_spec hnamed hmethM hstat
  obtain ⟨kP, hkP, -⟩ := className_of_methodNamed hnamed
  have hinitP : kP.init = .initialized := Cond.initialized_spec (findClass_of_methodNamed hnamed) hkP hinit
  obtain ⟨vm₁, X₁, hstep₁⟩ := X.invokestatic hexec hown hlink hnamed hmethM hstatic hkP hinitP hy (g := g) hg (argsL := argsL) (rest := rest) (hlen _ hsigM) hstack hdg
  obtain ⟨v, B, X', hpost, hsteps⟩ := hK m meth c ⟨T.setVm vm₁, locs, cells, slots⟩ { g with stack := rest } (.invokestatic index) mk argsL.toArray X₁ hg hsize hdg hW (X₁.named hnamed) (hpre vm₁ X₁.warmed)
  exact ⟨v, vm₁, B, X₁.warmed, X', hpost, fun target h => hstep₁ _ fun acts => by rw [doInvoke_state]; exact hsteps.trans h⟩
theorem vx_runSW {y : MethodName} {bytes cc : ByteArray} {maxL nL mc ms n index : Nat} {ret : Option FieldType} {hh : List (Nat × Nat × Nat × Nat)} {ws : List Cond} {rm : Room} {Pc : Array Value → State → Prop} {Qc : Array Value → State → Outcome → State → Prop} {free : Addr → Prop} {Ts : List Cond} {own : String} {As rest : List Value} {g : JFrame}
    (S : CallFix p m c cc nL s args Ts own) (hM : Met l y ws rm Pc Qc mc ms free) (cw : vx_CSW R s args own index y bytes maxL ret hh ws rm mc ms n) (hp : PreS s H Pc As)
    (hg : g.method = m) (hn : As.length = n) (hsize : g.locals.size = nL) (hstack : g.stack = As.reverse ++ rest) (hW : 2 * g.monitorRoom + (rest.map fun v => v.category).sum ≤ 8) (hdg : decode cc g.pc = .ok (.invokestatic index, 3)) (hf : cells + mc ≤ R.cells ∧ slots + ms ≤ R.slots) :
    va_Run p l e R s m args below meth c H locs cells slots mc ms g rest (Qc As.toArray) (free) := by
  obtain ⟨⟨hrc, hrs, hfr, hlo, hws, hcw⟩, hcode, hini, hy, hlen, hl, hstt⟩ := cw
  have hK : Back l R p e below s args y 3 8 (PreOf R mc ms Pc) (PostOf Qc mc ms free) := va_backW (hh := hh) (bytes := bytes) (maxL := maxL) (ret := ret) hM hp.1 hrc hrs hfr hlo hws hcw (fun a' U hW => word_at hW (Or.inl (by first | rfl | simp [Cond.onTables, Cond.keeps, Cond.steady])) hini)
  obtain ⟨hx, hb, hml, ho, -⟩ := S
  intro T hT X
  obtain ⟨v, vm₁, ⟨U', l2, c2, s2⟩, hW₁, X', ⟨g', mk, t, L, e1, e2, hq, h1, hL, h2, h3⟩, st⟩ := vx_callSW X hx (hh := hh) (bytes := bytes) (maxL := maxL) (ret := ret) ho hl hstt hini hcode hy hK hg (hsize.trans hml.symm) (argsL := As) (rest := rest) (fun sig h => hn.trans (hlen sig h)) hstack hW (by rw [hb]; exact hdg)
    (fun vm₁ hW₁ => ⟨hf.1, hf.2, hp.2 (T.setVm vm₁) hT hW₁⟩)
  dsimp only [Pt.U, Pt.locs, Pt.cells, Pt.slots] at X' e1 e2 h1 h2 h3 st
  subst h1; subst h2; subst h3
  exact ⟨v, (T.setVm vm₁).calling g' mk As.toArray, t, U', L, hT, X', hL, e1, e2, hq, st⟩
/-- not caught here, past rows that name other classes: it goes on to the caller -/
theorem vx_outP {p : Program} {l : Launch} {e : Env} {R : Room} {s : State} {m : MethodId} {args : Array Value} {below : List Frame} {meth : Method} {c : Code} {H : Heap} {locs : List Loc} {cells slots : Nat} {free : Addr → Prop} {ls : Array Slot} {rest : List Value} {Qc : Array Value → State → Outcome → State → Prop} {XC : String → State → State → Prop}
    {pc : Nat} {own E : String} {ce : Cell} {q : Addr} {mc ms : Nat} (hown : s.vm.findClass own = some m.cls) (hlocks : meth.locks = false)
    (hpass : ∀ z ∈ c.exceptionTable.toList, covers z pc = false ∨ (z.catchType ≠ 0 ∧ ∃ nm : String, (Cond.classLink own z.catchType nm).before args s = true ∧ va_Nc E nm s)) (hcell : H[q]? = some ce) (hv : ce.vm = .none) (hcl : s.vm.findClass E = some ce.cls)
    (hx : ∀ t : State, t.heap = H → s.vm.Alike t.vm → XC E s t) (hf : ∀ z ∈ locs, free z.base) (hc : cells ≤ mc) (hs : slots ≤ ms) :
    vx_W p l e R s m args below meth c H locs cells slots (vx_MQ below Qc XC args s mc ms free) (F0 m pc ls rest) q := by
  intro T hT X
  have hpl : e.platform.magicAccessors = ({} : Platform).magicAccessors := by rw [X.admits.platform]
  obtain ⟨vm', hW', X', st⟩ := X.outThrough hlocks q (g := F0 m pc ls rest) rfl rfl rfl (cell := ce) (by rw [hT]; exact hcell) (by rw [hv]; rfl)
    (by obtain ⟨k9, h9, -⟩ := Vm.findClass_spec hcl; exact ⟨k9, h9⟩) (fun z hz => by
      rcases hpass z hz with h | ⟨hz0, nm, hl1, hn1⟩
      · exact Or.inl h
      · obtain ⟨c6, hc6, hcl6⟩ := Cond.classLink_spec hown hl1 e.platform hpl
        obtain ⟨a8, b8, h1, h2, h3⟩ := hn1
        cases Option.some.inj (h1.symm.trans hcl)
        cases Option.some.inj (h2.symm.trans hc6)
        exact Or.inr ⟨hz0, _, hcl6, h3⟩)
  obtain ⟨g₀, hfr⟩ := X'.frames_eq
  have hcell9 : ((T.setVm vm').setFrames (.throwing q :: below)).heap[q]? = some ce := by
    show T.heap[q]? = some ce
    rw [hT]; exact hcell
  have hend : Ended ((T.setVm vm').setFrames (.throwing q :: below)) below (.threw q) := State.frames_setFrames _ (State.cur_lt_of_frames hfr)
  refine ⟨(T.setVm vm').setFrames (.throwing q :: below), ?_, .threw q, X'.here.running, hend, Or.inr ⟨q, rfl, E, ce, locs, hx _ hT (X'.ends _).1.alike, hcell9, hv, hcl, (X'.ends _).1, (X'.ends _).2.mono hc hs, hf⟩⟩
  rw [X.pushThrowing_eq]
  exact st
/-- a thing of a world lies in the heap -/
theorem vx_lt {D : va_G} {cl : List vw_C} {ws : va_W} {H1 : Heap} (h : va_P D cl ws H1) {k : Nat} {q : Nat × va_E} (hk : ws[k]? = some q) : q.1 < H1.size := (h k q hk).lt
end VXS
/-! ===== END ===== -/
/-! ===== BEGIN methods with a table of their own: called by a name, returning or throwing ===== -/
section VXH
/-! vx_backW, vx_callVX, vx_callSX, vx_callVW, vx_runVW, vx_runVX, vx_runSX, vx_ofWH follow the same proofs as their sisters above (Free/Laws.lean, Shelf42/LK1.lean); vx_outP calls Shelf42/NT130.lean (outThrough). -/
section
variable {l : Launch} {R : Room} {p : Program} {e : Env} {below : List Frame} {s : State} {sargs : Array Value} {y : MethodName} {len W9 : Nat}
theorem vx_backW {ws : List Cond} {rm : Room} {Pc : Array Value → State → Prop} {Qc : Array Value → State → Outcome → State → Prop} {XC : String → State → State → Prop} {mc ms : Nat} {free : Addr → Prop} {bytes : ByteArray} {maxL : Nat} {ret : Option FieldType} {hh : List (Nat × Nat × Nat × Nat)}
    (hM : vx_Met l y ws rm Pc Qc XC mc ms free) (hblind : FrameBlind Pc) (hrc : rm.cells = mc) (hrs : rm.slots = ms)
    (hframes : rm.frames + 1 ≤ R.frames) (hlocals : W9 + (maxL + 11) + rm.locals ≤ R.locals)
    (hws : ∀ w ∈ ws, ∀ a' U, s.WarmedH U.vm → w.before a' U = true) (hcode : Cond.codeWith y bytes maxL ret hh ∈ ws) (hinit : ∀ a' U, s.WarmedH U.vm → (Cond.initialized y.cls).before a' U = true) :
    vx_Back l R p e below s sargs y len W9 (PreOf R mc ms Pc) (PostOf Qc mc ms free) (vx_Post XC mc ms free) := by
  intro m meth c A g ig mk a X hg hsize hdg hW hn hp
  have h1 : (headSpec ws rm).pre.before a A.U = true := atoms_intro fun w hw => hws w hw _ _ X.warmed
  have h2 : (Cond.codeWith y bytes maxL ret hh).before a A.U = true := hws _ hcode _ _ X.warmed
  have h3 : (Cond.initialized y.cls).before a A.U = true := hinit _ _ X.warmed
  have h4 : A.cells + (headSpec ws rm).room.cells ≤ R.cells := by rw [show (headSpec ws rm).room.cells = mc from hrc]; exact hp.1
  have h5 : A.slots + (headSpec ws rm).room.slots ≤ R.slots := by rw [show (headSpec ws rm).room.slots = ms from hrs]; exact hp.2.1
  have hPc : Pc a (A.U.calling g mk a) := hblind _ _ _ _ hp.2.2
  obtain ⟨U, Ls, c0, s0⟩ := A
  dsimp only [Pt.U, Pt.locs, Pt.cells, Pt.slots] at h1 h2 h3 h4 h5 X hn hPc ⊢
  obtain ⟨m9, methY, cY, hn9, hmY, hcY, -, hlY, -⟩ := Cond.codeWith_spec h2
  cases Option.some.inj (hn9.symm.trans hn)
  obtain ⟨kY, hkY, -⟩ := className_of_methodNamed hn
  have hinitY : kY.init = .initialized := Cond.initialized_spec (findClass_of_methodNamed hn) hkY h3
  have h : At U g.method c below := by rw [hg]; exact X.here
  have hlocals9 : W9 + (maxL + 11) + (headSpec ws rm).room.locals ≤ R.locals := hlocals
  have happ : (headSpec ws rm).appliesLoose y e.platform (U.calling g mk a) = true :=
    Spec.appliesLoose_calling (g := g) h hdg hn hkY hinitY
      (X.room_calling (g := g) (R' := (headSpec ws rm).room) hsize hmY hcY hframes (by rw [hlY]; omega) h4 h5) h1
  obtain ⟨mid, hmid⟩ := h.above
  have hfr : (U.setTop g).frames = (.java g :: mid) ++ below := by rw [State.frames_setTop' g h.top, hmid]; rfl
  obtain ⟨o, s₂, hsteps, -, hend, hq⟩ := Steps.callFree hM p X.admits X.cas X.clock (acts := []) hfr happ hPc trivial
  have hq' : vx_Q Qc XC mc ms free a (U.calling g mk a) o s₂ := hq
  rw [State.frames_setTop' g h.top] at hend
  obtain ⟨g₀, hg0⟩ := Option.isSome_iff_exists.mp h.top
  obtain ⟨r, hr⟩ := State.topJava?_eq_some.mp hg0
  have hr' : (({ U with heap := s₂.heap, slotsUsed := s₂.slotsUsed } : State).setVm s₂.vm).frames = .java g₀ :: r := hr
  rcases hq' with ⟨hqc, L, hfe, hL⟩ | ⟨q, rfl, E, ce, L, hx, hce, hcv, hcl, hW₂, hsm, hL⟩
  · obtain ⟨⟨v, rfl⟩, hW₂, e2, q2, q3, q4, q5, q6⟩ := id hfe
    have e3 : s₂ = ({ (U.calling g mk a).setFrames s₂.frames with heap := s₂.heap, slotsUsed := s₂.slotsUsed } : State).setVm s₂.vm := by
      have : s₂ = ({ s₂ with vm := (U.calling g mk a).vm } : State).setVm s₂.vm := rfl
      rw [e2] at this
      exact this
    obtain ⟨c₂, i₂, len₂, hc₂, hd₂, hf₂⟩ := hend
    have hW' : U.WarmedH s₂.vm := hW₂
    have hcc : c₂ = c := by
      have h1 : s₂.code? g.method = U.code? g.method := by
        rw [State.code?_eq, State.code?_eq, hW'.alike.method?]
      exact Option.some.inj (hc₂.symm.trans (h1.trans h.code))
    subst hcc
    have hlen : len₂ = len := by rw [hdg] at hd₂; cases hd₂; rfl
    subst hlen
    have hs₂ : s₂ = (({ U with heap := s₂.heap, slotsUsed := s₂.slotsUsed } : State).setVm s₂.vm).setTop { g with pc := g.pc + len₂, stack := v.toList ++ g.stack } := by
      refine e3.trans ?_
      rw [hf₂, State.calling_eq h.top, State.setFrames_setFrames, State.setTop_of_frames _ hr', hr]
      rfl
    have hsame : U.sameButNew ({ U with heap := s₂.heap, slotsUsed := s₂.slotsUsed } : State) L mc ms := by
      refine ⟨?_, q2, q3, q4, q5, q6⟩
      obtain ⟨t, ht, -⟩ := State.frames_cons hr
      show ({ U with heap := s₂.heap, slotsUsed := s₂.slotsUsed } : State) = { U.setFrames U.frames with heap := s₂.heap, slotsUsed := s₂.slotsUsed }
      rw [State.setFrames_self ht]
    subst hg
    refine Or.inl ⟨v, ⟨(({ U with heap := s₂.heap, slotsUsed := s₂.slotsUsed } : State).setVm s₂.vm), Ls ++ L, c0 + mc, s0 + ms⟩,
      ⟨X.admits, X.cas, X.clock, X.frames, X.room, X.hears, X.method, X.code, (X.here.setHeapUsed s₂.heap s₂.slotsUsed).setVm hW'.alike, X.tail, State.WarmedH.trans X.warmed hW', X.limits, X.bytes, X.same.trans (hsame.setVm s.vm)⟩,
      ⟨g, mk, s₂, L, rfl, rfl, hqc, rfl, hL, rfl, rfl⟩, ?_⟩
    show Steps p.tables e below _ ((({ U with heap := s₂.heap, slotsUsed := s₂.slotsUsed } : State).setVm s₂.vm).setTop { g with pc := g.pc + len₂, stack := v.toList ++ g.stack })
    rw [← hs₂]
    exact hsteps
  · obtain ⟨e2, q2, q3, q4, q5, q6⟩ := id hsm
    have e3 : s₂ = ({ (U.calling g mk a).setFrames s₂.frames with heap := s₂.heap, slotsUsed := s₂.slotsUsed } : State).setVm s₂.vm := by
      have : s₂ = ({ s₂ with vm := (U.calling g mk a).vm } : State).setVm s₂.vm := rfl
      rw [e2] at this
      exact this
    have hf₂ : s₂.frames = .throwing q :: .java g :: U.frames.tail := hend
    have hW' : U.WarmedH s₂.vm := hW₂
    have hs₂ : s₂ = ((({ U with heap := s₂.heap, slotsUsed := s₂.slotsUsed } : State).setVm s₂.vm).setTop g).pushFrame (.throwing q) := by
      refine e3.trans ?_
      rw [hf₂, State.calling_eq h.top, State.setFrames_setFrames, State.pushFrame, State.frames_setTop _ hr', State.setTop_of_frames _ hr', State.setFrames_setFrames, hr]
      rfl
    have hsame : U.sameButNew ({ U with heap := s₂.heap, slotsUsed := s₂.slotsUsed } : State) L mc ms := by
      refine ⟨?_, q2, q3, q4, q5, q6⟩
      obtain ⟨t, ht, -⟩ := State.frames_cons hr
      show ({ U with heap := s₂.heap, slotsUsed := s₂.slotsUsed } : State) = { U.setFrames U.frames with heap := s₂.heap, slotsUsed := s₂.slotsUsed }
      rw [State.setFrames_self ht]
    subst hg
    refine Or.inr ⟨q, ⟨(({ U with heap := s₂.heap, slotsUsed := s₂.slotsUsed } : State).setVm s₂.vm), Ls ++ L, c0 + mc, s0 + ms⟩,
      ⟨X.admits, X.cas, X.clock, X.frames, X.room, X.hears, X.method, X.code, (X.here.setHeapUsed s₂.heap s₂.slotsUsed).setVm hW'.alike, X.tail, State.WarmedH.trans X.warmed hW', X.limits, X.bytes, X.same.trans (hsame.setVm s.vm)⟩,
      ⟨g, mk, s₂, L, E, ce, rfl, rfl, hx, hce, hcv, hcl, rfl, hL, rfl, rfl⟩, ?_⟩
    show Steps p.tables e below _ (((({ U with heap := s₂.heap, slotsUsed := s₂.slotsUsed } : State).setVm s₂.vm).setTop g).pushFrame (.throwing q))
    rw [← hs₂]
    exact hsteps
end
variable {p : Program} {l : Launch} {e : Env} {R : Room} {s : State} {m : MethodId} {args : Array Value} {below : List Frame} {meth : Method} {c : Code} {T : State} {H : Heap} {locs : List Loc} {cells slots : Nat}
theorem vx_callVX (X : Stand p l e R s m args below meth c T locs cells slots) (hexec : p.tables.exec = Jvm.exec) {own C : String} {index : Nat} {y : MethodName} {bytes : ByteArray} {maxL : Nat} {ret : Option FieldType} {hh : List (Nat × Nat × Nat × Nat)}
    (hown : s.vm.findClass own = some m.cls) (hlink : (Cond.methodLink own index y).before args s = true) (hinst : (Cond.instanceMethod y).before args s = true) (hsel : (Cond.selects C y y).before args s = true)
    (hcode : (Cond.codeWith y bytes maxL ret hh).before args s = true) (hy : y.cls ≠ "java/lang/invoke/MethodHandle" ∧ y.cls ≠ "java/lang/invoke/VarHandle")
    {W9 : Nat} {Pre : Pt → Array Value → Prop} {Post : Pt → Array Value → Option Value → Pt → Prop} {PostX : Pt → Array Value → Addr → Pt → Prop} (hK : vx_Back l R p e below s args y 3 W9 Pre Post PostX)
    {b : Addr} {cellB : Cell} (hcell : T.heap[b]? = some cellB) (hobj : cellB.vm.isStatics = false) (hcls : s.vm.findClass C = some cellB.cls)
    {g : JFrame} (hg : g.method = m) (hsize : g.locals.size = c.maxLocals) {argsL rest : List Value} (hlen : ∀ sig, parseMethodDescriptor y.desc = some sig → argsL.length = sig.parameters.length)
    (hstack : g.stack = argsL.reverse ++ .ref b :: rest) (hW : 2 * g.monitorRoom + (rest.map fun v => v.category).sum ≤ W9) (hdg : decode c.code g.pc = .ok (.invokevirtual index, 3))
    (hpre : ∀ vm₁, s.WarmedH vm₁ → Pre ⟨T.setVm vm₁, locs, cells, slots⟩ (Value.ref b :: argsL).toArray) :
    (∃ (v : Option Value) (vm₁ : Vm) (B : Pt), s.WarmedH vm₁ ∧ Stand p l e R s m args below meth c B.U B.locs B.cells B.slots ∧ Post ⟨T.setVm vm₁, locs, cells, slots⟩ (Value.ref b :: argsL).toArray v B ∧
      ∀ target, Steps p.tables e below (B.U.setTop { g with pc := g.pc + 3, stack := v.toList ++ rest }) target → Steps p.tables e below (T.setTop g) target) ∨
    (∃ (q : Addr) (vm₁ : Vm) (B : Pt), s.WarmedH vm₁ ∧ Stand p l e R s m args below meth c B.U B.locs B.cells B.slots ∧ PostX ⟨T.setVm vm₁, locs, cells, slots⟩ (Value.ref b :: argsL).toArray q B ∧
      Steps p.tables e below (T.setTop g) ((B.U.setTop { g with stack := rest }).pushFrame (.throwing q))) := by
  obtain ⟨mk, methM, hnamed, hmethM, hstM, habM⟩ := Cond.instanceMethod_spec hinst
  obtain ⟨m8, methM', cM, hn8, hmethM', -, -, -, -, -, -, hsigM⟩ := Cond.codeWith_spec hcode
  cases Option.some.inj (hn8.symm.trans hnamed)
  cases hmethM.symm.trans hmethM'
  obtain ⟨c2, r2, m2, q1, q2, q3, q4, kP, hkP, hkPi⟩ := Cond.selects_spec hsel
  cases hcls.symm.trans q1
  cases (State.methodFound?_of_named hnamed hy).symm.trans q2
  cases hnamed.symm.trans q3
  have hselP : selectMethod e.platform s.vm cellB.cls mk = .method mk := by rw [Launch.admits_selectMethod X.admits]; exact q4
  obtain ⟨vm₁, X₁, hstep₁⟩ := X.invokevirtual hexec hown hlink hnamed hmethM hstM hkP hkPi hy (a := b) (cell := cellB) hcell
    (fun z h => by rw [h] at hobj; cases hobj) hselP hmethM habM hkP hkPi (g := g) hg (argsL := argsL) (rest := rest) (hlen _ hsigM) hstack hdg
  rcases hK m meth c ⟨T.setVm vm₁, locs, cells, slots⟩ { g with stack := rest } (.invokevirtual index) mk (Value.ref b :: argsL).toArray X₁ hg hsize hdg hW (X₁.named hnamed) (hpre vm₁ X₁.warmed) with ⟨v, B, X', hpost, hsteps⟩ | ⟨q, B, X', hpost, hsteps⟩
  · exact Or.inl ⟨v, vm₁, B, X₁.warmed, X', hpost, fun target h => hstep₁ _ fun acts => by rw [doInvoke_state]; exact hsteps.trans h⟩
  · exact Or.inr ⟨q, vm₁, B, X₁.warmed, X', hpost, hstep₁ _ fun acts => by rw [doInvoke_state]; exact hsteps⟩
theorem vx_callSX (X : Stand p l e R s m args below meth c T locs cells slots) (hexec : p.tables.exec = Jvm.exec) {own : String} {index : Nat} {y : MethodName} {bytes : ByteArray} {maxL : Nat} {ret : Option FieldType} {hh : List (Nat × Nat × Nat × Nat)}
    (hown : s.vm.findClass own = some m.cls) (hlink : (Cond.methodLink own index y).before args s = true) (hstat : (Cond.static y).before args s = true) (hinit : (Cond.initialized y.cls).before args s = true)
    (hcode : (Cond.codeWith y bytes maxL ret hh).before args s = true) (hy : y.cls ≠ "java/lang/invoke/MethodHandle" ∧ y.cls ≠ "java/lang/invoke/VarHandle")
    {W9 : Nat} {Pre : Pt → Array Value → Prop} {Post : Pt → Array Value → Option Value → Pt → Prop} {PostX : Pt → Array Value → Addr → Pt → Prop} (hK : vx_Back l R p e below s args y 3 W9 Pre Post PostX)
    {g : JFrame} (hg : g.method = m) (hsize : g.locals.size = c.maxLocals) {argsL rest : List Value} (hlen : ∀ sig, parseMethodDescriptor y.desc = some sig → argsL.length = sig.parameters.length)
    (hstack : g.stack = argsL.reverse ++ rest) (hW : 2 * g.monitorRoom + (rest.map fun v => v.category).sum ≤ W9) (hdg : decode c.code g.pc = .ok (.invokestatic index, 3))
    (hpre : ∀ vm₁, s.WarmedH vm₁ → Pre ⟨T.setVm vm₁, locs, cells, slots⟩ argsL.toArray) :
    (∃ (v : Option Value) (vm₁ : Vm) (B : Pt), s.WarmedH vm₁ ∧ Stand p l e R s m args below meth c B.U B.locs B.cells B.slots ∧ Post ⟨T.setVm vm₁, locs, cells, slots⟩ argsL.toArray v B ∧
      ∀ target, Steps p.tables e below (B.U.setTop { g with pc := g.pc + 3, stack := v.toList ++ rest }) target → Steps p.tables e below (T.setTop g) target) ∨
    (∃ (q : Addr) (vm₁ : Vm) (B : Pt), s.WarmedH vm₁ ∧ Stand p l e R s m args below meth c B.U B.locs B.cells B.slots ∧ PostX ⟨T.setVm vm₁, locs, cells, slots⟩ argsL.toArray q B ∧
      Steps p.tables e below (T.setTop g) ((B.U.setTop { g with stack := rest }).pushFrame (.throwing q))) := by
  obtain ⟨mk, methM, cM, hnamed, hmethM, -, -, -, -, -, -, hsigM⟩ := Cond.codeWith_spec hcode
  have hstatic : methM.isStatic = true := Cond.static_spec hnamed hmethM hstat
  obtain ⟨kP, hkP, -⟩ := className_of_methodNamed hnamed
  have hinitP : kP.init = .initialized := Cond.initialized_spec (findClass_of_methodNamed hnamed) hkP hinit
  obtain ⟨vm₁, X₁, hstep₁⟩ := X.invokestatic hexec hown hlink hnamed hmethM hstatic hkP hinitP hy (g := g) hg (argsL := argsL) (rest := rest) (hlen _ hsigM) hstack hdg
  rcases hK m meth c ⟨T.setVm vm₁, locs, cells, slots⟩ { g with stack := rest } (.invokestatic index) mk argsL.toArray X₁ hg hsize hdg hW (X₁.named hnamed) (hpre vm₁ X₁.warmed) with ⟨v, B, X', hpost, hsteps⟩ | ⟨q, B, X', hpost, hsteps⟩
  · exact Or.inl ⟨v, vm₁, B, X₁.warmed, X', hpost, fun target h => hstep₁ _ fun acts => by rw [doInvoke_state]; exact hsteps.trans h⟩
  · exact Or.inr ⟨q, vm₁, B, X₁.warmed, X', hpost, hstep₁ _ fun acts => by rw [doInvoke_state]; exact hsteps⟩
theorem vx_callVW (X : Stand p l e R s m args below meth c T locs cells slots) (hexec : p.tables.exec = Jvm.exec) {own C : String} {index : Nat} {y : MethodName} {bytes : ByteArray} {maxL : Nat} {ret : Option FieldType} {hh : List (Nat × Nat × Nat × Nat)}
    (hown : s.vm.findClass own = some m.cls) (hlink : (Cond.methodLink own index y).before args s = true) (hinst : (Cond.instanceMethod y).before args s = true) (hsel : (Cond.selects C y y).before args s = true)
    (hcode : (Cond.codeWith y bytes maxL ret hh).before args s = true) (hy : y.cls ≠ "java/lang/invoke/MethodHandle" ∧ y.cls ≠ "java/lang/invoke/VarHandle")
    {W9 : Nat} {Pre : Pt → Array Value → Prop} {Post : Pt → Array Value → Option Value → Pt → Prop} (hK : Back l R p e below s args y 3 W9 Pre Post)
    {b : Addr} {cellB : Cell} (hcell : T.heap[b]? = some cellB) (hobj : cellB.vm.isStatics = false) (hcls : s.vm.findClass C = some cellB.cls)
    {g : JFrame} (hg : g.method = m) (hsize : g.locals.size = c.maxLocals) {argsL rest : List Value} (hlen : ∀ sig, parseMethodDescriptor y.desc = some sig → argsL.length = sig.parameters.length)
    (hstack : g.stack = argsL.reverse ++ .ref b :: rest) (hW : 2 * g.monitorRoom + (rest.map fun v => v.category).sum ≤ W9) (hdg : decode c.code g.pc = .ok (.invokevirtual index, 3))
    (hpre : ∀ vm₁, s.WarmedH vm₁ → Pre ⟨T.setVm vm₁, locs, cells, slots⟩ (Value.ref b :: argsL).toArray) :
    ∃ (v : Option Value) (vm₁ : Vm) (B : Pt), s.WarmedH vm₁ ∧ Stand p l e R s m args below meth c B.U B.locs B.cells B.slots ∧ Post ⟨T.setVm vm₁, locs, cells, slots⟩ (Value.ref b :: argsL).toArray v B ∧
      ∀ target, Steps p.tables e below (B.U.setTop { g with pc := g.pc + 3, stack := v.toList ++ rest }) target → Steps p.tables e below (T.setTop g) target := by
  obtain ⟨mk, methM, hnamed, hmethM, hstM, habM⟩ := Cond.instanceMethod_spec hinst
  obtain ⟨m8, methM', cM, hn8, hmethM', -, -, -, -, -, -, hsigM⟩ := Cond.codeWith_spec hcode
  cases Option.some.inj (hn8.symm.trans hnamed)
  cases hmethM.symm.trans hmethM'
  obtain ⟨c2, r2, m2, q1, q2, q3, q4, kP, hkP, hkPi⟩ := Cond.selects_spec hsel
  cases hcls.symm.trans q1
  cases (State.methodFound?_of_named hnamed hy).symm.trans q2
  cases hnamed.symm.trans q3
  have hselP : selectMethod e.platform s.vm cellB.cls mk = .method mk := by rw [Launch.admits_selectMethod X.admits]; exact q4
  obtain ⟨vm₁, X₁, hstep₁⟩ := X.invokevirtual hexec hown hlink hnamed hmethM hstM hkP hkPi hy (a := b) (cell := cellB) hcell
    (fun z h => by rw [h] at hobj; cases hobj) hselP hmethM habM hkP hkPi (g := g) hg (argsL := argsL) (rest := rest) (hlen _ hsigM) hstack hdg
  obtain ⟨v, B, X', hpost, hsteps⟩ := hK m meth c ⟨T.setVm vm₁, locs, cells, slots⟩ { g with stack := rest } (.invokevirtual index) mk (Value.ref b :: argsL).toArray X₁ hg hsize hdg hW (X₁.named hnamed) (hpre vm₁ X₁.warmed)
  exact ⟨v, vm₁, B, X₁.warmed, X', hpost, fun target h => hstep₁ _ fun acts => by rw [doInvoke_state]; exact hsteps.trans h⟩
abbrev vx_CVW (R : Room) (s : State) (args : Array Value) (own C : String) (index : Nat) (y : MethodName) (bytes : ByteArray) (maxL : Nat) (ret : Option FieldType) (hh : List (Nat × Nat × Nat × Nat)) (ws : List Cond) (rm : Room) (mc ms n : Nat) : Prop :=
  (rm.cells = mc ∧ rm.slots = ms ∧ rm.frames + 1 ≤ R.frames ∧ 8 + (maxL + 11) + rm.locals ≤ R.locals ∧ (∀ w ∈ ws, ∀ (a' : Array Value) (U : State), s.WarmedH U.vm → w.before a' U = true) ∧ Cond.codeWith y bytes maxL ret hh ∈ ws) ∧
  (Cond.codeWith y bytes maxL ret hh).before args s = true ∧ (Cond.initialized y.cls).before args s = true ∧ (y.cls ≠ "java/lang/invoke/MethodHandle" ∧ y.cls ≠ "java/lang/invoke/VarHandle") ∧
  (∀ sig, parseMethodDescriptor y.desc = some sig → n = sig.parameters.length) ∧ (Cond.methodLink own index y).before args s = true ∧ (Cond.instanceMethod y).before args s = true ∧ (Cond.selects C y y).before args s = true
theorem vx_cwVW {own C : String} {index maxL mc ms : Nat} {y : MethodName} {bytes : ByteArray} {ret : Option FieldType} {hh : List (Nat × Nat × Nat × Nat)} {Ts ws ws' : List Cond} {rm : Room} (n : Nat) (ht : ∀ w ∈ Ts, w.before args s = true) (hT : GoodIn Ts (wsV own index C y ws)) (hw : ws = Cond.codeWith y bytes maxL ret hh :: ws') (hrc : rm.cells = mc) (hrs : rm.slots = ms)
    (hd : y.cls = C ∧ y.cls ≠ "java/lang/invoke/MethodHandle" ∧ y.cls ≠ "java/lang/invoke/VarHandle" ∧ (parseMethodDescriptor y.desc).map (fun d => d.parameters.length) = some n) (hR : rm.frames + 1 ≤ R.frames ∧ 8 + (maxL + 11) + rm.locals ≤ R.locals) :
    vx_CVW R s args own C index y bytes maxL ret hh ws rm mc ms n := by
  obtain ⟨hC, hd⟩ := hd
  subst hC
  have ok : ∀ w ∈ wsV own index y.cls y ws, w.before args s = true := fun w h => ht w (hT w h).1
  have hG : GoodIn Ts ws := fun w h => hT w (by unfold wsV; exact List.mem_append_right _ h)
  have hc : Cond.codeWith y bytes maxL ret hh ∈ ws := by rw [hw]; exact List.mem_cons_self
  refine ⟨⟨hrc, hrs, hR.1, hR.2, pay_in ht hG, hc⟩, ht _ (hG _ hc).1, ok _ (by simp [wsV]), ⟨hd.1, hd.2.1⟩, fun sig h => ?_, ok _ (by simp [wsV]), ok _ (by simp [wsV]), ok _ (by simp [wsV])⟩
  have h2 := hd.2.2
  rw [h] at h2
  exact (Option.some.inj h2).symm
theorem vx_runVW {y : MethodName} {bytes cc : ByteArray} {maxL nL mc ms n index : Nat} {ret : Option FieldType} {hh : List (Nat × Nat × Nat × Nat)} {ws : List Cond} {rm : Room} {Pc : Array Value → State → Prop} {Qc : Array Value → State → Outcome → State → Prop} {free : Addr → Prop} {Ts : List Cond} {own C : String} {b : Addr} {As rest : List Value} {g : JFrame}
    (S : CallFix p m c cc nL s args Ts own) (hM : Met l y ws rm Pc Qc mc ms free) (cw : vx_CVW R s args own C index y bytes maxL ret hh ws rm mc ms n) (hp : PreV s H C b Pc As)
    (hg : g.method = m) (hn : As.length = n) (hsize : g.locals.size = nL) (hstack : g.stack = As.reverse ++ .ref b :: rest) (hW : 2 * g.monitorRoom + (rest.map fun v => v.category).sum ≤ 8) (hdg : decode cc g.pc = .ok (.invokevirtual index, 3)) (hf : cells + mc ≤ R.cells ∧ slots + ms ≤ R.slots) :
    va_Run p l e R s m args below meth c H locs cells slots mc ms g rest (Qc (Value.ref b :: As).toArray) free := by
  obtain ⟨⟨hrc, hrs, hfr, hlo, hws, hcw⟩, hcode, hini, hy, hlen, hl, hin, hse⟩ := cw
  have hK : Back l R p e below s args y 3 8 (PreOf R mc ms Pc) (PostOf Qc mc ms free) := va_backW (hh := hh) (bytes := bytes) (maxL := maxL) (ret := ret) hM hp.1 hrc hrs hfr hlo hws hcw (fun a' U hW => word_at hW (Or.inl (by first | rfl | simp [Cond.onTables, Cond.keeps, Cond.steady])) hini)
  obtain ⟨hx, hb, hml, ho, -⟩ := S
  obtain ⟨-, ⟨cellB, hcB, hoB, hclB⟩, hPc⟩ := hp
  intro T hT X
  obtain ⟨v, vm₁, ⟨U', l2, c2, s2⟩, hW₁, X', ⟨g', mk, t, L, e1, e2, hq, h1, hL, h2, h3⟩, st⟩ := vx_callVW X hx (C := C) (hh := hh) (bytes := bytes) (maxL := maxL) (ret := ret) ho hl hin hse hcode hy hK (by rw [hT]; exact hcB) hoB hclB hg (hsize.trans hml.symm) (argsL := As) (rest := rest) (fun sig h => hn.trans (hlen sig h)) hstack hW (by rw [hb]; exact hdg)
    (fun vm₁ hW₁ => ⟨hf.1, hf.2, hPc (T.setVm vm₁) hT hW₁⟩)
  dsimp only [Pt.U, Pt.locs, Pt.cells, Pt.slots] at X' e1 e2 h1 h2 h3 st
  subst h1; subst h2; subst h3
  exact ⟨v, (T.setVm vm₁).calling g' mk (Value.ref b :: As).toArray, t, U', L, hT, X', hL, e1, e2, hq, st⟩
section
variable {y : MethodName} {bytes cc : ByteArray} {maxL nL mc ms n index : Nat} {ret : Option FieldType} {ws : List Cond} {rm : Room} {Pc : Array Value → State → Prop} {Qc : Array Value → State → Outcome → State → Prop} {XC : String → State → State → Prop} {free : Addr → Prop} {Ts : List Cond} {own C : String} {b : Addr} {As rest : List Value} {g : JFrame}
theorem vx_runVX {hh : List (Nat × Nat × Nat × Nat)} (S : CallFix p m c cc nL s args Ts own) (hM : vx_Met l y ws rm Pc Qc XC mc ms free) (cw : vx_CVW R s args own C index y bytes maxL ret hh ws rm mc ms n) (hp : PreV s H C b Pc As)
    (hg : g.method = m) (hn : As.length = n) (hsize : g.locals.size = nL) (hstack : g.stack = As.reverse ++ .ref b :: rest) (hW : 2 * g.monitorRoom + (rest.map fun v => v.category).sum ≤ 8) (hdg : decode cc g.pc = .ok (.invokevirtual index, 3)) (hf : cells + mc ≤ R.cells ∧ slots + ms ≤ R.slots) :
    vx_Run p l e R s m args below meth c H locs cells slots mc ms g rest (Qc (Value.ref b :: As).toArray) XC free := by
  obtain ⟨⟨hrc, hrs, hfr, hlo, hws, hcw⟩, hcode, hini, hy, hlen, hl, hin, hse⟩ := cw
  have hK : vx_Back l R p e below s args y 3 8 (PreOf R mc ms Pc) (PostOf Qc mc ms free) (vx_Post XC mc ms free) := vx_backW (hh := hh) (bytes := bytes) (maxL := maxL) (ret := ret) hM hp.1 hrc hrs hfr hlo hws hcw (fun a' U hW => word_at hW (Or.inl (by first | rfl | simp [Cond.onTables, Cond.keeps, Cond.steady])) hini)
  obtain ⟨hx, hb, hml, ho, -⟩ := S
  obtain ⟨-, ⟨cellB, hcB, hoB, hclB⟩, hPc⟩ := hp
  intro T hT X
  rcases vx_callVX X hx (C := C) (hh := hh) (bytes := bytes) (maxL := maxL) (ret := ret) ho hl hin hse hcode hy hK (by rw [hT]; exact hcB) hoB hclB hg (hsize.trans hml.symm) (argsL := As) (rest := rest) (fun sig h => hn.trans (hlen sig h)) hstack hW (by rw [hb]; exact hdg)
    (fun vm₁ hW₁ => ⟨hf.1, hf.2, hPc (T.setVm vm₁) hT hW₁⟩) with ⟨v, vm₁, ⟨U', l2, c2, s2⟩, hW₁, X', ⟨g', mk, t, L, e1, e2, hq, h1, hL, h2, h3⟩, st⟩ | ⟨q, vm₁, ⟨U', l2, c2, s2⟩, hW₁, X', ⟨g', mk, t, L, E, ce, e1, e2, hq, hce, hcv, hcl, h1, hL, h2, h3⟩, st⟩
  · dsimp only [Pt.U, Pt.locs, Pt.cells, Pt.slots] at X' e1 e2 h1 h2 h3 st
    subst h1; subst h2; subst h3
    exact Or.inl ⟨v, (T.setVm vm₁).calling g' mk (Value.ref b :: As).toArray, t, U', L, hT, X', hL, e1, e2, hq, st⟩
  · dsimp only [Pt.U, Pt.locs, Pt.cells, Pt.slots] at X' e1 e2 h1 h2 h3 st hcl
    subst h1; subst h2; subst h3
    exact Or.inr ⟨q, (T.setVm vm₁).calling g' mk (Value.ref b :: As).toArray, t, U', L, E, ce, hT, X', hL, e1, e2, hq, hce, hcv, vx_cls hW₁ hcl, st⟩
theorem vx_runSX {hh : List (Nat × Nat × Nat × Nat)} (S : CallFix p m c cc nL s args Ts own) (hM : vx_Met l y ws rm Pc Qc XC mc ms free) (cw : vx_CSW R s args own index y bytes maxL ret hh ws rm mc ms n) (hp : PreS s H Pc As)
    (hg : g.method = m) (hn : As.length = n) (hsize : g.locals.size = nL) (hstack : g.stack = As.reverse ++ rest) (hW : 2 * g.monitorRoom + (rest.map fun v => v.category).sum ≤ 8) (hdg : decode cc g.pc = .ok (.invokestatic index, 3)) (hf : cells + mc ≤ R.cells ∧ slots + ms ≤ R.slots) :
    vx_Run p l e R s m args below meth c H locs cells slots mc ms g rest (Qc As.toArray) XC free := by
  obtain ⟨⟨hrc, hrs, hfr, hlo, hws, hcw⟩, hcode, hini, hy, hlen, hl, hstt⟩ := cw
  have hK : vx_Back l R p e below s args y 3 8 (PreOf R mc ms Pc) (PostOf Qc mc ms free) (vx_Post XC mc ms free) := vx_backW (hh := hh) (bytes := bytes) (maxL := maxL) (ret := ret) hM hp.1 hrc hrs hfr hlo hws hcw (fun a' U hW => word_at hW (Or.inl (by first | rfl | simp [Cond.onTables, Cond.keeps, Cond.steady])) hini)
  obtain ⟨hx, hb, hml, ho, -⟩ := S
  intro T hT X
  rcases vx_callSX X hx (hh := hh) (bytes := bytes) (maxL := maxL) (ret := ret) ho hl hstt hini hcode hy hK hg (hsize.trans hml.symm) (argsL := As) (rest := rest) (fun sig h => hn.trans (hlen sig h)) hstack hW (by rw [hb]; exact hdg)
    (fun vm₁ hW₁ => ⟨hf.1, hf.2, hp.2 (T.setVm vm₁) hT hW₁⟩) with ⟨v, vm₁, ⟨U', l2, c2, s2⟩, hW₁, X', ⟨g', mk, t, L, e1, e2, hq, h1, hL, h2, h3⟩, st⟩ | ⟨q, vm₁, ⟨U', l2, c2, s2⟩, hW₁, X', ⟨g', mk, t, L, E, ce, e1, e2, hq, hce, hcv, hcl, h1, hL, h2, h3⟩, st⟩
  · dsimp only [Pt.U, Pt.locs, Pt.cells, Pt.slots] at X' e1 e2 h1 h2 h3 st
    subst h1; subst h2; subst h3
    exact Or.inl ⟨v, (T.setVm vm₁).calling g' mk As.toArray, t, U', L, hT, X', hL, e1, e2, hq, st⟩
  · dsimp only [Pt.U, Pt.locs, Pt.cells, Pt.slots] at X' e1 e2 h1 h2 h3 st hcl
    subst h1; subst h2; subst h3
    exact Or.inr ⟨q, (T.setVm vm₁).calling g' mk As.toArray, t, U', L, E, ce, hT, X', hL, e1, e2, hq, hce, hcv, vx_cls hW₁ hcl, st⟩
end
end VXH
theorem vx_ofWH {l : Launch} {y : MethodName} {ws ws' : List Cond} {rm : Room} {Pc : Array Value → State → Prop} {Qc : Array Value → State → Outcome → State → Prop} {XC : String → State → State → Prop} {mc ms : Nat} {free : Addr → Prop} {cc : ByteArray} {maxL : Nat} {ret : Option FieldType} {hh : List (Nat × Nat × Nat × Nat)}
    (hy : plainName y.cls = true) (hw : ws = Cond.codeWith y cc maxL ret hh :: ws')
    (body : ∀ p e s m args below meth c s₁, BodyLoose p l y (headSpec ws rm) cc maxL ret e s m args below meth c s₁ → c.maxLocals = maxL → Pc args s →
      W p l e (headSpec ws rm).room s m args below meth c s.heap [] 0 0 (vx_MQ below Qc XC args s mc ms free) (entryFrame m args maxL)) : vx_Met l y ws rm Pc Qc XC mc ms free := by
  refine MetFree.of_bodyS (code := cc) (maxLocals := maxL) (ret := ret) hy ?_ ?_
  · intro args s m h hn
    obtain ⟨m9, meth, c, hn9, h1, h2, h3, h4, -, h5, h6, -⟩ := Cond.codeWith_spec (atoms_spec (ws := ws) h _ (by rw [hw]; exact List.mem_cons_self))
    cases hn.symm.trans hn9
    exact ⟨meth, c, h1, h2, h3, h4, h5, h6⟩
  · intro p e s m args below meth c s₁ B hml hP _
    have hh0 : s₁.heap = s.heap := by rw [B.state]; rfl
    obtain ⟨t, a1, o, b1, b2, b3⟩ := body p e s m args below meth c s₁ B hml hP s₁ hh0 (Stand.of_body B)
    exact ⟨t, o, a1, b1, b2, b3⟩
/-! ===== END ===== -/
end
section
def RX0 : String := "TurtleChalk$Desk"
def TX0 : u_T := fun k => match k with
  | 0 => ("TurtleChalk$Desk", "above", "[I", false)
  | _ => ("TurtleChalk$Desk", "below", "[I", false)
def tyX0 : Nat → FieldType := fun k => match k with
  | 0 => .array .int
  | _ => .array .int
abbrev wsX00 : List Cond := u_ws RX0 TX0 2
theorem nmX0 : ∀ a, a < 2 → ∀ b, b < 2 → a ≠ b → (TX0 a).2.1 ≠ (TX0 b).2.1 := by decide +kernel
theorem tyX0_ok : ∀ k, k < 2 → parseFieldDescriptor (TX0 k).2.2.1 = some (tyX0 k) := by decide +kernel
abbrev cX0_init : ByteArray := prog_2_method_1_code
def yX0_init : MethodName := ⟨RX0, "<init>", "()V"⟩
abbrev cX0_longestCommon : ByteArray := prog_2_method_2_code
def yX0_longestCommon : MethodName := ⟨RX0, "longestCommon", "([I[I)I"⟩
abbrev cX0_fillBelow : ByteArray := prog_2_method_3_code
def yX0_fillBelow : MethodName := ⟨RX0, "fillBelow", "(I[II)V"⟩
def RX1 : String := "TurtleChalk$Draft"
def TX1 : u_T := fun k => match k with
  | 0 => ("TurtleChalk$Draft", "orders", "[LTurtleChalk$Order;", true)
  | 1 => ("TurtleChalk$Draft", "told", "[Z", true)
  | 2 => ("TurtleChalk$Draft", "count", "I", false)
  | _ => ("TurtleChalk$Draft", "open", "I", false)
def tyX1 : Nat → FieldType := fun k => match k with
  | 0 => .array (.object "TurtleChalk$Order")
  | 1 => .array .boolean
  | 2 => .int
  | _ => .int
abbrev wsX10 : List Cond := u_ws RX1 TX1 4
theorem nmX1 : ∀ a, a < 4 → ∀ b, b < 4 → a ≠ b → (TX1 a).2.1 ≠ (TX1 b).2.1 := by decide +kernel
theorem tyX1_ok : ∀ k, k < 4 → parseFieldDescriptor (TX1 k).2.2.1 = some (tyX1 k) := by decide +kernel
abbrev cX1_init : ByteArray := prog_3_method_1_code
def yX1_init : MethodName := ⟨RX1, "<init>", "()V"⟩
abbrev cX1_length : ByteArray := prog_3_method_2_code
def yX1_length : MethodName := ⟨RX1, "length", "()I"⟩
abbrev cX1_openBlocks : ByteArray := prog_3_method_3_code
def yX1_openBlocks : MethodName := ⟨RX1, "openBlocks", "()I"⟩
abbrev cX1_tells : ByteArray := prog_3_method_4_code
def yX1_tells : MethodName := ⟨RX1, "tells", "(I)Z"⟩
abbrev cX1_orderAt : ByteArray := prog_3_method_5_code
def yX1_orderAt : MethodName := ⟨RX1, "orderAt", "(I)LTurtleChalk$Order;"⟩
abbrev cX1_append : ByteArray := prog_3_method_6_code
def yX1_append : MethodName := ⟨RX1, "append", "(LTurtleChalk$Order;)V"⟩
abbrev cX1_makeEmpty : ByteArray := prog_3_method_7_code
def yX1_makeEmpty : MethodName := ⟨RX1, "makeEmpty", "()V"⟩
def RX2 : String := "TurtleChalk$Drawing"
def TX2 : u_T := fun k => match k with
  | 0 => ("TurtleChalk$Drawing", "rights", "[I", true)
  | 1 => ("TurtleChalk$Drawing", "ups", "[I", true)
  | 2 => ("TurtleChalk$Drawing", "strokeCount", "I", false)
  | 3 => ("TurtleChalk$Drawing", "leastX", "I", false)
  | 4 => ("TurtleChalk$Drawing", "leastY", "I", false)
  | 5 => ("TurtleChalk$Drawing", "greatestX", "I", false)
  | _ => ("TurtleChalk$Drawing", "greatestY", "I", false)
def tyX2 : Nat → FieldType := fun k => match k with
  | 0 => .array .int
  | 1 => .array .int
  | 2 => .int
  | 3 => .int
  | 4 => .int
  | 5 => .int
  | _ => .int
abbrev wsX20 : List Cond := u_ws RX2 TX2 7
theorem nmX2 : ∀ a, a < 7 → ∀ b, b < 7 → a ≠ b → (TX2 a).2.1 ≠ (TX2 b).2.1 := by decide +kernel
theorem tyX2_ok : ∀ k, k < 7 → parseFieldDescriptor (TX2 k).2.2.1 = some (tyX2 k) := by decide +kernel
abbrev cX2_init : ByteArray := prog_4_method_1_code
def yX2_init : MethodName := ⟨RX2, "<init>", "()V"⟩
abbrev cX2_makeEmpty : ByteArray := prog_4_method_2_code
def yX2_makeEmpty : MethodName := ⟨RX2, "makeEmpty", "()V"⟩
abbrev cX2_hasStroke : ByteArray := prog_4_method_3_code
def yX2_hasStroke : MethodName := ⟨RX2, "hasStroke", "(IIZ)Z"⟩
abbrev cX2_draw : ByteArray := prog_4_method_4_code
def yX2_draw : MethodName := ⟨RX2, "draw", "(IIZ)V"⟩
abbrev cX2_takeIn : ByteArray := prog_4_method_5_code
def yX2_takeIn : MethodName := ⟨RX2, "takeIn", "(IIII)V"⟩
abbrev cX2_cellsWide : ByteArray := prog_4_method_6_code
def yX2_cellsWide : MethodName := ⟨RX2, "cellsWide", "()I"⟩
abbrev cX2_cellsHigh : ByteArray := prog_4_method_7_code
def yX2_cellsHigh : MethodName := ⟨RX2, "cellsHigh", "()I"⟩
abbrev cX2_isShiftOf : ByteArray := prog_4_method_8_code
def yX2_isShiftOf : MethodName := ⟨RX2, "isShiftOf", "(LTurtleChalk$Drawing;)Z"⟩
abbrev cX2_rowInCorner : ByteArray := prog_4_method_9_code
def yX2_rowInCorner : MethodName := ⟨RX2, "rowInCorner", "([II)I"⟩
def RX3 : String := "TurtleChalk$Exercise"
def TX3 : u_T := fun k => match k with
  | 0 => ("TurtleChalk$Exercise", "wanted", "LTurtleChalk$Program;", true)
  | 1 => ("TurtleChalk$Exercise", "mostOrders", "I", false)
  | _ => ("TurtleChalk$Exercise", "mostSteps", "I", false)
def tyX3 : Nat → FieldType := fun k => match k with
  | 0 => .object "TurtleChalk$Program"
  | 1 => .int
  | _ => .int
abbrev wsX30 : List Cond := u_ws RX3 TX3 3
theorem nmX3 : ∀ a, a < 3 → ∀ b, b < 3 → a ≠ b → (TX3 a).2.1 ≠ (TX3 b).2.1 := by decide +kernel
theorem tyX3_ok : ∀ k, k < 3 → parseFieldDescriptor (TX3 k).2.2.1 = some (tyX3 k) := by decide +kernel
abbrev cX3_init : ByteArray := prog_5_method_1_code
def yX3_init : MethodName := ⟨RX3, "<init>", "(LTurtleChalk$Program;II)V"⟩
abbrev cX3_allowAtMost : ByteArray := prog_5_method_2_code
def yX3_allowAtMost : MethodName := ⟨RX3, "allowAtMost", "(II)V"⟩
abbrev cX3_isMetBy : ByteArray := prog_5_method_3_code
def yX3_isMetBy : MethodName := ⟨RX3, "isMetBy", "(LTurtleChalk$Program;)Z"⟩
def RX4 : String := "TurtleChalk$Order"
def TX4 : u_T := fun k => match k with
  | 0 => ("TurtleChalk$Order", "kind", "I", true)
  | 1 => ("TurtleChalk$Order", "target", "I", true)
  | 2 => ("TurtleChalk$Order", "value", "I", true)
  | _ => ("TurtleChalk$Order", "isName", "Z", true)
def tyX4 : Nat → FieldType := fun k => match k with
  | 0 => .int
  | 1 => .int
  | 2 => .int
  | _ => .boolean
abbrev wsX40 : List Cond := u_ws RX4 TX4 4
theorem nmX4 : ∀ a, a < 4 → ∀ b, b < 4 → a ≠ b → (TX4 a).2.1 ≠ (TX4 b).2.1 := by decide +kernel
theorem tyX4_ok : ∀ k, k < 4 → parseFieldDescriptor (TX4 k).2.2.1 = some (tyX4 k) := by decide +kernel
abbrev cX4_init : ByteArray := prog_6_method_1_code
def yX4_init : MethodName := ⟨RX4, "<init>", "(IIIZ)V"⟩
abbrev cX4_opensBlock : ByteArray := prog_6_method_2_code
def yX4_opensBlock : MethodName := ⟨RX4, "opensBlock", "()Z"⟩
def RX5 : String := "TurtleChalk$Program"
def TX5 : u_T := fun k => match k with
  | 0 => ("TurtleChalk$Program", "pupil", "I", true)
  | 1 => ("TurtleChalk$Program", "orders", "[LTurtleChalk$Order;", true)
  | 2 => ("TurtleChalk$Program", "partners", "[I", true)
  | 3 => ("TurtleChalk$Program", "wordStarts", "[I", true)
  | 4 => ("TurtleChalk$Program", "form", "[I", true)
  | 5 => ("TurtleChalk$Program", "drawing", "LTurtleChalk$Drawing;", true)
  | 6 => ("TurtleChalk$Program", "brokenBy", "I", false)
  | _ => ("TurtleChalk$Program", "counted", "I", false)
def tyX5 : Nat → FieldType := fun k => match k with
  | 0 => .int
  | 1 => .array (.object "TurtleChalk$Order")
  | 2 => .array .int
  | 3 => .array .int
  | 4 => .array .int
  | 5 => .object "TurtleChalk$Drawing"
  | 6 => .int
  | _ => .int
abbrev wsX50 : List Cond := u_ws RX5 TX5 8
theorem nmX5 : ∀ a, a < 8 → ∀ b, b < 8 → a ≠ b → (TX5 a).2.1 ≠ (TX5 b).2.1 := by decide +kernel
theorem tyX5_ok : ∀ k, k < 8 → parseFieldDescriptor (TX5 k).2.2.1 = some (tyX5 k) := by decide +kernel
abbrev cX5_init : ByteArray := prog_7_method_1_code
def yX5_init : MethodName := ⟨RX5, "<init>", "(ILTurtleChalk$Draft;)V"⟩
abbrev cX5_length : ByteArray := prog_7_method_2_code
def yX5_length : MethodName := ⟨RX5, "length", "()I"⟩
abbrev cX5_orderAt : ByteArray := prog_7_method_3_code
def yX5_orderAt : MethodName := ⟨RX5, "orderAt", "(I)LTurtleChalk$Order;"⟩
abbrev cX5_partnerOf : ByteArray := prog_7_method_4_code
def yX5_partnerOf : MethodName := ⟨RX5, "partnerOf", "(I)I"⟩
abbrev cX5_startOf : ByteArray := prog_7_method_5_code
def yX5_startOf : MethodName := ⟨RX5, "startOf", "(I)I"⟩
abbrev cX5_keepOutcome : ByteArray := prog_7_method_6_code
def yX5_keepOutcome : MethodName := ⟨RX5, "keepOutcome", "(II)V"⟩
abbrev cX5_hasFormOf : ByteArray := prog_7_method_7_code
def yX5_hasFormOf : MethodName := ⟨RX5, "hasFormOf", "(LTurtleChalk$Program;)Z"⟩
abbrev cX5_pairBlocks : ByteArray := prog_7_method_8_code
def yX5_pairBlocks : MethodName := ⟨RX5, "pairBlocks", "()V"⟩
abbrev cX5_lastOpenAhead : ByteArray := prog_7_method_9_code
def yX5_lastOpenAhead : MethodName := ⟨RX5, "lastOpenAhead", "(I)I"⟩
abbrev cX5_findWords : ByteArray := prog_7_method_10_code
def yX5_findWords : MethodName := ⟨RX5, "findWords", "()V"⟩
abbrev cX5_buildForm : ByteArray := prog_7_method_11_code
def yX5_buildForm : MethodName := ⟨RX5, "buildForm", "()V"⟩
abbrev cX5_codeOf : ByteArray := prog_7_method_12_code
def yX5_codeOf : MethodName := ⟨RX5, "codeOf", "(LTurtleChalk$Order;II)I"⟩
def RX6 : String := "TurtleChalk$Renumbering"
def TX6 : u_T := fun k => match k with
  | 0 => ("TurtleChalk$Renumbering", "fresh", "[I", true)
  | _ => ("TurtleChalk$Renumbering", "count", "I", false)
def tyX6 : Nat → FieldType := fun k => match k with
  | 0 => .array .int
  | _ => .int
abbrev wsX60 : List Cond := u_ws RX6 TX6 2
theorem nmX6 : ∀ a, a < 2 → ∀ b, b < 2 → a ≠ b → (TX6 a).2.1 ≠ (TX6 b).2.1 := by decide +kernel
theorem tyX6_ok : ∀ k, k < 2 → parseFieldDescriptor (TX6 k).2.2.1 = some (tyX6 k) := by decide +kernel
abbrev cX6_init : ByteArray := prog_8_method_1_code
def yX6_init : MethodName := ⟨RX6, "<init>", "()V"⟩
abbrev cX6_numberOf : ByteArray := prog_8_method_2_code
def yX6_numberOf : MethodName := ⟨RX6, "numberOf", "(I)I"⟩
def RX7 : String := "TurtleChalk$Run"
def TX7 : u_T := fun k => match k with
  | 0 => ("TurtleChalk$Run", "turtle", "LTurtleChalk$Turtle;", true)
  | 1 => ("TurtleChalk$Run", "names", "[I", true)
  | 2 => ("TurtleChalk$Run", "roundsLeft", "[I", true)
  | 3 => ("TurtleChalk$Run", "callers", "[I", true)
  | 4 => ("TurtleChalk$Run", "drawing", "LTurtleChalk$Drawing;", false)
  | 5 => ("TurtleChalk$Run", "depth", "I", false)
  | 6 => ("TurtleChalk$Run", "mostSteps", "I", false)
  | 7 => ("TurtleChalk$Run", "stepCount", "I", false)
  | _ => ("TurtleChalk$Run", "breaker", "I", false)
def tyX7 : Nat → FieldType := fun k => match k with
  | 0 => .object "TurtleChalk$Turtle"
  | 1 => .array .int
  | 2 => .array .int
  | 3 => .array .int
  | 4 => .object "TurtleChalk$Drawing"
  | 5 => .int
  | 6 => .int
  | 7 => .int
  | _ => .int
abbrev wsX70 : List Cond := u_ws RX7 TX7 9
theorem nmX7 : ∀ a, a < 9 → ∀ b, b < 9 → a ≠ b → (TX7 a).2.1 ≠ (TX7 b).2.1 := by decide +kernel
theorem tyX7_ok : ∀ k, k < 9 → parseFieldDescriptor (TX7 k).2.2.1 = some (tyX7 k) := by decide +kernel
abbrev cX7_init : ByteArray := prog_9_method_1_code
def yX7_init : MethodName := ⟨RX7, "<init>", "()V"⟩
abbrev cX7_brokenBy : ByteArray := prog_9_method_2_code
def yX7_brokenBy : MethodName := ⟨RX7, "brokenBy", "()I"⟩
abbrev cX7_counted : ByteArray := prog_9_method_3_code
def yX7_counted : MethodName := ⟨RX7, "counted", "()I"⟩
abbrev cX7_perform : ByteArray := prog_9_method_4_code
def yX7_perform : MethodName := ⟨RX7, "perform", "(LTurtleChalk$Program;LTurtleChalk$Drawing;I)V"⟩
abbrev cX7_follow : ByteArray := prog_9_method_5_code
def yX7_follow : MethodName := ⟨RX7, "follow", "(LTurtleChalk$Program;I)I"⟩
abbrev cX7_canCount : ByteArray := prog_9_method_6_code
def yX7_canCount : MethodName := ⟨RX7, "canCount", "()Z"⟩
abbrev cX7_valueOf : ByteArray := prog_9_method_7_code
def yX7_valueOf : MethodName := ⟨RX7, "valueOf", "(LTurtleChalk$Order;)I"⟩
abbrev cX7_nameAt : ByteArray := prog_9_method_8_code
def yX7_nameAt : MethodName := ⟨RX7, "nameAt", "(I)I"⟩
abbrev cX7_putName : ByteArray := prog_9_method_9_code
def yX7_putName : MethodName := ⟨RX7, "putName", "(II)Z"⟩
abbrev cX7_goForward : ByteArray := prog_9_method_10_code
def yX7_goForward : MethodName := ⟨RX7, "goForward", "(I)Z"⟩
abbrev cX7_beginRepeat : ByteArray := prog_9_method_11_code
def yX7_beginRepeat : MethodName := ⟨RX7, "beginRepeat", "(LTurtleChalk$Program;II)I"⟩
abbrev cX7_enterWord : ByteArray := prog_9_method_12_code
def yX7_enterWord : MethodName := ⟨RX7, "enterWord", "(LTurtleChalk$Program;II)I"⟩
abbrev cX7_closeBlock : ByteArray := prog_9_method_13_code
def yX7_closeBlock : MethodName := ⟨RX7, "closeBlock", "(LTurtleChalk$Program;I)I"⟩
abbrev cX7_leaveWord : ByteArray := prog_9_method_14_code
def yX7_leaveWord : MethodName := ⟨RX7, "leaveWord", "()I"⟩
def RX8 : String := "TurtleChalk$Turtle"
def TX8 : u_T := fun k => match k with
  | 0 => ("TurtleChalk$Turtle", "x", "I", false)
  | 1 => ("TurtleChalk$Turtle", "y", "I", false)
  | 2 => ("TurtleChalk$Turtle", "heading", "I", false)
  | _ => ("TurtleChalk$Turtle", "isDown", "Z", false)
def tyX8 : Nat → FieldType := fun k => match k with
  | 0 => .int
  | 1 => .int
  | 2 => .int
  | _ => .boolean
abbrev wsX80 : List Cond := u_ws RX8 TX8 4
theorem nmX8 : ∀ a, a < 4 → ∀ b, b < 4 → a ≠ b → (TX8 a).2.1 ≠ (TX8 b).2.1 := by decide +kernel
theorem tyX8_ok : ∀ k, k < 4 → parseFieldDescriptor (TX8 k).2.2.1 = some (tyX8 k) := by decide +kernel
abbrev cX8_init : ByteArray := prog_10_method_1_code
def yX8_init : MethodName := ⟨RX8, "<init>", "()V"⟩
abbrev cX8_begin : ByteArray := prog_10_method_2_code
def yX8_begin : MethodName := ⟨RX8, "begin", "()V"⟩
abbrev cX8_turnBy : ByteArray := prog_10_method_3_code
def yX8_turnBy : MethodName := ⟨RX8, "turnBy", "(I)V"⟩
abbrev cX8_putPen : ByteArray := prog_10_method_4_code
def yX8_putPen : MethodName := ⟨RX8, "putPen", "(Z)V"⟩
abbrev cX8_canGo : ByteArray := prog_10_method_5_code
def yX8_canGo : MethodName := ⟨RX8, "canGo", "()Z"⟩
abbrev cX8_go : ByteArray := prog_10_method_6_code
def yX8_go : MethodName := ⟨RX8, "go", "(LTurtleChalk$Drawing;)V"⟩
abbrev cX8_aheadX : ByteArray := prog_10_method_7_code
def yX8_aheadX : MethodName := ⟨RX8, "aheadX", "()I"⟩
abbrev cX8_aheadY : ByteArray := prog_10_method_8_code
def yX8_aheadY : MethodName := ⟨RX8, "aheadY", "()I"⟩
def RX9 : String := "TurtleChalk$Wall"
def TX9 : u_T := fun k => match k with
  | 0 => ("TurtleChalk$Wall", "taken", "[J", true)
  | 1 => ("TurtleChalk$Wall", "width", "I", false)
  | _ => ("TurtleChalk$Wall", "height", "I", false)
def tyX9 : Nat → FieldType := fun k => match k with
  | 0 => .array .long
  | 1 => .int
  | _ => .int
abbrev wsX90 : List Cond := u_ws RX9 TX9 3
theorem nmX9 : ∀ a, a < 3 → ∀ b, b < 3 → a ≠ b → (TX9 a).2.1 ≠ (TX9 b).2.1 := by decide +kernel
theorem tyX9_ok : ∀ k, k < 3 → parseFieldDescriptor (TX9 k).2.2.1 = some (tyX9 k) := by decide +kernel
abbrev cX9_init : ByteArray := prog_11_method_1_code
def yX9_init : MethodName := ⟨RX9, "<init>", "()V"⟩
abbrev cX9_measure : ByteArray := prog_11_method_2_code
def yX9_measure : MethodName := ⟨RX9, "measure", "(II)V"⟩
abbrev cX9_makeEmpty : ByteArray := prog_11_method_3_code
def yX9_makeEmpty : MethodName := ⟨RX9, "makeEmpty", "()V"⟩
abbrev cX9_hasCell : ByteArray := prog_11_method_4_code
def yX9_hasCell : MethodName := ⟨RX9, "hasCell", "(II)Z"⟩
abbrev cX9_place : ByteArray := prog_11_method_5_code
def yX9_place : MethodName := ⟨RX9, "place", "(LTurtleChalk$Work;)V"⟩
abbrev cX9_firstFree : ByteArray := prog_11_method_6_code
def yX9_firstFree : MethodName := ⟨RX9, "firstFree", "(JJI)I"⟩
abbrev cX9_takenFrom : ByteArray := prog_11_method_7_code
def yX9_takenFrom : MethodName := ⟨RX9, "takenFrom", "(II)J"⟩
abbrev cX9_take : ByteArray := prog_11_method_8_code
def yX9_take : MethodName := ⟨RX9, "take", "(IIJ)V"⟩
def RX10 : String := "TurtleChalk$Work"
def TX10 : u_T := fun k => match k with
  | 0 => ("TurtleChalk$Work", "program", "LTurtleChalk$Program;", true)
  | 1 => ("TurtleChalk$Work", "exercise", "LTurtleChalk$Exercise;", true)
  | 2 => ("TurtleChalk$Work", "original", "I", true)
  | 3 => ("TurtleChalk$Work", "isCleared", "Z", false)
  | 4 => ("TurtleChalk$Work", "isHanging", "Z", false)
  | 5 => ("TurtleChalk$Work", "left", "I", false)
  | _ => ("TurtleChalk$Work", "low", "I", false)
def tyX10 : Nat → FieldType := fun k => match k with
  | 0 => .object "TurtleChalk$Program"
  | 1 => .object "TurtleChalk$Exercise"
  | 2 => .int
  | 3 => .boolean
  | 4 => .boolean
  | 5 => .int
  | _ => .int
abbrev wsX100 : List Cond := u_ws RX10 TX10 7
theorem nmX10 : ∀ a, a < 7 → ∀ b, b < 7 → a ≠ b → (TX10 a).2.1 ≠ (TX10 b).2.1 := by decide +kernel
theorem tyX10_ok : ∀ k, k < 7 → parseFieldDescriptor (TX10 k).2.2.1 = some (tyX10 k) := by decide +kernel
abbrev cX10_init : ByteArray := prog_12_method_1_code
def yX10_init : MethodName := ⟨RX10, "<init>", "(LTurtleChalk$Program;LTurtleChalk$Exercise;I)V"⟩
abbrev cX10_meetsExercise : ByteArray := prog_12_method_2_code
def yX10_meetsExercise : MethodName := ⟨RX10, "meetsExercise", "()Z"⟩
abbrev cX10_isInDoubt : ByteArray := prog_12_method_3_code
def yX10_isInDoubt : MethodName := ⟨RX10, "isInDoubt", "()Z"⟩
abbrev cX10_covers : ByteArray := prog_12_method_4_code
def yX10_covers : MethodName := ⟨RX10, "covers", "(II)Z"⟩
abbrev cX10_hangAt : ByteArray := prog_12_method_5_code
def yX10_hangAt : MethodName := ⟨RX10, "hangAt", "(II)V"⟩
def RX11 : String := "TurtleChalk"
def TX11 : u_T := fun k => match k with
  | 0 => ("TurtleChalk", "draft", "LTurtleChalk$Draft;", true)
  | 1 => ("TurtleChalk", "run", "LTurtleChalk$Run;", true)
  | 2 => ("TurtleChalk", "sketch", "LTurtleChalk$Drawing;", true)
  | 3 => ("TurtleChalk", "desk", "LTurtleChalk$Desk;", true)
  | 4 => ("TurtleChalk", "wall", "LTurtleChalk$Wall;", true)
  | 5 => ("TurtleChalk", "programRow", "[LTurtleChalk$Program;", true)
  | 6 => ("TurtleChalk", "exerciseRow", "[LTurtleChalk$Exercise;", true)
  | 7 => ("TurtleChalk", "workRow", "[LTurtleChalk$Work;", true)
  | 8 => ("TurtleChalk", "programCount", "I", false)
  | 9 => ("TurtleChalk", "exerciseCount", "I", false)
  | _ => ("TurtleChalk", "workCount", "I", false)
def tyX11 : Nat → FieldType := fun k => match k with
  | 0 => .object "TurtleChalk$Draft"
  | 1 => .object "TurtleChalk$Run"
  | 2 => .object "TurtleChalk$Drawing"
  | 3 => .object "TurtleChalk$Desk"
  | 4 => .object "TurtleChalk$Wall"
  | 5 => .array (.object "TurtleChalk$Program")
  | 6 => .array (.object "TurtleChalk$Exercise")
  | 7 => .array (.object "TurtleChalk$Work")
  | 8 => .int
  | 9 => .int
  | _ => .int
abbrev wsX110 : List Cond := u_ws RX11 TX11 11
theorem nmX11 : ∀ a, a < 11 → ∀ b, b < 11 → a ≠ b → (TX11 a).2.1 ≠ (TX11 b).2.1 := by decide +kernel
theorem tyX11_ok : ∀ k, k < 11 → parseFieldDescriptor (TX11 k).2.2.1 = some (tyX11 k) := by decide +kernel
abbrev cX11_init : ByteArray := prog_1_method_1_code
def yX11_init : MethodName := ⟨RX11, "<init>", "()V"⟩
abbrev cX11_forward : ByteArray := prog_1_method_2_code
def yX11_forward : MethodName := ⟨RX11, "forward", "(IZ)I"⟩
abbrev cX11_turn : ByteArray := prog_1_method_3_code
def yX11_turn : MethodName := ⟨RX11, "turn", "(IZ)I"⟩
abbrev cX11_pen : ByteArray := prog_1_method_4_code
def yX11_pen : MethodName := ⟨RX11, "pen", "(Z)I"⟩
abbrev cX11_set : ByteArray := prog_1_method_5_code
def yX11_set : MethodName := ⟨RX11, "set", "(IIZ)I"⟩
abbrev cX11_add : ByteArray := prog_1_method_6_code
def yX11_add : MethodName := ⟨RX11, "add", "(IIZ)I"⟩
abbrev cX11_repeat : ByteArray := prog_1_method_7_code
def yX11_repeat : MethodName := ⟨RX11, "repeat", "(IZ)I"⟩
abbrev cX11_word : ByteArray := prog_1_method_8_code
def yX11_word : MethodName := ⟨RX11, "word", "(I)I"⟩
abbrev cX11_call : ByteArray := prog_1_method_9_code
def yX11_call : MethodName := ⟨RX11, "call", "(I)I"⟩
abbrev cX11_end : ByteArray := prog_1_method_10_code
def yX11_end : MethodName := ⟨RX11, "end", "()I"⟩
abbrev cX11_wipe : ByteArray := prog_1_method_11_code
def yX11_wipe : MethodName := ⟨RX11, "wipe", "()I"⟩
abbrev cX11_write : ByteArray := prog_1_method_12_code
def yX11_write : MethodName := ⟨RX11, "write", "(I)I"⟩
abbrev cX11_exercise : ByteArray := prog_1_method_13_code
def yX11_exercise : MethodName := ⟨RX11, "exercise", "(III)I"⟩
abbrev cX11_allow : ByteArray := prog_1_method_14_code
def yX11_allow : MethodName := ⟨RX11, "allow", "(III)I"⟩
abbrev cX11_handIn : ByteArray := prog_1_method_15_code
def yX11_handIn : MethodName := ⟨RX11, "handIn", "(II)I"⟩
abbrev cX11_clear : ByteArray := prog_1_method_16_code
def yX11_clear : MethodName := ⟨RX11, "clear", "(IZ)Z"⟩
abbrev cX11_setWall : ByteArray := prog_1_method_17_code
def yX11_setWall : MethodName := ⟨RX11, "setWall", "(II)I"⟩
abbrev cX11_drafted : ByteArray := prog_1_method_18_code
def yX11_drafted : MethodName := ⟨RX11, "drafted", "()I"⟩
abbrev cX11_programs : ByteArray := prog_1_method_19_code
def yX11_programs : MethodName := ⟨RX11, "programs", "()I"⟩
abbrev cX11_fault : ByteArray := prog_1_method_20_code
def yX11_fault : MethodName := ⟨RX11, "fault", "(I)I"⟩
abbrev cX11_steps : ByteArray := prog_1_method_21_code
def yX11_steps : MethodName := ⟨RX11, "steps", "(I)I"⟩
abbrev cX11_strokes : ByteArray := prog_1_method_22_code
def yX11_strokes : MethodName := ⟨RX11, "strokes", "(I)I"⟩
abbrev cX11_strokesBySteps : ByteArray := prog_1_method_23_code
def yX11_strokesBySteps : MethodName := ⟨RX11, "strokesBySteps", "(II)I"⟩
abbrev cX11_isDrawn : ByteArray := prog_1_method_24_code
def yX11_isDrawn : MethodName := ⟨RX11, "isDrawn", "(IIIZ)Z"⟩
abbrev cX11_areAlike : ByteArray := prog_1_method_25_code
def yX11_areAlike : MethodName := ⟨RX11, "areAlike", "(II)Z"⟩
abbrev cX11_haveOneForm : ByteArray := prog_1_method_26_code
def yX11_haveOneForm : MethodName := ⟨RX11, "haveOneForm", "(II)Z"⟩
abbrev cX11_likeness : ByteArray := prog_1_method_27_code
def yX11_likeness : MethodName := ⟨RX11, "likeness", "(II)I"⟩
abbrev cX11_works : ByteArray := prog_1_method_28_code
def yX11_works : MethodName := ⟨RX11, "works", "()I"⟩
abbrev cX11_meets : ByteArray := prog_1_method_29_code
def yX11_meets : MethodName := ⟨RX11, "meets", "(I)Z"⟩
abbrev cX11_copyOf : ByteArray := prog_1_method_30_code
def yX11_copyOf : MethodName := ⟨RX11, "copyOf", "(I)I"⟩
abbrev cX11_hangs : ByteArray := prog_1_method_31_code
def yX11_hangs : MethodName := ⟨RX11, "hangs", "(I)I"⟩
abbrev cX11_onWall : ByteArray := prog_1_method_32_code
def yX11_onWall : MethodName := ⟨RX11, "onWall", "(II)I"⟩
abbrev cX11_hung : ByteArray := prog_1_method_33_code
def yX11_hung : MethodName := ⟨RX11, "hung", "(I)I"⟩
abbrev cX11_checkName : ByteArray := prog_1_method_34_code
def yX11_checkName : MethodName := ⟨RX11, "checkName", "(I)V"⟩
abbrev cX11_checkWord : ByteArray := prog_1_method_35_code
def yX11_checkWord : MethodName := ⟨RX11, "checkWord", "(I)V"⟩
abbrev cX11_checkPupil : ByteArray := prog_1_method_36_code
def yX11_checkPupil : MethodName := ⟨RX11, "checkPupil", "(I)V"⟩
abbrev cX11_checkValue : ByteArray := prog_1_method_37_code
def yX11_checkValue : MethodName := ⟨RX11, "checkValue", "(IZI)V"⟩
abbrev cX11_checkAllowance : ByteArray := prog_1_method_38_code
def yX11_checkAllowance : MethodName := ⟨RX11, "checkAllowance", "(II)V"⟩
abbrev cX11_isOnGround : ByteArray := prog_1_method_39_code
def yX11_isOnGround : MethodName := ⟨RX11, "isOnGround", "(I)Z"⟩
abbrev cX11_addOrder : ByteArray := prog_1_method_40_code
def yX11_addOrder : MethodName := ⟨RX11, "addOrder", "(IIIZ)I"⟩
abbrev cX11_programAt : ByteArray := prog_1_method_41_code
def yX11_programAt : MethodName := ⟨RX11, "programAt", "(I)LTurtleChalk$Program;"⟩
abbrev cX11_exerciseAt : ByteArray := prog_1_method_42_code
def yX11_exerciseAt : MethodName := ⟨RX11, "exerciseAt", "(I)LTurtleChalk$Exercise;"⟩
abbrev cX11_workAt : ByteArray := prog_1_method_43_code
def yX11_workAt : MethodName := ⟨RX11, "workAt", "(I)LTurtleChalk$Work;"⟩
abbrev cX11_findOriginal : ByteArray := prog_1_method_44_code
def yX11_findOriginal : MethodName := ⟨RX11, "findOriginal", "(LTurtleChalk$Program;LTurtleChalk$Exercise;)I"⟩
abbrev cX11_countMeeting : ByteArray := prog_1_method_45_code
def yX11_countMeeting : MethodName := ⟨RX11, "countMeeting", "(LTurtleChalk$Exercise;)I"⟩
abbrev cX11_countHanging : ByteArray := prog_1_method_46_code
def yX11_countHanging : MethodName := ⟨RX11, "countHanging", "()I"⟩
abbrev cX11_layWall : ByteArray := prog_1_method_47_code
def yX11_layWall : MethodName := ⟨RX11, "layWall", "()V"⟩
def RX12 : String := "TurtleChalkModel"
def TX12 : u_T := fun k => match k with
  | 0 => ("TurtleChalkModel", "thrown", "I", false)
  | 1 => ("TurtleChalkModel", "drafted", "I", false)
  | 2 => ("TurtleChalkModel", "open", "I", false)
  | 3 => ("TurtleChalkModel", "blocks", "I", false)
  | 4 => ("TurtleChalkModel", "draftKinds", "[I", true)
  | 5 => ("TurtleChalkModel", "draftTargets", "[I", true)
  | 6 => ("TurtleChalkModel", "draftValues", "[I", true)
  | 7 => ("TurtleChalkModel", "draftNames", "[Z", true)
  | 8 => ("TurtleChalkModel", "programs", "I", false)
  | 9 => ("TurtleChalkModel", "pupils", "[I", true)
  | 10 => ("TurtleChalkModel", "many", "[I", true)
  | 11 => ("TurtleChalkModel", "kinds", "[I", true)
  | 12 => ("TurtleChalkModel", "targets", "[I", true)
  | 13 => ("TurtleChalkModel", "values", "[I", true)
  | 14 => ("TurtleChalkModel", "areNames", "[Z", true)
  | 15 => ("TurtleChalkModel", "faults", "[I", true)
  | 16 => ("TurtleChalkModel", "steps", "[I", true)
  | 17 => ("TurtleChalkModel", "strokes", "[I", true)
  | 18 => ("TurtleChalkModel", "rights", "[I", true)
  | 19 => ("TurtleChalkModel", "ups", "[I", true)
  | 20 => ("TurtleChalkModel", "names", "[I", true)
  | 21 => ("TurtleChalkModel", "x", "I", false)
  | 22 => ("TurtleChalkModel", "y", "I", false)
  | 23 => ("TurtleChalkModel", "heading", "I", false)
  | 24 => ("TurtleChalkModel", "isDown", "Z", false)
  | 25 => ("TurtleChalkModel", "counted", "I", false)
  | 26 => ("TurtleChalkModel", "fault", "I", false)
  | 27 => ("TurtleChalkModel", "at", "I", false)
  | 28 => ("TurtleChalkModel", "depth", "I", false)
  | 29 => ("TurtleChalkModel", "calls", "I", false)
  | 30 => ("TurtleChalkModel", "backs", "[I", true)
  | 31 => ("TurtleChalkModel", "lefts", "[I", true)
  | 32 => ("TurtleChalkModel", "strokesAt", "[I", true)
  | 33 => ("TurtleChalkModel", "forms", "[I", true)
  | 34 => ("TurtleChalkModel", "newNames", "[I", true)
  | 35 => ("TurtleChalkModel", "newWords", "[I", true)
  | 36 => ("TurtleChalkModel", "longest", "[I", true)
  | 37 => ("TurtleChalkModel", "exercises", "I", false)
  | 38 => ("TurtleChalkModel", "wanted", "[I", true)
  | 39 => ("TurtleChalkModel", "mostOrders", "[I", true)
  | 40 => ("TurtleChalkModel", "mostSteps", "[I", true)
  | 41 => ("TurtleChalkModel", "works", "I", false)
  | 42 => ("TurtleChalkModel", "programOf", "[I", true)
  | 43 => ("TurtleChalkModel", "exerciseOf", "[I", true)
  | 44 => ("TurtleChalkModel", "isCleared", "[Z", true)
  | 45 => ("TurtleChalkModel", "width", "I", false)
  | 46 => ("TurtleChalkModel", "height", "I", false)
  | 47 => ("TurtleChalkModel", "wall", "[J", true)
  | _ => ("TurtleChalkModel", "places", "[I", true)
def tyX12 : Nat → FieldType := fun k => match k with
  | 0 => .int
  | 1 => .int
  | 2 => .int
  | 3 => .int
  | 4 => .array .int
  | 5 => .array .int
  | 6 => .array .int
  | 7 => .array .boolean
  | 8 => .int
  | 9 => .array .int
  | 10 => .array .int
  | 11 => .array .int
  | 12 => .array .int
  | 13 => .array .int
  | 14 => .array .boolean
  | 15 => .array .int
  | 16 => .array .int
  | 17 => .array .int
  | 18 => .array .int
  | 19 => .array .int
  | 20 => .array .int
  | 21 => .int
  | 22 => .int
  | 23 => .int
  | 24 => .boolean
  | 25 => .int
  | 26 => .int
  | 27 => .int
  | 28 => .int
  | 29 => .int
  | 30 => .array .int
  | 31 => .array .int
  | 32 => .array .int
  | 33 => .array .int
  | 34 => .array .int
  | 35 => .array .int
  | 36 => .array .int
  | 37 => .int
  | 38 => .array .int
  | 39 => .array .int
  | 40 => .array .int
  | 41 => .int
  | 42 => .array .int
  | 43 => .array .int
  | 44 => .array .boolean
  | 45 => .int
  | 46 => .int
  | 47 => .array .long
  | _ => .array .int
abbrev wsX120 : List Cond := u_ws RX12 TX12 49
theorem nmX12 : ∀ a, a < 49 → ∀ b, b < 49 → a ≠ b → (TX12 a).2.1 ≠ (TX12 b).2.1 := by decide +kernel
theorem tyX12_ok : ∀ k, k < 49 → parseFieldDescriptor (TX12 k).2.2.1 = some (tyX12 k) := by decide +kernel
abbrev cX12_init : ByteArray := prog_14_method_1_code
def yX12_init : MethodName := ⟨RX12, "<init>", "()V"⟩
abbrev cX12_thrown : ByteArray := prog_14_method_2_code
def yX12_thrown : MethodName := ⟨RX12, "thrown", "()I"⟩
abbrev cX12_holds : ByteArray := prog_14_method_3_code
def yX12_holds : MethodName := ⟨RX12, "holds", "(I)Z"⟩
abbrev cX12_isIn : ByteArray := prog_14_method_4_code
def yX12_isIn : MethodName := ⟨RX12, "isIn", "(III)Z"⟩
abbrev cX12_isName : ByteArray := prog_14_method_5_code
def yX12_isName : MethodName := ⟨RX12, "isName", "(I)Z"⟩
abbrev cX12_drafts : ByteArray := prog_14_method_6_code
def yX12_drafts : MethodName := ⟨RX12, "drafts", "(IIIZ)I"⟩
abbrev cX12_isValue : ByteArray := prog_14_method_7_code
def yX12_isValue : MethodName := ⟨RX12, "isValue", "(IIZI)Z"⟩
abbrev cX12_forward : ByteArray := prog_14_method_8_code
def yX12_forward : MethodName := ⟨RX12, "forward", "(IZ)I"⟩
abbrev cX12_turn : ByteArray := prog_14_method_9_code
def yX12_turn : MethodName := ⟨RX12, "turn", "(IZ)I"⟩
abbrev cX12_pen : ByteArray := prog_14_method_10_code
def yX12_pen : MethodName := ⟨RX12, "pen", "(Z)I"⟩
abbrev cX12_set : ByteArray := prog_14_method_11_code
def yX12_set : MethodName := ⟨RX12, "set", "(IIZ)I"⟩
abbrev cX12_add : ByteArray := prog_14_method_12_code
def yX12_add : MethodName := ⟨RX12, "add", "(IIZ)I"⟩
abbrev cX12_repeat : ByteArray := prog_14_method_13_code
def yX12_repeat : MethodName := ⟨RX12, "repeat", "(IZ)I"⟩
abbrev cX12_word : ByteArray := prog_14_method_14_code
def yX12_word : MethodName := ⟨RX12, "word", "(I)I"⟩
abbrev cX12_call : ByteArray := prog_14_method_15_code
def yX12_call : MethodName := ⟨RX12, "call", "(I)I"⟩
abbrev cX12_end : ByteArray := prog_14_method_16_code
def yX12_end : MethodName := ⟨RX12, "end", "()I"⟩
abbrev cX12_wipes : ByteArray := prog_14_method_17_code
def yX12_wipes : MethodName := ⟨RX12, "wipes", "()I"⟩
abbrev cX12_wipe : ByteArray := prog_14_method_18_code
def yX12_wipe : MethodName := ⟨RX12, "wipe", "()I"⟩
abbrev cX12_write : ByteArray := prog_14_method_19_code
def yX12_write : MethodName := ⟨RX12, "write", "(I)I"⟩
abbrev cX12_isProgram : ByteArray := prog_14_method_20_code
def yX12_isProgram : MethodName := ⟨RX12, "isProgram", "(I)Z"⟩
abbrev cX12_counts : ByteArray := prog_14_method_21_code
def yX12_counts : MethodName := ⟨RX12, "counts", "()Z"⟩
abbrev cX12_isOn : ByteArray := prog_14_method_22_code
def yX12_isOn : MethodName := ⟨RX12, "isOn", "(II)Z"⟩
abbrev cX12_draws : ByteArray := prog_14_method_23_code
def yX12_draws : MethodName := ⟨RX12, "draws", "(III)V"⟩
abbrev cX12_goes : ByteArray := prog_14_method_24_code
def yX12_goes : MethodName := ⟨RX12, "goes", "(I)V"⟩
abbrev cX12_endOf : ByteArray := prog_14_method_25_code
def yX12_endOf : MethodName := ⟨RX12, "endOf", "(II)I"⟩
abbrev cX12_blockOf : ByteArray := prog_14_method_26_code
def yX12_blockOf : MethodName := ⟨RX12, "blockOf", "(II)I"⟩
abbrev cX12_enters : ByteArray := prog_14_method_27_code
def yX12_enters : MethodName := ⟨RX12, "enters", "(II)V"⟩
abbrev cX12_callsWord : ByteArray := prog_14_method_28_code
def yX12_callsWord : MethodName := ⟨RX12, "callsWord", "(II)V"⟩
abbrev cX12_ends : ByteArray := prog_14_method_29_code
def yX12_ends : MethodName := ⟨RX12, "ends", "()V"⟩
abbrev cX12_does : ByteArray := prog_14_method_30_code
def yX12_does : MethodName := ⟨RX12, "does", "(II)V"⟩
abbrev cX12_begins : ByteArray := prog_14_method_31_code
def yX12_begins : MethodName := ⟨RX12, "begins", "(I)V"⟩
abbrev cX12_runs : ByteArray := prog_14_method_32_code
def yX12_runs : MethodName := ⟨RX12, "runs", "(I)V"⟩
abbrev cX12_areLimits : ByteArray := prog_14_method_33_code
def yX12_areLimits : MethodName := ⟨RX12, "areLimits", "(II)Z"⟩
abbrev cX12_exercise : ByteArray := prog_14_method_34_code
def yX12_exercise : MethodName := ⟨RX12, "exercise", "(III)I"⟩
abbrev cX12_isExercise : ByteArray := prog_14_method_35_code
def yX12_isExercise : MethodName := ⟨RX12, "isExercise", "(I)Z"⟩
abbrev cX12_allow : ByteArray := prog_14_method_36_code
def yX12_allow : MethodName := ⟨RX12, "allow", "(III)I"⟩
abbrev cX12_handIn : ByteArray := prog_14_method_37_code
def yX12_handIn : MethodName := ⟨RX12, "handIn", "(II)I"⟩
abbrev cX12_isWork : ByteArray := prog_14_method_38_code
def yX12_isWork : MethodName := ⟨RX12, "isWork", "(I)Z"⟩
abbrev cX12_clear : ByteArray := prog_14_method_39_code
def yX12_clear : MethodName := ⟨RX12, "clear", "(IZ)Z"⟩
abbrev cX12_setWall : ByteArray := prog_14_method_40_code
def yX12_setWall : MethodName := ⟨RX12, "setWall", "(II)I"⟩
abbrev cX12_leastOf : ByteArray := prog_14_method_41_code
def yX12_leastOf : MethodName := ⟨RX12, "leastOf", "(IZ)I"⟩
abbrev cX12_greatestOf : ByteArray := prog_14_method_42_code
def yX12_greatestOf : MethodName := ⟨RX12, "greatestOf", "(IZ)I"⟩
abbrev cX12_alike : ByteArray := prog_14_method_43_code
def yX12_alike : MethodName := ⟨RX12, "alike", "(II)Z"⟩
abbrev cX12_anew : ByteArray := prog_14_method_44_code
def yX12_anew : MethodName := ⟨RX12, "anew", "([II)I"⟩
abbrev cX12_lays : ByteArray := prog_14_method_45_code
def yX12_lays : MethodName := ⟨RX12, "lays", "(II)V"⟩
abbrev cX12_oneForm : ByteArray := prog_14_method_46_code
def yX12_oneForm : MethodName := ⟨RX12, "oneForm", "(II)Z"⟩
abbrev cX12_longestRow : ByteArray := prog_14_method_47_code
def yX12_longestRow : MethodName := ⟨RX12, "longestRow", "(II)I"⟩
abbrev cX12_doesMeet : ByteArray := prog_14_method_48_code
def yX12_doesMeet : MethodName := ⟨RX12, "doesMeet", "(I)Z"⟩
abbrev cX12_copied : ByteArray := prog_14_method_49_code
def yX12_copied : MethodName := ⟨RX12, "copied", "(I)I"⟩
abbrev cX12_isFree : ByteArray := prog_14_method_50_code
def yX12_isFree : MethodName := ⟨RX12, "isFree", "(IIII)Z"⟩
abbrev cX12_hangsOne : ByteArray := prog_14_method_51_code
def yX12_hangsOne : MethodName := ⟨RX12, "hangsOne", "(I)V"⟩
abbrev cX12_hangsAll : ByteArray := prog_14_method_52_code
def yX12_hangsAll : MethodName := ⟨RX12, "hangsAll", "()V"⟩
abbrev cX12_drafted : ByteArray := prog_14_method_53_code
def yX12_drafted : MethodName := ⟨RX12, "drafted", "()I"⟩
abbrev cX12_programs : ByteArray := prog_14_method_54_code
def yX12_programs : MethodName := ⟨RX12, "programs", "()I"⟩
abbrev cX12_fault : ByteArray := prog_14_method_55_code
def yX12_fault : MethodName := ⟨RX12, "fault", "(I)I"⟩
abbrev cX12_steps : ByteArray := prog_14_method_56_code
def yX12_steps : MethodName := ⟨RX12, "steps", "(I)I"⟩
abbrev cX12_strokes : ByteArray := prog_14_method_57_code
def yX12_strokes : MethodName := ⟨RX12, "strokes", "(I)I"⟩
abbrev cX12_strokesBySteps : ByteArray := prog_14_method_58_code
def yX12_strokesBySteps : MethodName := ⟨RX12, "strokesBySteps", "(II)I"⟩
abbrev cX12_isDrawn : ByteArray := prog_14_method_59_code
def yX12_isDrawn : MethodName := ⟨RX12, "isDrawn", "(IIIZ)Z"⟩
abbrev cX12_areTwo : ByteArray := prog_14_method_60_code
def yX12_areTwo : MethodName := ⟨RX12, "areTwo", "(II)Z"⟩
abbrev cX12_areAlike : ByteArray := prog_14_method_61_code
def yX12_areAlike : MethodName := ⟨RX12, "areAlike", "(II)Z"⟩
abbrev cX12_haveOneForm : ByteArray := prog_14_method_62_code
def yX12_haveOneForm : MethodName := ⟨RX12, "haveOneForm", "(II)Z"⟩
abbrev cX12_likeness : ByteArray := prog_14_method_63_code
def yX12_likeness : MethodName := ⟨RX12, "likeness", "(II)I"⟩
abbrev cX12_works : ByteArray := prog_14_method_64_code
def yX12_works : MethodName := ⟨RX12, "works", "()I"⟩
abbrev cX12_meets : ByteArray := prog_14_method_65_code
def yX12_meets : MethodName := ⟨RX12, "meets", "(I)Z"⟩
abbrev cX12_copyOf : ByteArray := prog_14_method_66_code
def yX12_copyOf : MethodName := ⟨RX12, "copyOf", "(I)I"⟩
abbrev cX12_hangs : ByteArray := prog_14_method_67_code
def yX12_hangs : MethodName := ⟨RX12, "hangs", "(I)I"⟩
abbrev cX12_covers : ByteArray := prog_14_method_68_code
def yX12_covers : MethodName := ⟨RX12, "covers", "(III)Z"⟩
abbrev cX12_onWall : ByteArray := prog_14_method_69_code
def yX12_onWall : MethodName := ⟨RX12, "onWall", "(II)I"⟩
abbrev cX12_hung : ByteArray := prog_14_method_70_code
def yX12_hung : MethodName := ⟨RX12, "hung", "(I)I"⟩
def RJ9 : String := "java/lang/Math"
abbrev cJ9_floorMod_7cf53 : ByteArray := prog_19_method_50_code
def yJ9_floorMod_7cf53 : MethodName := ⟨RJ9, "floorMod", "(II)I"⟩
abbrev cJ9_max_7cf53 : ByteArray := prog_19_method_65_code
def yJ9_max_7cf53 : MethodName := ⟨RJ9, "max", "(II)I"⟩
abbrev cJ9_min_7cf53 : ByteArray := prog_19_method_69_code
def yJ9_min_7cf53 : MethodName := ⟨RJ9, "min", "(II)I"⟩
def RJ0 : String := "java/lang/String"
def RL : String := "TurtleChalkLaw"
abbrev cL_forward : ByteArray := method_3_code
def yL_forward : MethodName := ⟨RL, "forward", "(LTurtleChalk;IZ[J)I"⟩
abbrev cL_turn : ByteArray := method_4_code
def yL_turn : MethodName := ⟨RL, "turn", "(LTurtleChalk;IZ[J)I"⟩
abbrev cL_pen : ByteArray := method_5_code
def yL_pen : MethodName := ⟨RL, "pen", "(LTurtleChalk;Z[J)I"⟩
abbrev cL_set : ByteArray := method_6_code
def yL_set : MethodName := ⟨RL, "set", "(LTurtleChalk;IIZ[J)I"⟩
abbrev cL_add : ByteArray := method_7_code
def yL_add : MethodName := ⟨RL, "add", "(LTurtleChalk;IIZ[J)I"⟩
abbrev cL_repeat : ByteArray := method_8_code
def yL_repeat : MethodName := ⟨RL, "repeat", "(LTurtleChalk;IZ[J)I"⟩
abbrev cL_word : ByteArray := method_9_code
def yL_word : MethodName := ⟨RL, "word", "(LTurtleChalk;I[J)I"⟩
abbrev cL_call : ByteArray := method_10_code
def yL_call : MethodName := ⟨RL, "call", "(LTurtleChalk;I[J)I"⟩
abbrev cL_end : ByteArray := method_11_code
def yL_end : MethodName := ⟨RL, "end", "(LTurtleChalk;[J)I"⟩
abbrev cL_write : ByteArray := method_12_code
def yL_write : MethodName := ⟨RL, "write", "(LTurtleChalk;I[J)I"⟩
abbrev cL_exercise : ByteArray := method_13_code
def yL_exercise : MethodName := ⟨RL, "exercise", "(LTurtleChalk;III[J)I"⟩
abbrev cL_allow : ByteArray := method_14_code
def yL_allow : MethodName := ⟨RL, "allow", "(LTurtleChalk;III[J)I"⟩
abbrev cL_handIn : ByteArray := method_15_code
def yL_handIn : MethodName := ⟨RL, "handIn", "(LTurtleChalk;II[J)I"⟩
abbrev cL_clear : ByteArray := method_16_code
def yL_clear : MethodName := ⟨RL, "clear", "(LTurtleChalk;IZ[J)I"⟩
abbrev cL_setWall : ByteArray := method_17_code
def yL_setWall : MethodName := ⟨RL, "setWall", "(LTurtleChalk;II[J)I"⟩
abbrev cL_fault : ByteArray := method_18_code
def yL_fault : MethodName := ⟨RL, "fault", "(LTurtleChalk;I[J)I"⟩
abbrev cL_steps : ByteArray := method_19_code
def yL_steps : MethodName := ⟨RL, "steps", "(LTurtleChalk;I[J)I"⟩
abbrev cL_strokes : ByteArray := method_20_code
def yL_strokes : MethodName := ⟨RL, "strokes", "(LTurtleChalk;I[J)I"⟩
abbrev cL_strokesBySteps : ByteArray := method_21_code
def yL_strokesBySteps : MethodName := ⟨RL, "strokesBySteps", "(LTurtleChalk;II[J)I"⟩
abbrev cL_isDrawn : ByteArray := method_22_code
def yL_isDrawn : MethodName := ⟨RL, "isDrawn", "(LTurtleChalk;IIIZ[J)I"⟩
abbrev cL_areAlike : ByteArray := method_23_code
def yL_areAlike : MethodName := ⟨RL, "areAlike", "(LTurtleChalk;II[J)I"⟩
abbrev cL_haveOneForm : ByteArray := method_24_code
def yL_haveOneForm : MethodName := ⟨RL, "haveOneForm", "(LTurtleChalk;II[J)I"⟩
abbrev cL_likeness : ByteArray := method_25_code
def yL_likeness : MethodName := ⟨RL, "likeness", "(LTurtleChalk;II[J)I"⟩
abbrev cL_meets : ByteArray := method_26_code
def yL_meets : MethodName := ⟨RL, "meets", "(LTurtleChalk;I[J)I"⟩
abbrev cL_copyOf : ByteArray := method_27_code
def yL_copyOf : MethodName := ⟨RL, "copyOf", "(LTurtleChalk;I[J)I"⟩
abbrev cL_hangs : ByteArray := method_28_code
def yL_hangs : MethodName := ⟨RL, "hangs", "(LTurtleChalk;I[J)I"⟩
abbrev cL_onWall : ByteArray := method_29_code
def yL_onWall : MethodName := ⟨RL, "onWall", "(LTurtleChalk;II[J)I"⟩
abbrev cL_hung : ByteArray := method_30_code
def yL_hung : MethodName := ⟨RL, "hung", "(LTurtleChalk;I[J)I"⟩
abbrev cL_law : ByteArray := code
def yL_law : MethodName := ⟨RL, "law", "([I)Z"⟩
abbrev vwCl : List vw_C := [(RX0, TX0, 2), (RX1, TX1, 4), (RX2, TX2, 7), (RX3, TX3, 3), (RX4, TX4, 4), (RX5, TX5, 8), (RX6, TX6, 2), (RX7, TX7, 9), (RX8, TX8, 4), (RX9, TX9, 3), (RX10, TX10, 7), (RX11, TX11, 11), (RX12, TX12, 49)]
end
section
theorem dX0_init_0 : decode cX0_init 0 = .ok (.aload_n 0, 1) := by decide +kernel
theorem dX0_init_1 : decode cX0_init 1 = .ok (.invokespecial 3, 3) := by decide +kernel
theorem dX0_init_4 : decode cX0_init 4 = .ok (.aload_n 0, 1) := by decide +kernel
theorem dX0_init_5 : decode cX0_init 5 = .ok (.bipush 31, 2) := by decide +kernel
theorem dX0_init_7 : decode cX0_init 7 = .ok (.newarray .int, 2) := by decide +kernel
theorem dX0_init_9 : decode cX0_init 9 = .ok (.putfield 9, 3) := by decide +kernel
theorem dX0_init_12 : decode cX0_init 12 = .ok (.aload_n 0, 1) := by decide +kernel
theorem dX0_init_13 : decode cX0_init 13 = .ok (.bipush 31, 2) := by decide +kernel
theorem dX0_init_15 : decode cX0_init 15 = .ok (.newarray .int, 2) := by decide +kernel
theorem dX0_init_17 : decode cX0_init 17 = .ok (.putfield 15, 3) := by decide +kernel
theorem dX0_init_20 : decode cX0_init 20 = .ok (.return_, 1) := by decide +kernel
theorem dX0_longestCommon_0 : decode cX0_longestCommon 0 = .ok (.aload_n 2, 1) := by decide +kernel
theorem dX0_longestCommon_1 : decode cX0_longestCommon 1 = .ok (.arraylength, 1) := by decide +kernel
theorem dX0_longestCommon_2 : decode cX0_longestCommon 2 = .ok (.aload_n 0, 1) := by decide +kernel
theorem dX0_longestCommon_3 : decode cX0_longestCommon 3 = .ok (.getfield 9, 3) := by decide +kernel
theorem dX0_longestCommon_6 : decode cX0_longestCommon 6 = .ok (.arraylength, 1) := by decide +kernel
theorem dX0_longestCommon_7 : decode cX0_longestCommon 7 = .ok (.aload_n 0, 1) := by decide +kernel
theorem dX0_longestCommon_8 : decode cX0_longestCommon 8 = .ok (.getfield 15, 3) := by decide +kernel
theorem dX0_longestCommon_11 : decode cX0_longestCommon 11 = .ok (.arraylength, 1) := by decide +kernel
theorem dX0_longestCommon_12 : decode cX0_longestCommon 12 = .ok (.invokestatic 18, 3) := by decide +kernel
theorem dX0_longestCommon_15 : decode cX0_longestCommon 15 = .ok (.iconst 1, 1) := by decide +kernel
theorem dX0_longestCommon_16 : decode cX0_longestCommon 16 = .ok (.isub, 1) := by decide +kernel
theorem dX0_longestCommon_17 : decode cX0_longestCommon 17 = .ok (.invokestatic 18, 3) := by decide +kernel
theorem dX0_longestCommon_20 : decode cX0_longestCommon 20 = .ok (.istore_n 3, 1) := by decide +kernel
theorem dX0_longestCommon_21 : decode cX0_longestCommon 21 = .ok (.iconst 0, 1) := by decide +kernel
theorem dX0_longestCommon_22 : decode cX0_longestCommon 22 = .ok (.istore 4, 2) := by decide +kernel
theorem dX0_longestCommon_24 : decode cX0_longestCommon 24 = .ok (.iload 4, 2) := by decide +kernel
theorem dX0_longestCommon_26 : decode cX0_longestCommon 26 = .ok (.aload_n 0, 1) := by decide +kernel
theorem dX0_longestCommon_27 : decode cX0_longestCommon 27 = .ok (.getfield 9, 3) := by decide +kernel
theorem dX0_longestCommon_30 : decode cX0_longestCommon 30 = .ok (.arraylength, 1) := by decide +kernel
theorem dX0_longestCommon_31 : decode cX0_longestCommon 31 = .ok (.if_icmp .ge 17, 3) := by decide +kernel
theorem dX0_longestCommon_34 : decode cX0_longestCommon 34 = .ok (.aload_n 0, 1) := by decide +kernel
theorem dX0_longestCommon_35 : decode cX0_longestCommon 35 = .ok (.getfield 9, 3) := by decide +kernel
theorem dX0_longestCommon_38 : decode cX0_longestCommon 38 = .ok (.iload 4, 2) := by decide +kernel
theorem dX0_longestCommon_40 : decode cX0_longestCommon 40 = .ok (.iconst 0, 1) := by decide +kernel
theorem dX0_longestCommon_41 : decode cX0_longestCommon 41 = .ok (.iastore, 1) := by decide +kernel
theorem dX0_longestCommon_42 : decode cX0_longestCommon 42 = .ok (.iinc 4 1, 3) := by decide +kernel
theorem dX0_longestCommon_45 : decode cX0_longestCommon 45 = .ok (.goto (-21), 3) := by decide +kernel
theorem dX0_longestCommon_48 : decode cX0_longestCommon 48 = .ok (.iconst 0, 1) := by decide +kernel
theorem dX0_longestCommon_49 : decode cX0_longestCommon 49 = .ok (.istore 4, 2) := by decide +kernel
theorem dX0_longestCommon_51 : decode cX0_longestCommon 51 = .ok (.iload 4, 2) := by decide +kernel
theorem dX0_longestCommon_53 : decode cX0_longestCommon 53 = .ok (.aload_n 1, 1) := by decide +kernel
theorem dX0_longestCommon_54 : decode cX0_longestCommon 54 = .ok (.arraylength, 1) := by decide +kernel
theorem dX0_longestCommon_55 : decode cX0_longestCommon 55 = .ok (.if_icmp .ge 39, 3) := by decide +kernel
theorem dX0_longestCommon_58 : decode cX0_longestCommon 58 = .ok (.aload_n 0, 1) := by decide +kernel
theorem dX0_longestCommon_59 : decode cX0_longestCommon 59 = .ok (.aload_n 1, 1) := by decide +kernel
theorem dX0_longestCommon_60 : decode cX0_longestCommon 60 = .ok (.iload 4, 2) := by decide +kernel
theorem dX0_longestCommon_62 : decode cX0_longestCommon 62 = .ok (.iaload, 1) := by decide +kernel
theorem dX0_longestCommon_63 : decode cX0_longestCommon 63 = .ok (.aload_n 2, 1) := by decide +kernel
theorem dX0_longestCommon_64 : decode cX0_longestCommon 64 = .ok (.iload_n 3, 1) := by decide +kernel
theorem dX0_longestCommon_65 : decode cX0_longestCommon 65 = .ok (.invokevirtual 24, 3) := by decide +kernel
theorem dX0_longestCommon_68 : decode cX0_longestCommon 68 = .ok (.aload_n 0, 1) := by decide +kernel
theorem dX0_longestCommon_69 : decode cX0_longestCommon 69 = .ok (.getfield 9, 3) := by decide +kernel
theorem dX0_longestCommon_72 : decode cX0_longestCommon 72 = .ok (.astore 5, 2) := by decide +kernel
theorem dX0_longestCommon_74 : decode cX0_longestCommon 74 = .ok (.aload_n 0, 1) := by decide +kernel
theorem dX0_longestCommon_75 : decode cX0_longestCommon 75 = .ok (.aload_n 0, 1) := by decide +kernel
theorem dX0_longestCommon_76 : decode cX0_longestCommon 76 = .ok (.getfield 15, 3) := by decide +kernel
theorem dX0_longestCommon_79 : decode cX0_longestCommon 79 = .ok (.putfield 9, 3) := by decide +kernel
theorem dX0_longestCommon_82 : decode cX0_longestCommon 82 = .ok (.aload_n 0, 1) := by decide +kernel
theorem dX0_longestCommon_83 : decode cX0_longestCommon 83 = .ok (.aload 5, 2) := by decide +kernel
theorem dX0_longestCommon_85 : decode cX0_longestCommon 85 = .ok (.putfield 15, 3) := by decide +kernel
theorem dX0_longestCommon_88 : decode cX0_longestCommon 88 = .ok (.iinc 4 1, 3) := by decide +kernel
theorem dX0_longestCommon_91 : decode cX0_longestCommon 91 = .ok (.goto (-40), 3) := by decide +kernel
theorem dX0_longestCommon_94 : decode cX0_longestCommon 94 = .ok (.iload_n 3, 1) := by decide +kernel
theorem dX0_longestCommon_95 : decode cX0_longestCommon 95 = .ok (.ifCond .lt 21, 3) := by decide +kernel
theorem dX0_longestCommon_98 : decode cX0_longestCommon 98 = .ok (.iload_n 3, 1) := by decide +kernel
theorem dX0_longestCommon_99 : decode cX0_longestCommon 99 = .ok (.aload_n 0, 1) := by decide +kernel
theorem dX0_longestCommon_100 : decode cX0_longestCommon 100 = .ok (.getfield 9, 3) := by decide +kernel
theorem dX0_longestCommon_103 : decode cX0_longestCommon 103 = .ok (.arraylength, 1) := by decide +kernel
theorem dX0_longestCommon_104 : decode cX0_longestCommon 104 = .ok (.if_icmp .ge 12, 3) := by decide +kernel
theorem dX0_longestCommon_107 : decode cX0_longestCommon 107 = .ok (.aload_n 0, 1) := by decide +kernel
theorem dX0_longestCommon_108 : decode cX0_longestCommon 108 = .ok (.getfield 9, 3) := by decide +kernel
theorem dX0_longestCommon_111 : decode cX0_longestCommon 111 = .ok (.iload_n 3, 1) := by decide +kernel
theorem dX0_longestCommon_112 : decode cX0_longestCommon 112 = .ok (.iaload, 1) := by decide +kernel
theorem dX0_longestCommon_113 : decode cX0_longestCommon 113 = .ok (.goto 4, 3) := by decide +kernel
theorem dX0_longestCommon_116 : decode cX0_longestCommon 116 = .ok (.iconst 0, 1) := by decide +kernel
theorem dX0_longestCommon_117 : decode cX0_longestCommon 117 = .ok (.ireturn, 1) := by decide +kernel
theorem dX0_fillBelow_0 : decode cX0_fillBelow 0 = .ok (.aload_n 0, 1) := by decide +kernel
theorem dX0_fillBelow_1 : decode cX0_fillBelow 1 = .ok (.getfield 15, 3) := by decide +kernel
theorem dX0_fillBelow_4 : decode cX0_fillBelow 4 = .ok (.arraylength, 1) := by decide +kernel
theorem dX0_fillBelow_5 : decode cX0_fillBelow 5 = .ok (.ifCond .le 10, 3) := by decide +kernel
theorem dX0_fillBelow_8 : decode cX0_fillBelow 8 = .ok (.aload_n 0, 1) := by decide +kernel
theorem dX0_fillBelow_9 : decode cX0_fillBelow 9 = .ok (.getfield 15, 3) := by decide +kernel
theorem dX0_fillBelow_12 : decode cX0_fillBelow 12 = .ok (.iconst 0, 1) := by decide +kernel
theorem dX0_fillBelow_13 : decode cX0_fillBelow 13 = .ok (.iconst 0, 1) := by decide +kernel
theorem dX0_fillBelow_14 : decode cX0_fillBelow 14 = .ok (.iastore, 1) := by decide +kernel
theorem dX0_fillBelow_15 : decode cX0_fillBelow 15 = .ok (.iconst 1, 1) := by decide +kernel
theorem dX0_fillBelow_16 : decode cX0_fillBelow 16 = .ok (.istore 4, 2) := by decide +kernel
theorem dX0_fillBelow_18 : decode cX0_fillBelow 18 = .ok (.iload 4, 2) := by decide +kernel
theorem dX0_fillBelow_20 : decode cX0_fillBelow 20 = .ok (.iload_n 3, 1) := by decide +kernel
theorem dX0_fillBelow_21 : decode cX0_fillBelow 21 = .ok (.if_icmp .gt 93, 3) := by decide +kernel
theorem dX0_fillBelow_24 : decode cX0_fillBelow 24 = .ok (.iload 4, 2) := by decide +kernel
theorem dX0_fillBelow_26 : decode cX0_fillBelow 26 = .ok (.aload_n 0, 1) := by decide +kernel
theorem dX0_fillBelow_27 : decode cX0_fillBelow 27 = .ok (.getfield 9, 3) := by decide +kernel
theorem dX0_fillBelow_30 : decode cX0_fillBelow 30 = .ok (.arraylength, 1) := by decide +kernel
theorem dX0_fillBelow_31 : decode cX0_fillBelow 31 = .ok (.if_icmp .ge 83, 3) := by decide +kernel
theorem dX0_fillBelow_34 : decode cX0_fillBelow 34 = .ok (.iload 4, 2) := by decide +kernel
theorem dX0_fillBelow_36 : decode cX0_fillBelow 36 = .ok (.aload_n 0, 1) := by decide +kernel
theorem dX0_fillBelow_37 : decode cX0_fillBelow 37 = .ok (.getfield 15, 3) := by decide +kernel
theorem dX0_fillBelow_40 : decode cX0_fillBelow 40 = .ok (.arraylength, 1) := by decide +kernel
theorem dX0_fillBelow_41 : decode cX0_fillBelow 41 = .ok (.if_icmp .ge 73, 3) := by decide +kernel
theorem dX0_fillBelow_44 : decode cX0_fillBelow 44 = .ok (.iload 4, 2) := by decide +kernel
theorem dX0_fillBelow_46 : decode cX0_fillBelow 46 = .ok (.aload_n 2, 1) := by decide +kernel
theorem dX0_fillBelow_47 : decode cX0_fillBelow 47 = .ok (.arraylength, 1) := by decide +kernel
theorem dX0_fillBelow_48 : decode cX0_fillBelow 48 = .ok (.if_icmp .gt 66, 3) := by decide +kernel
theorem dX0_fillBelow_51 : decode cX0_fillBelow 51 = .ok (.aload_n 2, 1) := by decide +kernel
theorem dX0_fillBelow_52 : decode cX0_fillBelow 52 = .ok (.iload 4, 2) := by decide +kernel
theorem dX0_fillBelow_54 : decode cX0_fillBelow 54 = .ok (.iconst 1, 1) := by decide +kernel
theorem dX0_fillBelow_55 : decode cX0_fillBelow 55 = .ok (.isub, 1) := by decide +kernel
theorem dX0_fillBelow_56 : decode cX0_fillBelow 56 = .ok (.iaload, 1) := by decide +kernel
theorem dX0_fillBelow_57 : decode cX0_fillBelow 57 = .ok (.iload_n 1, 1) := by decide +kernel
theorem dX0_fillBelow_58 : decode cX0_fillBelow 58 = .ok (.if_icmp .ne 24, 3) := by decide +kernel
theorem dX0_fillBelow_61 : decode cX0_fillBelow 61 = .ok (.aload_n 0, 1) := by decide +kernel
theorem dX0_fillBelow_62 : decode cX0_fillBelow 62 = .ok (.getfield 15, 3) := by decide +kernel
theorem dX0_fillBelow_65 : decode cX0_fillBelow 65 = .ok (.iload 4, 2) := by decide +kernel
theorem dX0_fillBelow_67 : decode cX0_fillBelow 67 = .ok (.aload_n 0, 1) := by decide +kernel
theorem dX0_fillBelow_68 : decode cX0_fillBelow 68 = .ok (.getfield 9, 3) := by decide +kernel
theorem dX0_fillBelow_71 : decode cX0_fillBelow 71 = .ok (.iload 4, 2) := by decide +kernel
theorem dX0_fillBelow_73 : decode cX0_fillBelow 73 = .ok (.iconst 1, 1) := by decide +kernel
theorem dX0_fillBelow_74 : decode cX0_fillBelow 74 = .ok (.isub, 1) := by decide +kernel
theorem dX0_fillBelow_75 : decode cX0_fillBelow 75 = .ok (.iaload, 1) := by decide +kernel
theorem dX0_fillBelow_76 : decode cX0_fillBelow 76 = .ok (.iconst 1, 1) := by decide +kernel
theorem dX0_fillBelow_77 : decode cX0_fillBelow 77 = .ok (.iadd, 1) := by decide +kernel
theorem dX0_fillBelow_78 : decode cX0_fillBelow 78 = .ok (.iastore, 1) := by decide +kernel
theorem dX0_fillBelow_79 : decode cX0_fillBelow 79 = .ok (.goto 29, 3) := by decide +kernel
theorem dX0_fillBelow_82 : decode cX0_fillBelow 82 = .ok (.aload_n 0, 1) := by decide +kernel
theorem dX0_fillBelow_83 : decode cX0_fillBelow 83 = .ok (.getfield 15, 3) := by decide +kernel
theorem dX0_fillBelow_86 : decode cX0_fillBelow 86 = .ok (.iload 4, 2) := by decide +kernel
theorem dX0_fillBelow_88 : decode cX0_fillBelow 88 = .ok (.aload_n 0, 1) := by decide +kernel
theorem dX0_fillBelow_89 : decode cX0_fillBelow 89 = .ok (.getfield 9, 3) := by decide +kernel
theorem dX0_fillBelow_92 : decode cX0_fillBelow 92 = .ok (.iload 4, 2) := by decide +kernel
theorem dX0_fillBelow_94 : decode cX0_fillBelow 94 = .ok (.iaload, 1) := by decide +kernel
theorem dX0_fillBelow_95 : decode cX0_fillBelow 95 = .ok (.aload_n 0, 1) := by decide +kernel
theorem dX0_fillBelow_96 : decode cX0_fillBelow 96 = .ok (.getfield 15, 3) := by decide +kernel
theorem dX0_fillBelow_99 : decode cX0_fillBelow 99 = .ok (.iload 4, 2) := by decide +kernel
theorem dX0_fillBelow_101 : decode cX0_fillBelow 101 = .ok (.iconst 1, 1) := by decide +kernel
theorem dX0_fillBelow_102 : decode cX0_fillBelow 102 = .ok (.isub, 1) := by decide +kernel
theorem dX0_fillBelow_103 : decode cX0_fillBelow 103 = .ok (.iaload, 1) := by decide +kernel
theorem dX0_fillBelow_104 : decode cX0_fillBelow 104 = .ok (.invokestatic 28, 3) := by decide +kernel
theorem dX0_fillBelow_107 : decode cX0_fillBelow 107 = .ok (.iastore, 1) := by decide +kernel
theorem dX0_fillBelow_108 : decode cX0_fillBelow 108 = .ok (.iinc 4 1, 3) := by decide +kernel
theorem dX0_fillBelow_111 : decode cX0_fillBelow 111 = .ok (.goto (-93), 3) := by decide +kernel
theorem dX0_fillBelow_114 : decode cX0_fillBelow 114 = .ok (.return_, 1) := by decide +kernel
theorem dX1_init_0 : decode cX1_init 0 = .ok (.aload_n 0, 1) := by decide +kernel
theorem dX1_init_1 : decode cX1_init 1 = .ok (.invokespecial 3, 3) := by decide +kernel
theorem dX1_init_4 : decode cX1_init 4 = .ok (.aload_n 0, 1) := by decide +kernel
theorem dX1_init_5 : decode cX1_init 5 = .ok (.bipush 30, 2) := by decide +kernel
theorem dX1_init_7 : decode cX1_init 7 = .ok (.anewarray 9, 3) := by decide +kernel
theorem dX1_init_10 : decode cX1_init 10 = .ok (.putfield 11, 3) := by decide +kernel
theorem dX1_init_13 : decode cX1_init 13 = .ok (.aload_n 0, 1) := by decide +kernel
theorem dX1_init_14 : decode cX1_init 14 = .ok (.iconst 4, 1) := by decide +kernel
theorem dX1_init_15 : decode cX1_init 15 = .ok (.newarray .boolean, 2) := by decide +kernel
theorem dX1_init_17 : decode cX1_init 17 = .ok (.putfield 17, 3) := by decide +kernel
theorem dX1_init_20 : decode cX1_init 20 = .ok (.return_, 1) := by decide +kernel
theorem dX1_length_0 : decode cX1_length 0 = .ok (.aload_n 0, 1) := by decide +kernel
theorem dX1_length_1 : decode cX1_length 1 = .ok (.getfield 21, 3) := by decide +kernel
theorem dX1_length_4 : decode cX1_length 4 = .ok (.ireturn, 1) := by decide +kernel
theorem dX1_openBlocks_0 : decode cX1_openBlocks 0 = .ok (.aload_n 0, 1) := by decide +kernel
theorem dX1_openBlocks_1 : decode cX1_openBlocks 1 = .ok (.getfield 25, 3) := by decide +kernel
theorem dX1_openBlocks_4 : decode cX1_openBlocks 4 = .ok (.ireturn, 1) := by decide +kernel
theorem dX1_tells_0 : decode cX1_tells 0 = .ok (.iload_n 1, 1) := by decide +kernel
theorem dX1_tells_1 : decode cX1_tells 1 = .ok (.ifCond .lt 25, 3) := by decide +kernel
theorem dX1_tells_4 : decode cX1_tells 4 = .ok (.iload_n 1, 1) := by decide +kernel
theorem dX1_tells_5 : decode cX1_tells 5 = .ok (.aload_n 0, 1) := by decide +kernel
theorem dX1_tells_6 : decode cX1_tells 6 = .ok (.getfield 17, 3) := by decide +kernel
theorem dX1_tells_9 : decode cX1_tells 9 = .ok (.arraylength, 1) := by decide +kernel
theorem dX1_tells_10 : decode cX1_tells 10 = .ok (.if_icmp .ge 16, 3) := by decide +kernel
theorem dX1_tells_13 : decode cX1_tells 13 = .ok (.aload_n 0, 1) := by decide +kernel
theorem dX1_tells_14 : decode cX1_tells 14 = .ok (.getfield 17, 3) := by decide +kernel
theorem dX1_tells_17 : decode cX1_tells 17 = .ok (.iload_n 1, 1) := by decide +kernel
theorem dX1_tells_18 : decode cX1_tells 18 = .ok (.baload, 1) := by decide +kernel
theorem dX1_tells_19 : decode cX1_tells 19 = .ok (.ifCond .eq 7, 3) := by decide +kernel
theorem dX1_tells_22 : decode cX1_tells 22 = .ok (.iconst 1, 1) := by decide +kernel
theorem dX1_tells_23 : decode cX1_tells 23 = .ok (.goto 4, 3) := by decide +kernel
theorem dX1_tells_26 : decode cX1_tells 26 = .ok (.iconst 0, 1) := by decide +kernel
theorem dX1_tells_27 : decode cX1_tells 27 = .ok (.ireturn, 1) := by decide +kernel
theorem dX1_orderAt_0 : decode cX1_orderAt 0 = .ok (.iload_n 1, 1) := by decide +kernel
theorem dX1_orderAt_1 : decode cX1_orderAt 1 = .ok (.ifCond .lt 29, 3) := by decide +kernel
theorem dX1_orderAt_4 : decode cX1_orderAt 4 = .ok (.iload_n 1, 1) := by decide +kernel
theorem dX1_orderAt_5 : decode cX1_orderAt 5 = .ok (.aload_n 0, 1) := by decide +kernel
theorem dX1_orderAt_6 : decode cX1_orderAt 6 = .ok (.getfield 21, 3) := by decide +kernel
theorem dX1_orderAt_9 : decode cX1_orderAt 9 = .ok (.if_icmp .ge 21, 3) := by decide +kernel
theorem dX1_orderAt_12 : decode cX1_orderAt 12 = .ok (.iload_n 1, 1) := by decide +kernel
theorem dX1_orderAt_13 : decode cX1_orderAt 13 = .ok (.aload_n 0, 1) := by decide +kernel
theorem dX1_orderAt_14 : decode cX1_orderAt 14 = .ok (.getfield 11, 3) := by decide +kernel
theorem dX1_orderAt_17 : decode cX1_orderAt 17 = .ok (.arraylength, 1) := by decide +kernel
theorem dX1_orderAt_18 : decode cX1_orderAt 18 = .ok (.if_icmp .ge 12, 3) := by decide +kernel
theorem dX1_orderAt_21 : decode cX1_orderAt 21 = .ok (.aload_n 0, 1) := by decide +kernel
theorem dX1_orderAt_22 : decode cX1_orderAt 22 = .ok (.getfield 11, 3) := by decide +kernel
theorem dX1_orderAt_25 : decode cX1_orderAt 25 = .ok (.iload_n 1, 1) := by decide +kernel
theorem dX1_orderAt_26 : decode cX1_orderAt 26 = .ok (.aaload, 1) := by decide +kernel
theorem dX1_orderAt_27 : decode cX1_orderAt 27 = .ok (.goto 4, 3) := by decide +kernel
theorem dX1_orderAt_30 : decode cX1_orderAt 30 = .ok (.aconst_null, 1) := by decide +kernel
theorem dX1_orderAt_31 : decode cX1_orderAt 31 = .ok (.areturn, 1) := by decide +kernel
theorem dX1_append_0 : decode cX1_append 0 = .ok (.aload_n 0, 1) := by decide +kernel
theorem dX1_append_1 : decode cX1_append 1 = .ok (.getfield 21, 3) := by decide +kernel
theorem dX1_append_4 : decode cX1_append 4 = .ok (.ifCond .lt 15, 3) := by decide +kernel
theorem dX1_append_7 : decode cX1_append 7 = .ok (.aload_n 0, 1) := by decide +kernel
theorem dX1_append_8 : decode cX1_append 8 = .ok (.getfield 21, 3) := by decide +kernel
theorem dX1_append_11 : decode cX1_append 11 = .ok (.aload_n 0, 1) := by decide +kernel
theorem dX1_append_12 : decode cX1_append 12 = .ok (.getfield 11, 3) := by decide +kernel
theorem dX1_append_15 : decode cX1_append 15 = .ok (.arraylength, 1) := by decide +kernel
theorem dX1_append_16 : decode cX1_append 16 = .ok (.if_icmp .lt 4, 3) := by decide +kernel
theorem dX1_append_19 : decode cX1_append 19 = .ok (.return_, 1) := by decide +kernel
theorem dX1_append_20 : decode cX1_append 20 = .ok (.aload_n 0, 1) := by decide +kernel
theorem dX1_append_21 : decode cX1_append 21 = .ok (.getfield 11, 3) := by decide +kernel
theorem dX1_append_24 : decode cX1_append 24 = .ok (.aload_n 0, 1) := by decide +kernel
theorem dX1_append_25 : decode cX1_append 25 = .ok (.getfield 21, 3) := by decide +kernel
theorem dX1_append_28 : decode cX1_append 28 = .ok (.aload_n 1, 1) := by decide +kernel
theorem dX1_append_29 : decode cX1_append 29 = .ok (.aastore, 1) := by decide +kernel
theorem dX1_append_30 : decode cX1_append 30 = .ok (.aload_n 0, 1) := by decide +kernel
theorem dX1_append_31 : decode cX1_append 31 = .ok (.dup, 1) := by decide +kernel
theorem dX1_append_32 : decode cX1_append 32 = .ok (.getfield 21, 3) := by decide +kernel
theorem dX1_append_35 : decode cX1_append 35 = .ok (.iconst 1, 1) := by decide +kernel
theorem dX1_append_36 : decode cX1_append 36 = .ok (.iadd, 1) := by decide +kernel
theorem dX1_append_37 : decode cX1_append 37 = .ok (.putfield 21, 3) := by decide +kernel
theorem dX1_append_40 : decode cX1_append 40 = .ok (.aload_n 1, 1) := by decide +kernel
theorem dX1_append_41 : decode cX1_append 41 = .ok (.invokevirtual 28, 3) := by decide +kernel
theorem dX1_append_44 : decode cX1_append 44 = .ok (.ifCond .eq 16, 3) := by decide +kernel
theorem dX1_append_47 : decode cX1_append 47 = .ok (.aload_n 0, 1) := by decide +kernel
theorem dX1_append_48 : decode cX1_append 48 = .ok (.dup, 1) := by decide +kernel
theorem dX1_append_49 : decode cX1_append 49 = .ok (.getfield 25, 3) := by decide +kernel
theorem dX1_append_52 : decode cX1_append 52 = .ok (.iconst 1, 1) := by decide +kernel
theorem dX1_append_53 : decode cX1_append 53 = .ok (.iadd, 1) := by decide +kernel
theorem dX1_append_54 : decode cX1_append 54 = .ok (.putfield 25, 3) := by decide +kernel
theorem dX1_append_57 : decode cX1_append 57 = .ok (.goto 22, 3) := by decide +kernel
theorem dX1_append_60 : decode cX1_append 60 = .ok (.aload_n 1, 1) := by decide +kernel
theorem dX1_append_61 : decode cX1_append 61 = .ok (.getfield 32, 3) := by decide +kernel
theorem dX1_append_64 : decode cX1_append 64 = .ok (.bipush 8, 2) := by decide +kernel
theorem dX1_append_66 : decode cX1_append 66 = .ok (.if_icmp .ne 13, 3) := by decide +kernel
theorem dX1_append_69 : decode cX1_append 69 = .ok (.aload_n 0, 1) := by decide +kernel
theorem dX1_append_70 : decode cX1_append 70 = .ok (.dup, 1) := by decide +kernel
theorem dX1_append_71 : decode cX1_append 71 = .ok (.getfield 25, 3) := by decide +kernel
theorem dX1_append_74 : decode cX1_append 74 = .ok (.iconst 1, 1) := by decide +kernel
theorem dX1_append_75 : decode cX1_append 75 = .ok (.isub, 1) := by decide +kernel
theorem dX1_append_76 : decode cX1_append 76 = .ok (.putfield 25, 3) := by decide +kernel
theorem dX1_append_79 : decode cX1_append 79 = .ok (.aload_n 1, 1) := by decide +kernel
theorem dX1_append_80 : decode cX1_append 80 = .ok (.getfield 32, 3) := by decide +kernel
theorem dX1_append_83 : decode cX1_append 83 = .ok (.bipush 6, 2) := by decide +kernel
theorem dX1_append_85 : decode cX1_append 85 = .ok (.if_icmp .ne 32, 3) := by decide +kernel
theorem dX1_append_88 : decode cX1_append 88 = .ok (.aload_n 1, 1) := by decide +kernel
theorem dX1_append_89 : decode cX1_append 89 = .ok (.getfield 35, 3) := by decide +kernel
theorem dX1_append_92 : decode cX1_append 92 = .ok (.ifCond .lt 25, 3) := by decide +kernel
theorem dX1_append_95 : decode cX1_append 95 = .ok (.aload_n 1, 1) := by decide +kernel
theorem dX1_append_96 : decode cX1_append 96 = .ok (.getfield 35, 3) := by decide +kernel
theorem dX1_append_99 : decode cX1_append 99 = .ok (.aload_n 0, 1) := by decide +kernel
theorem dX1_append_100 : decode cX1_append 100 = .ok (.getfield 17, 3) := by decide +kernel
theorem dX1_append_103 : decode cX1_append 103 = .ok (.arraylength, 1) := by decide +kernel
theorem dX1_append_104 : decode cX1_append 104 = .ok (.if_icmp .ge 13, 3) := by decide +kernel
theorem dX1_append_107 : decode cX1_append 107 = .ok (.aload_n 0, 1) := by decide +kernel
theorem dX1_append_108 : decode cX1_append 108 = .ok (.getfield 17, 3) := by decide +kernel
theorem dX1_append_111 : decode cX1_append 111 = .ok (.aload_n 1, 1) := by decide +kernel
theorem dX1_append_112 : decode cX1_append 112 = .ok (.getfield 35, 3) := by decide +kernel
theorem dX1_append_115 : decode cX1_append 115 = .ok (.iconst 1, 1) := by decide +kernel
theorem dX1_append_116 : decode cX1_append 116 = .ok (.bastore, 1) := by decide +kernel
theorem dX1_append_117 : decode cX1_append 117 = .ok (.return_, 1) := by decide +kernel
theorem dX1_makeEmpty_0 : decode cX1_makeEmpty 0 = .ok (.aload_n 0, 1) := by decide +kernel
theorem dX1_makeEmpty_1 : decode cX1_makeEmpty 1 = .ok (.iconst 0, 1) := by decide +kernel
theorem dX1_makeEmpty_2 : decode cX1_makeEmpty 2 = .ok (.putfield 21, 3) := by decide +kernel
theorem dX1_makeEmpty_5 : decode cX1_makeEmpty 5 = .ok (.aload_n 0, 1) := by decide +kernel
theorem dX1_makeEmpty_6 : decode cX1_makeEmpty 6 = .ok (.iconst 0, 1) := by decide +kernel
theorem dX1_makeEmpty_7 : decode cX1_makeEmpty 7 = .ok (.putfield 25, 3) := by decide +kernel
theorem dX1_makeEmpty_10 : decode cX1_makeEmpty 10 = .ok (.iconst 0, 1) := by decide +kernel
theorem dX1_makeEmpty_11 : decode cX1_makeEmpty 11 = .ok (.istore_n 1, 1) := by decide +kernel
theorem dX1_makeEmpty_12 : decode cX1_makeEmpty 12 = .ok (.iload_n 1, 1) := by decide +kernel
theorem dX1_makeEmpty_13 : decode cX1_makeEmpty 13 = .ok (.aload_n 0, 1) := by decide +kernel
theorem dX1_makeEmpty_14 : decode cX1_makeEmpty 14 = .ok (.getfield 17, 3) := by decide +kernel
theorem dX1_makeEmpty_17 : decode cX1_makeEmpty 17 = .ok (.arraylength, 1) := by decide +kernel
theorem dX1_makeEmpty_18 : decode cX1_makeEmpty 18 = .ok (.if_icmp .ge 16, 3) := by decide +kernel
theorem dX1_makeEmpty_21 : decode cX1_makeEmpty 21 = .ok (.aload_n 0, 1) := by decide +kernel
theorem dX1_makeEmpty_22 : decode cX1_makeEmpty 22 = .ok (.getfield 17, 3) := by decide +kernel
theorem dX1_makeEmpty_25 : decode cX1_makeEmpty 25 = .ok (.iload_n 1, 1) := by decide +kernel
theorem dX1_makeEmpty_26 : decode cX1_makeEmpty 26 = .ok (.iconst 0, 1) := by decide +kernel
theorem dX1_makeEmpty_27 : decode cX1_makeEmpty 27 = .ok (.bastore, 1) := by decide +kernel
theorem dX1_makeEmpty_28 : decode cX1_makeEmpty 28 = .ok (.iinc 1 1, 3) := by decide +kernel
theorem dX1_makeEmpty_31 : decode cX1_makeEmpty 31 = .ok (.goto (-19), 3) := by decide +kernel
theorem dX1_makeEmpty_34 : decode cX1_makeEmpty 34 = .ok (.return_, 1) := by decide +kernel
theorem dX2_init_0 : decode cX2_init 0 = .ok (.aload_n 0, 1) := by decide +kernel
theorem dX2_init_1 : decode cX2_init 1 = .ok (.invokespecial 3, 3) := by decide +kernel
theorem dX2_init_4 : decode cX2_init 4 = .ok (.aload_n 0, 1) := by decide +kernel
theorem dX2_init_5 : decode cX2_init 5 = .ok (.bipush 16, 2) := by decide +kernel
theorem dX2_init_7 : decode cX2_init 7 = .ok (.newarray .int, 2) := by decide +kernel
theorem dX2_init_9 : decode cX2_init 9 = .ok (.putfield 9, 3) := by decide +kernel
theorem dX2_init_12 : decode cX2_init 12 = .ok (.aload_n 0, 1) := by decide +kernel
theorem dX2_init_13 : decode cX2_init 13 = .ok (.bipush 16, 2) := by decide +kernel
theorem dX2_init_15 : decode cX2_init 15 = .ok (.newarray .int, 2) := by decide +kernel
theorem dX2_init_17 : decode cX2_init 17 = .ok (.putfield 15, 3) := by decide +kernel
theorem dX2_init_20 : decode cX2_init 20 = .ok (.return_, 1) := by decide +kernel
theorem dX2_makeEmpty_0 : decode cX2_makeEmpty 0 = .ok (.aload_n 0, 1) := by decide +kernel
theorem dX2_makeEmpty_1 : decode cX2_makeEmpty 1 = .ok (.iconst 0, 1) := by decide +kernel
theorem dX2_makeEmpty_2 : decode cX2_makeEmpty 2 = .ok (.putfield 18, 3) := by decide +kernel
theorem dX2_makeEmpty_5 : decode cX2_makeEmpty 5 = .ok (.iconst 0, 1) := by decide +kernel
theorem dX2_makeEmpty_6 : decode cX2_makeEmpty 6 = .ok (.istore_n 1, 1) := by decide +kernel
theorem dX2_makeEmpty_7 : decode cX2_makeEmpty 7 = .ok (.iload_n 1, 1) := by decide +kernel
theorem dX2_makeEmpty_8 : decode cX2_makeEmpty 8 = .ok (.bipush 16, 2) := by decide +kernel
theorem dX2_makeEmpty_10 : decode cX2_makeEmpty 10 = .ok (.if_icmp .ge 41, 3) := by decide +kernel
theorem dX2_makeEmpty_13 : decode cX2_makeEmpty 13 = .ok (.iload_n 1, 1) := by decide +kernel
theorem dX2_makeEmpty_14 : decode cX2_makeEmpty 14 = .ok (.aload_n 0, 1) := by decide +kernel
theorem dX2_makeEmpty_15 : decode cX2_makeEmpty 15 = .ok (.getfield 9, 3) := by decide +kernel
theorem dX2_makeEmpty_18 : decode cX2_makeEmpty 18 = .ok (.arraylength, 1) := by decide +kernel
theorem dX2_makeEmpty_19 : decode cX2_makeEmpty 19 = .ok (.if_icmp .ge 32, 3) := by decide +kernel
theorem dX2_makeEmpty_22 : decode cX2_makeEmpty 22 = .ok (.iload_n 1, 1) := by decide +kernel
theorem dX2_makeEmpty_23 : decode cX2_makeEmpty 23 = .ok (.aload_n 0, 1) := by decide +kernel
theorem dX2_makeEmpty_24 : decode cX2_makeEmpty 24 = .ok (.getfield 15, 3) := by decide +kernel
theorem dX2_makeEmpty_27 : decode cX2_makeEmpty 27 = .ok (.arraylength, 1) := by decide +kernel
theorem dX2_makeEmpty_28 : decode cX2_makeEmpty 28 = .ok (.if_icmp .ge 23, 3) := by decide +kernel
theorem dX2_makeEmpty_31 : decode cX2_makeEmpty 31 = .ok (.aload_n 0, 1) := by decide +kernel
theorem dX2_makeEmpty_32 : decode cX2_makeEmpty 32 = .ok (.getfield 9, 3) := by decide +kernel
theorem dX2_makeEmpty_35 : decode cX2_makeEmpty 35 = .ok (.iload_n 1, 1) := by decide +kernel
theorem dX2_makeEmpty_36 : decode cX2_makeEmpty 36 = .ok (.iconst 0, 1) := by decide +kernel
theorem dX2_makeEmpty_37 : decode cX2_makeEmpty 37 = .ok (.iastore, 1) := by decide +kernel
theorem dX2_makeEmpty_38 : decode cX2_makeEmpty 38 = .ok (.aload_n 0, 1) := by decide +kernel
theorem dX2_makeEmpty_39 : decode cX2_makeEmpty 39 = .ok (.getfield 15, 3) := by decide +kernel
theorem dX2_makeEmpty_42 : decode cX2_makeEmpty 42 = .ok (.iload_n 1, 1) := by decide +kernel
theorem dX2_makeEmpty_43 : decode cX2_makeEmpty 43 = .ok (.iconst 0, 1) := by decide +kernel
theorem dX2_makeEmpty_44 : decode cX2_makeEmpty 44 = .ok (.iastore, 1) := by decide +kernel
theorem dX2_makeEmpty_45 : decode cX2_makeEmpty 45 = .ok (.iinc 1 1, 3) := by decide +kernel
theorem dX2_makeEmpty_48 : decode cX2_makeEmpty 48 = .ok (.goto (-41), 3) := by decide +kernel
theorem dX2_makeEmpty_51 : decode cX2_makeEmpty 51 = .ok (.return_, 1) := by decide +kernel
theorem dX2_hasStroke_0 : decode cX2_hasStroke 0 = .ok (.iload_n 3, 1) := by decide +kernel
theorem dX2_hasStroke_1 : decode cX2_hasStroke 1 = .ok (.ifCond .eq 10, 3) := by decide +kernel
theorem dX2_hasStroke_4 : decode cX2_hasStroke 4 = .ok (.aload_n 0, 1) := by decide +kernel
theorem dX2_hasStroke_5 : decode cX2_hasStroke 5 = .ok (.getfield 15, 3) := by decide +kernel
theorem dX2_hasStroke_8 : decode cX2_hasStroke 8 = .ok (.goto 7, 3) := by decide +kernel
theorem dX2_hasStroke_11 : decode cX2_hasStroke 11 = .ok (.aload_n 0, 1) := by decide +kernel
theorem dX2_hasStroke_12 : decode cX2_hasStroke 12 = .ok (.getfield 9, 3) := by decide +kernel
theorem dX2_hasStroke_15 : decode cX2_hasStroke 15 = .ok (.astore 4, 2) := by decide +kernel
theorem dX2_hasStroke_17 : decode cX2_hasStroke 17 = .ok (.iload_n 1, 1) := by decide +kernel
theorem dX2_hasStroke_18 : decode cX2_hasStroke 18 = .ok (.invokestatic 22, 3) := by decide +kernel
theorem dX2_hasStroke_21 : decode cX2_hasStroke 21 = .ok (.ifCond .eq 30, 3) := by decide +kernel
theorem dX2_hasStroke_24 : decode cX2_hasStroke 24 = .ok (.iload_n 2, 1) := by decide +kernel
theorem dX2_hasStroke_25 : decode cX2_hasStroke 25 = .ok (.ifCond .lt 26, 3) := by decide +kernel
theorem dX2_hasStroke_28 : decode cX2_hasStroke 28 = .ok (.iload_n 2, 1) := by decide +kernel
theorem dX2_hasStroke_29 : decode cX2_hasStroke 29 = .ok (.aload 4, 2) := by decide +kernel
theorem dX2_hasStroke_31 : decode cX2_hasStroke 31 = .ok (.arraylength, 1) := by decide +kernel
theorem dX2_hasStroke_32 : decode cX2_hasStroke 32 = .ok (.if_icmp .ge 19, 3) := by decide +kernel
theorem dX2_hasStroke_35 : decode cX2_hasStroke 35 = .ok (.aload 4, 2) := by decide +kernel
theorem dX2_hasStroke_37 : decode cX2_hasStroke 37 = .ok (.iload_n 2, 1) := by decide +kernel
theorem dX2_hasStroke_38 : decode cX2_hasStroke 38 = .ok (.iaload, 1) := by decide +kernel
theorem dX2_hasStroke_39 : decode cX2_hasStroke 39 = .ok (.iload_n 1, 1) := by decide +kernel
theorem dX2_hasStroke_40 : decode cX2_hasStroke 40 = .ok (.ishr, 1) := by decide +kernel
theorem dX2_hasStroke_41 : decode cX2_hasStroke 41 = .ok (.iconst 1, 1) := by decide +kernel
theorem dX2_hasStroke_42 : decode cX2_hasStroke 42 = .ok (.iand, 1) := by decide +kernel
theorem dX2_hasStroke_43 : decode cX2_hasStroke 43 = .ok (.iconst 1, 1) := by decide +kernel
theorem dX2_hasStroke_44 : decode cX2_hasStroke 44 = .ok (.if_icmp .ne 7, 3) := by decide +kernel
theorem dX2_hasStroke_47 : decode cX2_hasStroke 47 = .ok (.iconst 1, 1) := by decide +kernel
theorem dX2_hasStroke_48 : decode cX2_hasStroke 48 = .ok (.goto 4, 3) := by decide +kernel
theorem dX2_hasStroke_51 : decode cX2_hasStroke 51 = .ok (.iconst 0, 1) := by decide +kernel
theorem dX2_hasStroke_52 : decode cX2_hasStroke 52 = .ok (.ireturn, 1) := by decide +kernel
theorem dX2_draw_0 : decode cX2_draw 0 = .ok (.iload_n 3, 1) := by decide +kernel
theorem dX2_draw_1 : decode cX2_draw 1 = .ok (.ifCond .eq 10, 3) := by decide +kernel
theorem dX2_draw_4 : decode cX2_draw 4 = .ok (.aload_n 0, 1) := by decide +kernel
theorem dX2_draw_5 : decode cX2_draw 5 = .ok (.getfield 15, 3) := by decide +kernel
theorem dX2_draw_8 : decode cX2_draw 8 = .ok (.goto 7, 3) := by decide +kernel
theorem dX2_draw_11 : decode cX2_draw 11 = .ok (.aload_n 0, 1) := by decide +kernel
theorem dX2_draw_12 : decode cX2_draw 12 = .ok (.getfield 9, 3) := by decide +kernel
theorem dX2_draw_15 : decode cX2_draw 15 = .ok (.astore 4, 2) := by decide +kernel
theorem dX2_draw_17 : decode cX2_draw 17 = .ok (.iload_n 1, 1) := by decide +kernel
theorem dX2_draw_18 : decode cX2_draw 18 = .ok (.invokestatic 22, 3) := by decide +kernel
theorem dX2_draw_21 : decode cX2_draw 21 = .ok (.ifCond .eq 26, 3) := by decide +kernel
theorem dX2_draw_24 : decode cX2_draw 24 = .ok (.iload_n 2, 1) := by decide +kernel
theorem dX2_draw_25 : decode cX2_draw 25 = .ok (.ifCond .lt 22, 3) := by decide +kernel
theorem dX2_draw_28 : decode cX2_draw 28 = .ok (.iload_n 2, 1) := by decide +kernel
theorem dX2_draw_29 : decode cX2_draw 29 = .ok (.aload 4, 2) := by decide +kernel
theorem dX2_draw_31 : decode cX2_draw 31 = .ok (.arraylength, 1) := by decide +kernel
theorem dX2_draw_32 : decode cX2_draw 32 = .ok (.if_icmp .ge 15, 3) := by decide +kernel
theorem dX2_draw_35 : decode cX2_draw 35 = .ok (.aload 4, 2) := by decide +kernel
theorem dX2_draw_37 : decode cX2_draw 37 = .ok (.iload_n 2, 1) := by decide +kernel
theorem dX2_draw_38 : decode cX2_draw 38 = .ok (.iaload, 1) := by decide +kernel
theorem dX2_draw_39 : decode cX2_draw 39 = .ok (.iload_n 1, 1) := by decide +kernel
theorem dX2_draw_40 : decode cX2_draw 40 = .ok (.ishr, 1) := by decide +kernel
theorem dX2_draw_41 : decode cX2_draw 41 = .ok (.iconst 1, 1) := by decide +kernel
theorem dX2_draw_42 : decode cX2_draw 42 = .ok (.iand, 1) := by decide +kernel
theorem dX2_draw_43 : decode cX2_draw 43 = .ok (.iconst 1, 1) := by decide +kernel
theorem dX2_draw_44 : decode cX2_draw 44 = .ok (.if_icmp .ne 4, 3) := by decide +kernel
theorem dX2_draw_47 : decode cX2_draw 47 = .ok (.return_, 1) := by decide +kernel
theorem dX2_draw_48 : decode cX2_draw 48 = .ok (.aload 4, 2) := by decide +kernel
theorem dX2_draw_50 : decode cX2_draw 50 = .ok (.iload_n 2, 1) := by decide +kernel
theorem dX2_draw_51 : decode cX2_draw 51 = .ok (.dup2, 1) := by decide +kernel
theorem dX2_draw_52 : decode cX2_draw 52 = .ok (.iaload, 1) := by decide +kernel
theorem dX2_draw_53 : decode cX2_draw 53 = .ok (.iconst 1, 1) := by decide +kernel
theorem dX2_draw_54 : decode cX2_draw 54 = .ok (.iload_n 1, 1) := by decide +kernel
theorem dX2_draw_55 : decode cX2_draw 55 = .ok (.ishl, 1) := by decide +kernel
theorem dX2_draw_56 : decode cX2_draw 56 = .ok (.ior, 1) := by decide +kernel
theorem dX2_draw_57 : decode cX2_draw 57 = .ok (.iastore, 1) := by decide +kernel
theorem dX2_draw_58 : decode cX2_draw 58 = .ok (.aload_n 0, 1) := by decide +kernel
theorem dX2_draw_59 : decode cX2_draw 59 = .ok (.iload_n 1, 1) := by decide +kernel
theorem dX2_draw_60 : decode cX2_draw 60 = .ok (.iload_n 2, 1) := by decide +kernel
theorem dX2_draw_61 : decode cX2_draw 61 = .ok (.iload_n 3, 1) := by decide +kernel
theorem dX2_draw_62 : decode cX2_draw 62 = .ok (.ifCond .eq 7, 3) := by decide +kernel
theorem dX2_draw_65 : decode cX2_draw 65 = .ok (.iload_n 1, 1) := by decide +kernel
theorem dX2_draw_66 : decode cX2_draw 66 = .ok (.goto 6, 3) := by decide +kernel
theorem dX2_draw_69 : decode cX2_draw 69 = .ok (.iload_n 1, 1) := by decide +kernel
theorem dX2_draw_70 : decode cX2_draw 70 = .ok (.iconst 1, 1) := by decide +kernel
theorem dX2_draw_71 : decode cX2_draw 71 = .ok (.iadd, 1) := by decide +kernel
theorem dX2_draw_72 : decode cX2_draw 72 = .ok (.iload_n 3, 1) := by decide +kernel
theorem dX2_draw_73 : decode cX2_draw 73 = .ok (.ifCond .eq 9, 3) := by decide +kernel
theorem dX2_draw_76 : decode cX2_draw 76 = .ok (.iload_n 2, 1) := by decide +kernel
theorem dX2_draw_77 : decode cX2_draw 77 = .ok (.iconst 1, 1) := by decide +kernel
theorem dX2_draw_78 : decode cX2_draw 78 = .ok (.iadd, 1) := by decide +kernel
theorem dX2_draw_79 : decode cX2_draw 79 = .ok (.goto 4, 3) := by decide +kernel
theorem dX2_draw_82 : decode cX2_draw 82 = .ok (.iload_n 2, 1) := by decide +kernel
theorem dX2_draw_83 : decode cX2_draw 83 = .ok (.invokevirtual 26, 3) := by decide +kernel
theorem dX2_draw_86 : decode cX2_draw 86 = .ok (.aload_n 0, 1) := by decide +kernel
theorem dX2_draw_87 : decode cX2_draw 87 = .ok (.dup, 1) := by decide +kernel
theorem dX2_draw_88 : decode cX2_draw 88 = .ok (.getfield 18, 3) := by decide +kernel
theorem dX2_draw_91 : decode cX2_draw 91 = .ok (.iconst 1, 1) := by decide +kernel
theorem dX2_draw_92 : decode cX2_draw 92 = .ok (.iadd, 1) := by decide +kernel
theorem dX2_draw_93 : decode cX2_draw 93 = .ok (.putfield 18, 3) := by decide +kernel
theorem dX2_draw_96 : decode cX2_draw 96 = .ok (.return_, 1) := by decide +kernel
theorem dX2_takeIn_0 : decode cX2_takeIn 0 = .ok (.aload_n 0, 1) := by decide +kernel
theorem dX2_takeIn_1 : decode cX2_takeIn 1 = .ok (.getfield 18, 3) := by decide +kernel
theorem dX2_takeIn_4 : decode cX2_takeIn 4 = .ok (.ifCond .ne 7, 3) := by decide +kernel
theorem dX2_takeIn_7 : decode cX2_takeIn 7 = .ok (.iconst 1, 1) := by decide +kernel
theorem dX2_takeIn_8 : decode cX2_takeIn 8 = .ok (.goto 4, 3) := by decide +kernel
theorem dX2_takeIn_11 : decode cX2_takeIn 11 = .ok (.iconst 0, 1) := by decide +kernel
theorem dX2_takeIn_12 : decode cX2_takeIn 12 = .ok (.istore 5, 2) := by decide +kernel
theorem dX2_takeIn_14 : decode cX2_takeIn 14 = .ok (.aload_n 0, 1) := by decide +kernel
theorem dX2_takeIn_15 : decode cX2_takeIn 15 = .ok (.iload 5, 2) := by decide +kernel
theorem dX2_takeIn_17 : decode cX2_takeIn 17 = .ok (.ifCond .ne 11, 3) := by decide +kernel
theorem dX2_takeIn_20 : decode cX2_takeIn 20 = .ok (.iload_n 1, 1) := by decide +kernel
theorem dX2_takeIn_21 : decode cX2_takeIn 21 = .ok (.aload_n 0, 1) := by decide +kernel
theorem dX2_takeIn_22 : decode cX2_takeIn 22 = .ok (.getfield 30, 3) := by decide +kernel
theorem dX2_takeIn_25 : decode cX2_takeIn 25 = .ok (.if_icmp .ge 7, 3) := by decide +kernel
theorem dX2_takeIn_28 : decode cX2_takeIn 28 = .ok (.iload_n 1, 1) := by decide +kernel
theorem dX2_takeIn_29 : decode cX2_takeIn 29 = .ok (.goto 7, 3) := by decide +kernel
theorem dX2_takeIn_32 : decode cX2_takeIn 32 = .ok (.aload_n 0, 1) := by decide +kernel
theorem dX2_takeIn_33 : decode cX2_takeIn 33 = .ok (.getfield 30, 3) := by decide +kernel
theorem dX2_takeIn_36 : decode cX2_takeIn 36 = .ok (.putfield 30, 3) := by decide +kernel
theorem dX2_takeIn_39 : decode cX2_takeIn 39 = .ok (.aload_n 0, 1) := by decide +kernel
theorem dX2_takeIn_40 : decode cX2_takeIn 40 = .ok (.iload 5, 2) := by decide +kernel
theorem dX2_takeIn_42 : decode cX2_takeIn 42 = .ok (.ifCond .ne 11, 3) := by decide +kernel
theorem dX2_takeIn_45 : decode cX2_takeIn 45 = .ok (.iload_n 2, 1) := by decide +kernel
theorem dX2_takeIn_46 : decode cX2_takeIn 46 = .ok (.aload_n 0, 1) := by decide +kernel
theorem dX2_takeIn_47 : decode cX2_takeIn 47 = .ok (.getfield 33, 3) := by decide +kernel
theorem dX2_takeIn_50 : decode cX2_takeIn 50 = .ok (.if_icmp .ge 7, 3) := by decide +kernel
theorem dX2_takeIn_53 : decode cX2_takeIn 53 = .ok (.iload_n 2, 1) := by decide +kernel
theorem dX2_takeIn_54 : decode cX2_takeIn 54 = .ok (.goto 7, 3) := by decide +kernel
theorem dX2_takeIn_57 : decode cX2_takeIn 57 = .ok (.aload_n 0, 1) := by decide +kernel
theorem dX2_takeIn_58 : decode cX2_takeIn 58 = .ok (.getfield 33, 3) := by decide +kernel
theorem dX2_takeIn_61 : decode cX2_takeIn 61 = .ok (.putfield 33, 3) := by decide +kernel
theorem dX2_takeIn_64 : decode cX2_takeIn 64 = .ok (.aload_n 0, 1) := by decide +kernel
theorem dX2_takeIn_65 : decode cX2_takeIn 65 = .ok (.iload 5, 2) := by decide +kernel
theorem dX2_takeIn_67 : decode cX2_takeIn 67 = .ok (.ifCond .ne 11, 3) := by decide +kernel
theorem dX2_takeIn_70 : decode cX2_takeIn 70 = .ok (.iload_n 3, 1) := by decide +kernel
theorem dX2_takeIn_71 : decode cX2_takeIn 71 = .ok (.aload_n 0, 1) := by decide +kernel
theorem dX2_takeIn_72 : decode cX2_takeIn 72 = .ok (.getfield 36, 3) := by decide +kernel
theorem dX2_takeIn_75 : decode cX2_takeIn 75 = .ok (.if_icmp .le 7, 3) := by decide +kernel
theorem dX2_takeIn_78 : decode cX2_takeIn 78 = .ok (.iload_n 3, 1) := by decide +kernel
theorem dX2_takeIn_79 : decode cX2_takeIn 79 = .ok (.goto 7, 3) := by decide +kernel
theorem dX2_takeIn_82 : decode cX2_takeIn 82 = .ok (.aload_n 0, 1) := by decide +kernel
theorem dX2_takeIn_83 : decode cX2_takeIn 83 = .ok (.getfield 36, 3) := by decide +kernel
theorem dX2_takeIn_86 : decode cX2_takeIn 86 = .ok (.putfield 36, 3) := by decide +kernel
theorem dX2_takeIn_89 : decode cX2_takeIn 89 = .ok (.aload_n 0, 1) := by decide +kernel
theorem dX2_takeIn_90 : decode cX2_takeIn 90 = .ok (.iload 5, 2) := by decide +kernel
theorem dX2_takeIn_92 : decode cX2_takeIn 92 = .ok (.ifCond .ne 12, 3) := by decide +kernel
theorem dX2_takeIn_95 : decode cX2_takeIn 95 = .ok (.iload 4, 2) := by decide +kernel
theorem dX2_takeIn_97 : decode cX2_takeIn 97 = .ok (.aload_n 0, 1) := by decide +kernel
theorem dX2_takeIn_98 : decode cX2_takeIn 98 = .ok (.getfield 39, 3) := by decide +kernel
theorem dX2_takeIn_101 : decode cX2_takeIn 101 = .ok (.if_icmp .le 8, 3) := by decide +kernel
theorem dX2_takeIn_104 : decode cX2_takeIn 104 = .ok (.iload 4, 2) := by decide +kernel
theorem dX2_takeIn_106 : decode cX2_takeIn 106 = .ok (.goto 7, 3) := by decide +kernel
theorem dX2_takeIn_109 : decode cX2_takeIn 109 = .ok (.aload_n 0, 1) := by decide +kernel
theorem dX2_takeIn_110 : decode cX2_takeIn 110 = .ok (.getfield 39, 3) := by decide +kernel
theorem dX2_takeIn_113 : decode cX2_takeIn 113 = .ok (.putfield 39, 3) := by decide +kernel
theorem dX2_takeIn_116 : decode cX2_takeIn 116 = .ok (.return_, 1) := by decide +kernel
theorem dX2_cellsWide_0 : decode cX2_cellsWide 0 = .ok (.aload_n 0, 1) := by decide +kernel
theorem dX2_cellsWide_1 : decode cX2_cellsWide 1 = .ok (.getfield 18, 3) := by decide +kernel
theorem dX2_cellsWide_4 : decode cX2_cellsWide 4 = .ok (.ifCond .ne 7, 3) := by decide +kernel
theorem dX2_cellsWide_7 : decode cX2_cellsWide 7 = .ok (.iconst 1, 1) := by decide +kernel
theorem dX2_cellsWide_8 : decode cX2_cellsWide 8 = .ok (.goto 14, 3) := by decide +kernel
theorem dX2_cellsWide_11 : decode cX2_cellsWide 11 = .ok (.aload_n 0, 1) := by decide +kernel
theorem dX2_cellsWide_12 : decode cX2_cellsWide 12 = .ok (.getfield 36, 3) := by decide +kernel
theorem dX2_cellsWide_15 : decode cX2_cellsWide 15 = .ok (.aload_n 0, 1) := by decide +kernel
theorem dX2_cellsWide_16 : decode cX2_cellsWide 16 = .ok (.getfield 30, 3) := by decide +kernel
theorem dX2_cellsWide_19 : decode cX2_cellsWide 19 = .ok (.isub, 1) := by decide +kernel
theorem dX2_cellsWide_20 : decode cX2_cellsWide 20 = .ok (.iconst 1, 1) := by decide +kernel
theorem dX2_cellsWide_21 : decode cX2_cellsWide 21 = .ok (.iadd, 1) := by decide +kernel
theorem dX2_cellsWide_22 : decode cX2_cellsWide 22 = .ok (.ireturn, 1) := by decide +kernel
theorem dX2_cellsHigh_0 : decode cX2_cellsHigh 0 = .ok (.aload_n 0, 1) := by decide +kernel
theorem dX2_cellsHigh_1 : decode cX2_cellsHigh 1 = .ok (.getfield 18, 3) := by decide +kernel
theorem dX2_cellsHigh_4 : decode cX2_cellsHigh 4 = .ok (.ifCond .ne 7, 3) := by decide +kernel
theorem dX2_cellsHigh_7 : decode cX2_cellsHigh 7 = .ok (.iconst 1, 1) := by decide +kernel
theorem dX2_cellsHigh_8 : decode cX2_cellsHigh 8 = .ok (.goto 14, 3) := by decide +kernel
theorem dX2_cellsHigh_11 : decode cX2_cellsHigh 11 = .ok (.aload_n 0, 1) := by decide +kernel
theorem dX2_cellsHigh_12 : decode cX2_cellsHigh 12 = .ok (.getfield 39, 3) := by decide +kernel
theorem dX2_cellsHigh_15 : decode cX2_cellsHigh 15 = .ok (.aload_n 0, 1) := by decide +kernel
theorem dX2_cellsHigh_16 : decode cX2_cellsHigh 16 = .ok (.getfield 33, 3) := by decide +kernel
theorem dX2_cellsHigh_19 : decode cX2_cellsHigh 19 = .ok (.isub, 1) := by decide +kernel
theorem dX2_cellsHigh_20 : decode cX2_cellsHigh 20 = .ok (.iconst 1, 1) := by decide +kernel
theorem dX2_cellsHigh_21 : decode cX2_cellsHigh 21 = .ok (.iadd, 1) := by decide +kernel
theorem dX2_cellsHigh_22 : decode cX2_cellsHigh 22 = .ok (.ireturn, 1) := by decide +kernel
theorem dX2_isShiftOf_0 : decode cX2_isShiftOf 0 = .ok (.aload_n 0, 1) := by decide +kernel
theorem dX2_isShiftOf_1 : decode cX2_isShiftOf 1 = .ok (.getfield 18, 3) := by decide +kernel
theorem dX2_isShiftOf_4 : decode cX2_isShiftOf 4 = .ok (.aload_n 1, 1) := by decide +kernel
theorem dX2_isShiftOf_5 : decode cX2_isShiftOf 5 = .ok (.getfield 18, 3) := by decide +kernel
theorem dX2_isShiftOf_8 : decode cX2_isShiftOf 8 = .ok (.if_icmp .eq 5, 3) := by decide +kernel
theorem dX2_isShiftOf_11 : decode cX2_isShiftOf 11 = .ok (.iconst 0, 1) := by decide +kernel
theorem dX2_isShiftOf_12 : decode cX2_isShiftOf 12 = .ok (.ireturn, 1) := by decide +kernel
theorem dX2_isShiftOf_13 : decode cX2_isShiftOf 13 = .ok (.aload_n 0, 1) := by decide +kernel
theorem dX2_isShiftOf_14 : decode cX2_isShiftOf 14 = .ok (.getfield 18, 3) := by decide +kernel
theorem dX2_isShiftOf_17 : decode cX2_isShiftOf 17 = .ok (.ifCond .ne 5, 3) := by decide +kernel
theorem dX2_isShiftOf_20 : decode cX2_isShiftOf 20 = .ok (.iconst 1, 1) := by decide +kernel
theorem dX2_isShiftOf_21 : decode cX2_isShiftOf 21 = .ok (.ireturn, 1) := by decide +kernel
theorem dX2_isShiftOf_22 : decode cX2_isShiftOf 22 = .ok (.iconst 0, 1) := by decide +kernel
theorem dX2_isShiftOf_23 : decode cX2_isShiftOf 23 = .ok (.istore_n 2, 1) := by decide +kernel
theorem dX2_isShiftOf_24 : decode cX2_isShiftOf 24 = .ok (.iload_n 2, 1) := by decide +kernel
theorem dX2_isShiftOf_25 : decode cX2_isShiftOf 25 = .ok (.bipush 16, 2) := by decide +kernel
theorem dX2_isShiftOf_27 : decode cX2_isShiftOf 27 = .ok (.if_icmp .ge 53, 3) := by decide +kernel
theorem dX2_isShiftOf_30 : decode cX2_isShiftOf 30 = .ok (.aload_n 0, 1) := by decide +kernel
theorem dX2_isShiftOf_31 : decode cX2_isShiftOf 31 = .ok (.aload_n 0, 1) := by decide +kernel
theorem dX2_isShiftOf_32 : decode cX2_isShiftOf 32 = .ok (.getfield 9, 3) := by decide +kernel
theorem dX2_isShiftOf_35 : decode cX2_isShiftOf 35 = .ok (.iload_n 2, 1) := by decide +kernel
theorem dX2_isShiftOf_36 : decode cX2_isShiftOf 36 = .ok (.invokevirtual 42, 3) := by decide +kernel
theorem dX2_isShiftOf_39 : decode cX2_isShiftOf 39 = .ok (.aload_n 1, 1) := by decide +kernel
theorem dX2_isShiftOf_40 : decode cX2_isShiftOf 40 = .ok (.aload_n 1, 1) := by decide +kernel
theorem dX2_isShiftOf_41 : decode cX2_isShiftOf 41 = .ok (.getfield 9, 3) := by decide +kernel
theorem dX2_isShiftOf_44 : decode cX2_isShiftOf 44 = .ok (.iload_n 2, 1) := by decide +kernel
theorem dX2_isShiftOf_45 : decode cX2_isShiftOf 45 = .ok (.invokevirtual 42, 3) := by decide +kernel
theorem dX2_isShiftOf_48 : decode cX2_isShiftOf 48 = .ok (.if_icmp .ne 24, 3) := by decide +kernel
theorem dX2_isShiftOf_51 : decode cX2_isShiftOf 51 = .ok (.aload_n 0, 1) := by decide +kernel
theorem dX2_isShiftOf_52 : decode cX2_isShiftOf 52 = .ok (.aload_n 0, 1) := by decide +kernel
theorem dX2_isShiftOf_53 : decode cX2_isShiftOf 53 = .ok (.getfield 15, 3) := by decide +kernel
theorem dX2_isShiftOf_56 : decode cX2_isShiftOf 56 = .ok (.iload_n 2, 1) := by decide +kernel
theorem dX2_isShiftOf_57 : decode cX2_isShiftOf 57 = .ok (.invokevirtual 42, 3) := by decide +kernel
theorem dX2_isShiftOf_60 : decode cX2_isShiftOf 60 = .ok (.aload_n 1, 1) := by decide +kernel
theorem dX2_isShiftOf_61 : decode cX2_isShiftOf 61 = .ok (.aload_n 1, 1) := by decide +kernel
theorem dX2_isShiftOf_62 : decode cX2_isShiftOf 62 = .ok (.getfield 15, 3) := by decide +kernel
theorem dX2_isShiftOf_65 : decode cX2_isShiftOf 65 = .ok (.iload_n 2, 1) := by decide +kernel
theorem dX2_isShiftOf_66 : decode cX2_isShiftOf 66 = .ok (.invokevirtual 42, 3) := by decide +kernel
theorem dX2_isShiftOf_69 : decode cX2_isShiftOf 69 = .ok (.if_icmp .eq 5, 3) := by decide +kernel
theorem dX2_isShiftOf_72 : decode cX2_isShiftOf 72 = .ok (.iconst 0, 1) := by decide +kernel
theorem dX2_isShiftOf_73 : decode cX2_isShiftOf 73 = .ok (.ireturn, 1) := by decide +kernel
theorem dX2_isShiftOf_74 : decode cX2_isShiftOf 74 = .ok (.iinc 2 1, 3) := by decide +kernel
theorem dX2_isShiftOf_77 : decode cX2_isShiftOf 77 = .ok (.goto (-53), 3) := by decide +kernel
theorem dX2_isShiftOf_80 : decode cX2_isShiftOf 80 = .ok (.iconst 1, 1) := by decide +kernel
theorem dX2_isShiftOf_81 : decode cX2_isShiftOf 81 = .ok (.ireturn, 1) := by decide +kernel
theorem dX2_rowInCorner_0 : decode cX2_rowInCorner 0 = .ok (.aload_n 0, 1) := by decide +kernel
theorem dX2_rowInCorner_1 : decode cX2_rowInCorner 1 = .ok (.getfield 33, 3) := by decide +kernel
theorem dX2_rowInCorner_4 : decode cX2_rowInCorner 4 = .ok (.iload_n 2, 1) := by decide +kernel
theorem dX2_rowInCorner_5 : decode cX2_rowInCorner 5 = .ok (.iadd, 1) := by decide +kernel
theorem dX2_rowInCorner_6 : decode cX2_rowInCorner 6 = .ok (.istore_n 3, 1) := by decide +kernel
theorem dX2_rowInCorner_7 : decode cX2_rowInCorner 7 = .ok (.aload_n 0, 1) := by decide +kernel
theorem dX2_rowInCorner_8 : decode cX2_rowInCorner 8 = .ok (.getfield 30, 3) := by decide +kernel
theorem dX2_rowInCorner_11 : decode cX2_rowInCorner 11 = .ok (.invokestatic 22, 3) := by decide +kernel
theorem dX2_rowInCorner_14 : decode cX2_rowInCorner 14 = .ok (.ifCond .eq 24, 3) := by decide +kernel
theorem dX2_rowInCorner_17 : decode cX2_rowInCorner 17 = .ok (.iload_n 3, 1) := by decide +kernel
theorem dX2_rowInCorner_18 : decode cX2_rowInCorner 18 = .ok (.ifCond .lt 20, 3) := by decide +kernel
theorem dX2_rowInCorner_21 : decode cX2_rowInCorner 21 = .ok (.iload_n 3, 1) := by decide +kernel
theorem dX2_rowInCorner_22 : decode cX2_rowInCorner 22 = .ok (.aload_n 1, 1) := by decide +kernel
theorem dX2_rowInCorner_23 : decode cX2_rowInCorner 23 = .ok (.arraylength, 1) := by decide +kernel
theorem dX2_rowInCorner_24 : decode cX2_rowInCorner 24 = .ok (.if_icmp .ge 14, 3) := by decide +kernel
theorem dX2_rowInCorner_27 : decode cX2_rowInCorner 27 = .ok (.aload_n 1, 1) := by decide +kernel
theorem dX2_rowInCorner_28 : decode cX2_rowInCorner 28 = .ok (.iload_n 3, 1) := by decide +kernel
theorem dX2_rowInCorner_29 : decode cX2_rowInCorner 29 = .ok (.iaload, 1) := by decide +kernel
theorem dX2_rowInCorner_30 : decode cX2_rowInCorner 30 = .ok (.aload_n 0, 1) := by decide +kernel
theorem dX2_rowInCorner_31 : decode cX2_rowInCorner 31 = .ok (.getfield 30, 3) := by decide +kernel
theorem dX2_rowInCorner_34 : decode cX2_rowInCorner 34 = .ok (.ishr, 1) := by decide +kernel
theorem dX2_rowInCorner_35 : decode cX2_rowInCorner 35 = .ok (.goto 4, 3) := by decide +kernel
theorem dX2_rowInCorner_38 : decode cX2_rowInCorner 38 = .ok (.iconst 0, 1) := by decide +kernel
theorem dX2_rowInCorner_39 : decode cX2_rowInCorner 39 = .ok (.ireturn, 1) := by decide +kernel
theorem dX3_init_0 : decode cX3_init 0 = .ok (.aload_n 0, 1) := by decide +kernel
theorem dX3_init_1 : decode cX3_init 1 = .ok (.invokespecial 3, 3) := by decide +kernel
theorem dX3_init_4 : decode cX3_init 4 = .ok (.aload_n 0, 1) := by decide +kernel
theorem dX3_init_5 : decode cX3_init 5 = .ok (.aload_n 1, 1) := by decide +kernel
theorem dX3_init_6 : decode cX3_init 6 = .ok (.putfield 9, 3) := by decide +kernel
theorem dX3_init_9 : decode cX3_init 9 = .ok (.aload_n 0, 1) := by decide +kernel
theorem dX3_init_10 : decode cX3_init 10 = .ok (.iload_n 2, 1) := by decide +kernel
theorem dX3_init_11 : decode cX3_init 11 = .ok (.putfield 15, 3) := by decide +kernel
theorem dX3_init_14 : decode cX3_init 14 = .ok (.aload_n 0, 1) := by decide +kernel
theorem dX3_init_15 : decode cX3_init 15 = .ok (.iload_n 3, 1) := by decide +kernel
theorem dX3_init_16 : decode cX3_init 16 = .ok (.putfield 19, 3) := by decide +kernel
theorem dX3_init_19 : decode cX3_init 19 = .ok (.return_, 1) := by decide +kernel
theorem dX3_allowAtMost_0 : decode cX3_allowAtMost 0 = .ok (.aload_n 0, 1) := by decide +kernel
theorem dX3_allowAtMost_1 : decode cX3_allowAtMost 1 = .ok (.iload_n 1, 1) := by decide +kernel
theorem dX3_allowAtMost_2 : decode cX3_allowAtMost 2 = .ok (.putfield 15, 3) := by decide +kernel
theorem dX3_allowAtMost_5 : decode cX3_allowAtMost 5 = .ok (.aload_n 0, 1) := by decide +kernel
theorem dX3_allowAtMost_6 : decode cX3_allowAtMost 6 = .ok (.iload_n 2, 1) := by decide +kernel
theorem dX3_allowAtMost_7 : decode cX3_allowAtMost 7 = .ok (.putfield 19, 3) := by decide +kernel
theorem dX3_allowAtMost_10 : decode cX3_allowAtMost 10 = .ok (.return_, 1) := by decide +kernel
theorem dX3_isMetBy_0 : decode cX3_isMetBy 0 = .ok (.aload_n 1, 1) := by decide +kernel
theorem dX3_isMetBy_1 : decode cX3_isMetBy 1 = .ok (.getfield 22, 3) := by decide +kernel
theorem dX3_isMetBy_4 : decode cX3_isMetBy 4 = .ok (.ifCond .ne 46, 3) := by decide +kernel
theorem dX3_isMetBy_7 : decode cX3_isMetBy 7 = .ok (.aload_n 1, 1) := by decide +kernel
theorem dX3_isMetBy_8 : decode cX3_isMetBy 8 = .ok (.invokevirtual 27, 3) := by decide +kernel
theorem dX3_isMetBy_11 : decode cX3_isMetBy 11 = .ok (.aload_n 0, 1) := by decide +kernel
theorem dX3_isMetBy_12 : decode cX3_isMetBy 12 = .ok (.getfield 15, 3) := by decide +kernel
theorem dX3_isMetBy_15 : decode cX3_isMetBy 15 = .ok (.if_icmp .gt 35, 3) := by decide +kernel
theorem dX3_isMetBy_18 : decode cX3_isMetBy 18 = .ok (.aload_n 1, 1) := by decide +kernel
theorem dX3_isMetBy_19 : decode cX3_isMetBy 19 = .ok (.getfield 31, 3) := by decide +kernel
theorem dX3_isMetBy_22 : decode cX3_isMetBy 22 = .ok (.aload_n 0, 1) := by decide +kernel
theorem dX3_isMetBy_23 : decode cX3_isMetBy 23 = .ok (.getfield 19, 3) := by decide +kernel
theorem dX3_isMetBy_26 : decode cX3_isMetBy 26 = .ok (.if_icmp .gt 24, 3) := by decide +kernel
theorem dX3_isMetBy_29 : decode cX3_isMetBy 29 = .ok (.aload_n 1, 1) := by decide +kernel
theorem dX3_isMetBy_30 : decode cX3_isMetBy 30 = .ok (.getfield 34, 3) := by decide +kernel
theorem dX3_isMetBy_33 : decode cX3_isMetBy 33 = .ok (.aload_n 0, 1) := by decide +kernel
theorem dX3_isMetBy_34 : decode cX3_isMetBy 34 = .ok (.getfield 9, 3) := by decide +kernel
theorem dX3_isMetBy_37 : decode cX3_isMetBy 37 = .ok (.getfield 34, 3) := by decide +kernel
theorem dX3_isMetBy_40 : decode cX3_isMetBy 40 = .ok (.invokevirtual 38, 3) := by decide +kernel
theorem dX3_isMetBy_43 : decode cX3_isMetBy 43 = .ok (.ifCond .eq 7, 3) := by decide +kernel
theorem dX3_isMetBy_46 : decode cX3_isMetBy 46 = .ok (.iconst 1, 1) := by decide +kernel
theorem dX3_isMetBy_47 : decode cX3_isMetBy 47 = .ok (.goto 4, 3) := by decide +kernel
theorem dX3_isMetBy_50 : decode cX3_isMetBy 50 = .ok (.iconst 0, 1) := by decide +kernel
theorem dX3_isMetBy_51 : decode cX3_isMetBy 51 = .ok (.ireturn, 1) := by decide +kernel
theorem dX4_init_0 : decode cX4_init 0 = .ok (.aload_n 0, 1) := by decide +kernel
theorem dX4_init_1 : decode cX4_init 1 = .ok (.invokespecial 3, 3) := by decide +kernel
theorem dX4_init_4 : decode cX4_init 4 = .ok (.aload_n 0, 1) := by decide +kernel
theorem dX4_init_5 : decode cX4_init 5 = .ok (.iload_n 1, 1) := by decide +kernel
theorem dX4_init_6 : decode cX4_init 6 = .ok (.putfield 9, 3) := by decide +kernel
theorem dX4_init_9 : decode cX4_init 9 = .ok (.aload_n 0, 1) := by decide +kernel
theorem dX4_init_10 : decode cX4_init 10 = .ok (.iload_n 2, 1) := by decide +kernel
theorem dX4_init_11 : decode cX4_init 11 = .ok (.putfield 15, 3) := by decide +kernel
theorem dX4_init_14 : decode cX4_init 14 = .ok (.aload_n 0, 1) := by decide +kernel
theorem dX4_init_15 : decode cX4_init 15 = .ok (.iload_n 3, 1) := by decide +kernel
theorem dX4_init_16 : decode cX4_init 16 = .ok (.putfield 18, 3) := by decide +kernel
theorem dX4_init_19 : decode cX4_init 19 = .ok (.aload_n 0, 1) := by decide +kernel
theorem dX4_init_20 : decode cX4_init 20 = .ok (.iload 4, 2) := by decide +kernel
theorem dX4_init_22 : decode cX4_init 22 = .ok (.putfield 21, 3) := by decide +kernel
theorem dX4_init_25 : decode cX4_init 25 = .ok (.return_, 1) := by decide +kernel
theorem dX4_opensBlock_0 : decode cX4_opensBlock 0 = .ok (.aload_n 0, 1) := by decide +kernel
theorem dX4_opensBlock_1 : decode cX4_opensBlock 1 = .ok (.getfield 9, 3) := by decide +kernel
theorem dX4_opensBlock_4 : decode cX4_opensBlock 4 = .ok (.iconst 5, 1) := by decide +kernel
theorem dX4_opensBlock_5 : decode cX4_opensBlock 5 = .ok (.if_icmp .eq 12, 3) := by decide +kernel
theorem dX4_opensBlock_8 : decode cX4_opensBlock 8 = .ok (.aload_n 0, 1) := by decide +kernel
theorem dX4_opensBlock_9 : decode cX4_opensBlock 9 = .ok (.getfield 9, 3) := by decide +kernel
theorem dX4_opensBlock_12 : decode cX4_opensBlock 12 = .ok (.bipush 6, 2) := by decide +kernel
theorem dX4_opensBlock_14 : decode cX4_opensBlock 14 = .ok (.if_icmp .ne 7, 3) := by decide +kernel
theorem dX4_opensBlock_17 : decode cX4_opensBlock 17 = .ok (.iconst 1, 1) := by decide +kernel
theorem dX4_opensBlock_18 : decode cX4_opensBlock 18 = .ok (.goto 4, 3) := by decide +kernel
theorem dX4_opensBlock_21 : decode cX4_opensBlock 21 = .ok (.iconst 0, 1) := by decide +kernel
theorem dX4_opensBlock_22 : decode cX4_opensBlock 22 = .ok (.ireturn, 1) := by decide +kernel
theorem dX5_init_0 : decode cX5_init 0 = .ok (.aload_n 0, 1) := by decide +kernel
theorem dX5_init_1 : decode cX5_init 1 = .ok (.invokespecial 3, 3) := by decide +kernel
theorem dX5_init_4 : decode cX5_init 4 = .ok (.aload_n 2, 1) := by decide +kernel
theorem dX5_init_5 : decode cX5_init 5 = .ok (.invokevirtual 9, 3) := by decide +kernel
theorem dX5_init_8 : decode cX5_init 8 = .ok (.ifCond .le 10, 3) := by decide +kernel
theorem dX5_init_11 : decode cX5_init 11 = .ok (.aload_n 2, 1) := by decide +kernel
theorem dX5_init_12 : decode cX5_init 12 = .ok (.invokevirtual 9, 3) := by decide +kernel
theorem dX5_init_15 : decode cX5_init 15 = .ok (.goto 4, 3) := by decide +kernel
theorem dX5_init_18 : decode cX5_init 18 = .ok (.iconst 0, 1) := by decide +kernel
theorem dX5_init_19 : decode cX5_init 19 = .ok (.istore_n 3, 1) := by decide +kernel
theorem dX5_init_20 : decode cX5_init 20 = .ok (.aload_n 0, 1) := by decide +kernel
theorem dX5_init_21 : decode cX5_init 21 = .ok (.iload_n 1, 1) := by decide +kernel
theorem dX5_init_22 : decode cX5_init 22 = .ok (.putfield 15, 3) := by decide +kernel
theorem dX5_init_25 : decode cX5_init 25 = .ok (.aload_n 0, 1) := by decide +kernel
theorem dX5_init_26 : decode cX5_init 26 = .ok (.iload_n 3, 1) := by decide +kernel
theorem dX5_init_27 : decode cX5_init 27 = .ok (.anewarray 21, 3) := by decide +kernel
theorem dX5_init_30 : decode cX5_init 30 = .ok (.putfield 23, 3) := by decide +kernel
theorem dX5_init_33 : decode cX5_init 33 = .ok (.aload_n 0, 1) := by decide +kernel
theorem dX5_init_34 : decode cX5_init 34 = .ok (.iload_n 3, 1) := by decide +kernel
theorem dX5_init_35 : decode cX5_init 35 = .ok (.newarray .int, 2) := by decide +kernel
theorem dX5_init_37 : decode cX5_init 37 = .ok (.putfield 27, 3) := by decide +kernel
theorem dX5_init_40 : decode cX5_init 40 = .ok (.aload_n 0, 1) := by decide +kernel
theorem dX5_init_41 : decode cX5_init 41 = .ok (.iload_n 3, 1) := by decide +kernel
theorem dX5_init_42 : decode cX5_init 42 = .ok (.newarray .int, 2) := by decide +kernel
theorem dX5_init_44 : decode cX5_init 44 = .ok (.putfield 31, 3) := by decide +kernel
theorem dX5_init_47 : decode cX5_init 47 = .ok (.aload_n 0, 1) := by decide +kernel
theorem dX5_init_48 : decode cX5_init 48 = .ok (.iconst 4, 1) := by decide +kernel
theorem dX5_init_49 : decode cX5_init 49 = .ok (.newarray .int, 2) := by decide +kernel
theorem dX5_init_51 : decode cX5_init 51 = .ok (.putfield 34, 3) := by decide +kernel
theorem dX5_init_54 : decode cX5_init 54 = .ok (.aload_n 0, 1) := by decide +kernel
theorem dX5_init_55 : decode cX5_init 55 = .ok (.new 37, 3) := by decide +kernel
theorem dX5_init_58 : decode cX5_init 58 = .ok (.dup, 1) := by decide +kernel
theorem dX5_init_59 : decode cX5_init 59 = .ok (.invokespecial 39, 3) := by decide +kernel
theorem dX5_init_62 : decode cX5_init 62 = .ok (.putfield 40, 3) := by decide +kernel
theorem dX5_init_65 : decode cX5_init 65 = .ok (.iconst 0, 1) := by decide +kernel
theorem dX5_init_66 : decode cX5_init 66 = .ok (.istore 4, 2) := by decide +kernel
theorem dX5_init_68 : decode cX5_init 68 = .ok (.iload 4, 2) := by decide +kernel
theorem dX5_init_70 : decode cX5_init 70 = .ok (.aload_n 0, 1) := by decide +kernel
theorem dX5_init_71 : decode cX5_init 71 = .ok (.getfield 34, 3) := by decide +kernel
theorem dX5_init_74 : decode cX5_init 74 = .ok (.arraylength, 1) := by decide +kernel
theorem dX5_init_75 : decode cX5_init 75 = .ok (.if_icmp .ge 17, 3) := by decide +kernel
theorem dX5_init_78 : decode cX5_init 78 = .ok (.aload_n 0, 1) := by decide +kernel
theorem dX5_init_79 : decode cX5_init 79 = .ok (.getfield 34, 3) := by decide +kernel
theorem dX5_init_82 : decode cX5_init 82 = .ok (.iload 4, 2) := by decide +kernel
theorem dX5_init_84 : decode cX5_init 84 = .ok (.iconst (-1), 1) := by decide +kernel
theorem dX5_init_85 : decode cX5_init 85 = .ok (.iastore, 1) := by decide +kernel
theorem dX5_init_86 : decode cX5_init 86 = .ok (.iinc 4 1, 3) := by decide +kernel
theorem dX5_init_89 : decode cX5_init 89 = .ok (.goto (-21), 3) := by decide +kernel
theorem dX5_init_92 : decode cX5_init 92 = .ok (.iconst 0, 1) := by decide +kernel
theorem dX5_init_93 : decode cX5_init 93 = .ok (.istore 4, 2) := by decide +kernel
theorem dX5_init_95 : decode cX5_init 95 = .ok (.iload 4, 2) := by decide +kernel
theorem dX5_init_97 : decode cX5_init 97 = .ok (.aload_n 0, 1) := by decide +kernel
theorem dX5_init_98 : decode cX5_init 98 = .ok (.getfield 23, 3) := by decide +kernel
theorem dX5_init_101 : decode cX5_init 101 = .ok (.arraylength, 1) := by decide +kernel
theorem dX5_init_102 : decode cX5_init 102 = .ok (.if_icmp .ge 22, 3) := by decide +kernel
theorem dX5_init_105 : decode cX5_init 105 = .ok (.aload_n 0, 1) := by decide +kernel
theorem dX5_init_106 : decode cX5_init 106 = .ok (.getfield 23, 3) := by decide +kernel
theorem dX5_init_109 : decode cX5_init 109 = .ok (.iload 4, 2) := by decide +kernel
theorem dX5_init_111 : decode cX5_init 111 = .ok (.aload_n 2, 1) := by decide +kernel
theorem dX5_init_112 : decode cX5_init 112 = .ok (.iload 4, 2) := by decide +kernel
theorem dX5_init_114 : decode cX5_init 114 = .ok (.invokevirtual 44, 3) := by decide +kernel
theorem dX5_init_117 : decode cX5_init 117 = .ok (.aastore, 1) := by decide +kernel
theorem dX5_init_118 : decode cX5_init 118 = .ok (.iinc 4 1, 3) := by decide +kernel
theorem dX5_init_121 : decode cX5_init 121 = .ok (.goto (-26), 3) := by decide +kernel
theorem dX5_init_124 : decode cX5_init 124 = .ok (.aload_n 0, 1) := by decide +kernel
theorem dX5_init_125 : decode cX5_init 125 = .ok (.invokevirtual 48, 3) := by decide +kernel
theorem dX5_init_128 : decode cX5_init 128 = .ok (.aload_n 0, 1) := by decide +kernel
theorem dX5_init_129 : decode cX5_init 129 = .ok (.invokevirtual 51, 3) := by decide +kernel
theorem dX5_init_132 : decode cX5_init 132 = .ok (.aload_n 0, 1) := by decide +kernel
theorem dX5_init_133 : decode cX5_init 133 = .ok (.invokevirtual 54, 3) := by decide +kernel
theorem dX5_init_136 : decode cX5_init 136 = .ok (.return_, 1) := by decide +kernel
theorem dX5_length_0 : decode cX5_length 0 = .ok (.aload_n 0, 1) := by decide +kernel
theorem dX5_length_1 : decode cX5_length 1 = .ok (.getfield 23, 3) := by decide +kernel
theorem dX5_length_4 : decode cX5_length 4 = .ok (.arraylength, 1) := by decide +kernel
theorem dX5_length_5 : decode cX5_length 5 = .ok (.ireturn, 1) := by decide +kernel
theorem dX5_orderAt_0 : decode cX5_orderAt 0 = .ok (.iload_n 1, 1) := by decide +kernel
theorem dX5_orderAt_1 : decode cX5_orderAt 1 = .ok (.ifCond .lt 21, 3) := by decide +kernel
theorem dX5_orderAt_4 : decode cX5_orderAt 4 = .ok (.iload_n 1, 1) := by decide +kernel
theorem dX5_orderAt_5 : decode cX5_orderAt 5 = .ok (.aload_n 0, 1) := by decide +kernel
theorem dX5_orderAt_6 : decode cX5_orderAt 6 = .ok (.getfield 23, 3) := by decide +kernel
theorem dX5_orderAt_9 : decode cX5_orderAt 9 = .ok (.arraylength, 1) := by decide +kernel
theorem dX5_orderAt_10 : decode cX5_orderAt 10 = .ok (.if_icmp .ge 12, 3) := by decide +kernel
theorem dX5_orderAt_13 : decode cX5_orderAt 13 = .ok (.aload_n 0, 1) := by decide +kernel
theorem dX5_orderAt_14 : decode cX5_orderAt 14 = .ok (.getfield 23, 3) := by decide +kernel
theorem dX5_orderAt_17 : decode cX5_orderAt 17 = .ok (.iload_n 1, 1) := by decide +kernel
theorem dX5_orderAt_18 : decode cX5_orderAt 18 = .ok (.aaload, 1) := by decide +kernel
theorem dX5_orderAt_19 : decode cX5_orderAt 19 = .ok (.goto 4, 3) := by decide +kernel
theorem dX5_orderAt_22 : decode cX5_orderAt 22 = .ok (.aconst_null, 1) := by decide +kernel
theorem dX5_orderAt_23 : decode cX5_orderAt 23 = .ok (.areturn, 1) := by decide +kernel
theorem dX5_partnerOf_0 : decode cX5_partnerOf 0 = .ok (.iload_n 1, 1) := by decide +kernel
theorem dX5_partnerOf_1 : decode cX5_partnerOf 1 = .ok (.ifCond .lt 21, 3) := by decide +kernel
theorem dX5_partnerOf_4 : decode cX5_partnerOf 4 = .ok (.iload_n 1, 1) := by decide +kernel
theorem dX5_partnerOf_5 : decode cX5_partnerOf 5 = .ok (.aload_n 0, 1) := by decide +kernel
theorem dX5_partnerOf_6 : decode cX5_partnerOf 6 = .ok (.getfield 27, 3) := by decide +kernel
theorem dX5_partnerOf_9 : decode cX5_partnerOf 9 = .ok (.arraylength, 1) := by decide +kernel
theorem dX5_partnerOf_10 : decode cX5_partnerOf 10 = .ok (.if_icmp .ge 12, 3) := by decide +kernel
theorem dX5_partnerOf_13 : decode cX5_partnerOf 13 = .ok (.aload_n 0, 1) := by decide +kernel
theorem dX5_partnerOf_14 : decode cX5_partnerOf 14 = .ok (.getfield 27, 3) := by decide +kernel
theorem dX5_partnerOf_17 : decode cX5_partnerOf 17 = .ok (.iload_n 1, 1) := by decide +kernel
theorem dX5_partnerOf_18 : decode cX5_partnerOf 18 = .ok (.iaload, 1) := by decide +kernel
theorem dX5_partnerOf_19 : decode cX5_partnerOf 19 = .ok (.goto 4, 3) := by decide +kernel
theorem dX5_partnerOf_22 : decode cX5_partnerOf 22 = .ok (.iconst (-1), 1) := by decide +kernel
theorem dX5_partnerOf_23 : decode cX5_partnerOf 23 = .ok (.ireturn, 1) := by decide +kernel
theorem dX5_startOf_0 : decode cX5_startOf 0 = .ok (.iload_n 1, 1) := by decide +kernel
theorem dX5_startOf_1 : decode cX5_startOf 1 = .ok (.ifCond .lt 21, 3) := by decide +kernel
theorem dX5_startOf_4 : decode cX5_startOf 4 = .ok (.iload_n 1, 1) := by decide +kernel
theorem dX5_startOf_5 : decode cX5_startOf 5 = .ok (.aload_n 0, 1) := by decide +kernel
theorem dX5_startOf_6 : decode cX5_startOf 6 = .ok (.getfield 34, 3) := by decide +kernel
theorem dX5_startOf_9 : decode cX5_startOf 9 = .ok (.arraylength, 1) := by decide +kernel
theorem dX5_startOf_10 : decode cX5_startOf 10 = .ok (.if_icmp .ge 12, 3) := by decide +kernel
theorem dX5_startOf_13 : decode cX5_startOf 13 = .ok (.aload_n 0, 1) := by decide +kernel
theorem dX5_startOf_14 : decode cX5_startOf 14 = .ok (.getfield 34, 3) := by decide +kernel
theorem dX5_startOf_17 : decode cX5_startOf 17 = .ok (.iload_n 1, 1) := by decide +kernel
theorem dX5_startOf_18 : decode cX5_startOf 18 = .ok (.iaload, 1) := by decide +kernel
theorem dX5_startOf_19 : decode cX5_startOf 19 = .ok (.goto 4, 3) := by decide +kernel
theorem dX5_startOf_22 : decode cX5_startOf 22 = .ok (.iconst (-1), 1) := by decide +kernel
theorem dX5_startOf_23 : decode cX5_startOf 23 = .ok (.ireturn, 1) := by decide +kernel
theorem dX5_keepOutcome_0 : decode cX5_keepOutcome 0 = .ok (.aload_n 0, 1) := by decide +kernel
theorem dX5_keepOutcome_1 : decode cX5_keepOutcome 1 = .ok (.iload_n 1, 1) := by decide +kernel
theorem dX5_keepOutcome_2 : decode cX5_keepOutcome 2 = .ok (.putfield 57, 3) := by decide +kernel
theorem dX5_keepOutcome_5 : decode cX5_keepOutcome 5 = .ok (.aload_n 0, 1) := by decide +kernel
theorem dX5_keepOutcome_6 : decode cX5_keepOutcome 6 = .ok (.iload_n 2, 1) := by decide +kernel
theorem dX5_keepOutcome_7 : decode cX5_keepOutcome 7 = .ok (.putfield 60, 3) := by decide +kernel
theorem dX5_keepOutcome_10 : decode cX5_keepOutcome 10 = .ok (.return_, 1) := by decide +kernel
theorem dX5_hasFormOf_0 : decode cX5_hasFormOf 0 = .ok (.aload_n 0, 1) := by decide +kernel
theorem dX5_hasFormOf_1 : decode cX5_hasFormOf 1 = .ok (.getfield 31, 3) := by decide +kernel
theorem dX5_hasFormOf_4 : decode cX5_hasFormOf 4 = .ok (.arraylength, 1) := by decide +kernel
theorem dX5_hasFormOf_5 : decode cX5_hasFormOf 5 = .ok (.aload_n 1, 1) := by decide +kernel
theorem dX5_hasFormOf_6 : decode cX5_hasFormOf 6 = .ok (.getfield 31, 3) := by decide +kernel
theorem dX5_hasFormOf_9 : decode cX5_hasFormOf 9 = .ok (.arraylength, 1) := by decide +kernel
theorem dX5_hasFormOf_10 : decode cX5_hasFormOf 10 = .ok (.if_icmp .eq 5, 3) := by decide +kernel
theorem dX5_hasFormOf_13 : decode cX5_hasFormOf 13 = .ok (.iconst 0, 1) := by decide +kernel
theorem dX5_hasFormOf_14 : decode cX5_hasFormOf 14 = .ok (.ireturn, 1) := by decide +kernel
theorem dX5_hasFormOf_15 : decode cX5_hasFormOf 15 = .ok (.iconst 0, 1) := by decide +kernel
theorem dX5_hasFormOf_16 : decode cX5_hasFormOf 16 = .ok (.istore_n 2, 1) := by decide +kernel
theorem dX5_hasFormOf_17 : decode cX5_hasFormOf 17 = .ok (.iload_n 2, 1) := by decide +kernel
theorem dX5_hasFormOf_18 : decode cX5_hasFormOf 18 = .ok (.aload_n 0, 1) := by decide +kernel
theorem dX5_hasFormOf_19 : decode cX5_hasFormOf 19 = .ok (.getfield 31, 3) := by decide +kernel
theorem dX5_hasFormOf_22 : decode cX5_hasFormOf 22 = .ok (.arraylength, 1) := by decide +kernel
theorem dX5_hasFormOf_23 : decode cX5_hasFormOf 23 = .ok (.if_icmp .ge 35, 3) := by decide +kernel
theorem dX5_hasFormOf_26 : decode cX5_hasFormOf 26 = .ok (.iload_n 2, 1) := by decide +kernel
theorem dX5_hasFormOf_27 : decode cX5_hasFormOf 27 = .ok (.aload_n 1, 1) := by decide +kernel
theorem dX5_hasFormOf_28 : decode cX5_hasFormOf 28 = .ok (.getfield 31, 3) := by decide +kernel
theorem dX5_hasFormOf_31 : decode cX5_hasFormOf 31 = .ok (.arraylength, 1) := by decide +kernel
theorem dX5_hasFormOf_32 : decode cX5_hasFormOf 32 = .ok (.if_icmp .ge 26, 3) := by decide +kernel
theorem dX5_hasFormOf_35 : decode cX5_hasFormOf 35 = .ok (.aload_n 0, 1) := by decide +kernel
theorem dX5_hasFormOf_36 : decode cX5_hasFormOf 36 = .ok (.getfield 31, 3) := by decide +kernel
theorem dX5_hasFormOf_39 : decode cX5_hasFormOf 39 = .ok (.iload_n 2, 1) := by decide +kernel
theorem dX5_hasFormOf_40 : decode cX5_hasFormOf 40 = .ok (.iaload, 1) := by decide +kernel
theorem dX5_hasFormOf_41 : decode cX5_hasFormOf 41 = .ok (.aload_n 1, 1) := by decide +kernel
theorem dX5_hasFormOf_42 : decode cX5_hasFormOf 42 = .ok (.getfield 31, 3) := by decide +kernel
theorem dX5_hasFormOf_45 : decode cX5_hasFormOf 45 = .ok (.iload_n 2, 1) := by decide +kernel
theorem dX5_hasFormOf_46 : decode cX5_hasFormOf 46 = .ok (.iaload, 1) := by decide +kernel
theorem dX5_hasFormOf_47 : decode cX5_hasFormOf 47 = .ok (.if_icmp .eq 5, 3) := by decide +kernel
theorem dX5_hasFormOf_50 : decode cX5_hasFormOf 50 = .ok (.iconst 0, 1) := by decide +kernel
theorem dX5_hasFormOf_51 : decode cX5_hasFormOf 51 = .ok (.ireturn, 1) := by decide +kernel
theorem dX5_hasFormOf_52 : decode cX5_hasFormOf 52 = .ok (.iinc 2 1, 3) := by decide +kernel
theorem dX5_hasFormOf_55 : decode cX5_hasFormOf 55 = .ok (.goto (-38), 3) := by decide +kernel
theorem dX5_hasFormOf_58 : decode cX5_hasFormOf 58 = .ok (.iconst 1, 1) := by decide +kernel
theorem dX5_hasFormOf_59 : decode cX5_hasFormOf 59 = .ok (.ireturn, 1) := by decide +kernel
theorem dX5_pairBlocks_0 : decode cX5_pairBlocks 0 = .ok (.iconst 0, 1) := by decide +kernel
theorem dX5_pairBlocks_1 : decode cX5_pairBlocks 1 = .ok (.istore_n 1, 1) := by decide +kernel
theorem dX5_pairBlocks_2 : decode cX5_pairBlocks 2 = .ok (.iload_n 1, 1) := by decide +kernel
theorem dX5_pairBlocks_3 : decode cX5_pairBlocks 3 = .ok (.aload_n 0, 1) := by decide +kernel
theorem dX5_pairBlocks_4 : decode cX5_pairBlocks 4 = .ok (.getfield 23, 3) := by decide +kernel
theorem dX5_pairBlocks_7 : decode cX5_pairBlocks 7 = .ok (.arraylength, 1) := by decide +kernel
theorem dX5_pairBlocks_8 : decode cX5_pairBlocks 8 = .ok (.if_icmp .ge 78, 3) := by decide +kernel
theorem dX5_pairBlocks_11 : decode cX5_pairBlocks 11 = .ok (.iload_n 1, 1) := by decide +kernel
theorem dX5_pairBlocks_12 : decode cX5_pairBlocks 12 = .ok (.aload_n 0, 1) := by decide +kernel
theorem dX5_pairBlocks_13 : decode cX5_pairBlocks 13 = .ok (.getfield 27, 3) := by decide +kernel
theorem dX5_pairBlocks_16 : decode cX5_pairBlocks 16 = .ok (.arraylength, 1) := by decide +kernel
theorem dX5_pairBlocks_17 : decode cX5_pairBlocks 17 = .ok (.if_icmp .ge 69, 3) := by decide +kernel
theorem dX5_pairBlocks_20 : decode cX5_pairBlocks 20 = .ok (.aload_n 0, 1) := by decide +kernel
theorem dX5_pairBlocks_21 : decode cX5_pairBlocks 21 = .ok (.getfield 27, 3) := by decide +kernel
theorem dX5_pairBlocks_24 : decode cX5_pairBlocks 24 = .ok (.iload_n 1, 1) := by decide +kernel
theorem dX5_pairBlocks_25 : decode cX5_pairBlocks 25 = .ok (.iconst (-1), 1) := by decide +kernel
theorem dX5_pairBlocks_26 : decode cX5_pairBlocks 26 = .ok (.iastore, 1) := by decide +kernel
theorem dX5_pairBlocks_27 : decode cX5_pairBlocks 27 = .ok (.aload_n 0, 1) := by decide +kernel
theorem dX5_pairBlocks_28 : decode cX5_pairBlocks 28 = .ok (.getfield 23, 3) := by decide +kernel
theorem dX5_pairBlocks_31 : decode cX5_pairBlocks 31 = .ok (.iload_n 1, 1) := by decide +kernel
theorem dX5_pairBlocks_32 : decode cX5_pairBlocks 32 = .ok (.aaload, 1) := by decide +kernel
theorem dX5_pairBlocks_33 : decode cX5_pairBlocks 33 = .ok (.astore_n 2, 1) := by decide +kernel
theorem dX5_pairBlocks_34 : decode cX5_pairBlocks 34 = .ok (.aload_n 2, 1) := by decide +kernel
theorem dX5_pairBlocks_35 : decode cX5_pairBlocks 35 = .ok (.ifnull 45, 3) := by decide +kernel
theorem dX5_pairBlocks_38 : decode cX5_pairBlocks 38 = .ok (.aload_n 2, 1) := by decide +kernel
theorem dX5_pairBlocks_39 : decode cX5_pairBlocks 39 = .ok (.getfield 63, 3) := by decide +kernel
theorem dX5_pairBlocks_42 : decode cX5_pairBlocks 42 = .ok (.bipush 8, 2) := by decide +kernel
theorem dX5_pairBlocks_44 : decode cX5_pairBlocks 44 = .ok (.if_icmp .ne 36, 3) := by decide +kernel
theorem dX5_pairBlocks_47 : decode cX5_pairBlocks 47 = .ok (.aload_n 0, 1) := by decide +kernel
theorem dX5_pairBlocks_48 : decode cX5_pairBlocks 48 = .ok (.iload_n 1, 1) := by decide +kernel
theorem dX5_pairBlocks_49 : decode cX5_pairBlocks 49 = .ok (.invokevirtual 66, 3) := by decide +kernel
theorem dX5_pairBlocks_52 : decode cX5_pairBlocks 52 = .ok (.istore_n 3, 1) := by decide +kernel
theorem dX5_pairBlocks_53 : decode cX5_pairBlocks 53 = .ok (.iload_n 3, 1) := by decide +kernel
theorem dX5_pairBlocks_54 : decode cX5_pairBlocks 54 = .ok (.ifCond .lt 26, 3) := by decide +kernel
theorem dX5_pairBlocks_57 : decode cX5_pairBlocks 57 = .ok (.iload_n 3, 1) := by decide +kernel
theorem dX5_pairBlocks_58 : decode cX5_pairBlocks 58 = .ok (.aload_n 0, 1) := by decide +kernel
theorem dX5_pairBlocks_59 : decode cX5_pairBlocks 59 = .ok (.getfield 27, 3) := by decide +kernel
theorem dX5_pairBlocks_62 : decode cX5_pairBlocks 62 = .ok (.arraylength, 1) := by decide +kernel
theorem dX5_pairBlocks_63 : decode cX5_pairBlocks 63 = .ok (.if_icmp .ge 17, 3) := by decide +kernel
theorem dX5_pairBlocks_66 : decode cX5_pairBlocks 66 = .ok (.aload_n 0, 1) := by decide +kernel
theorem dX5_pairBlocks_67 : decode cX5_pairBlocks 67 = .ok (.getfield 27, 3) := by decide +kernel
theorem dX5_pairBlocks_70 : decode cX5_pairBlocks 70 = .ok (.iload_n 3, 1) := by decide +kernel
theorem dX5_pairBlocks_71 : decode cX5_pairBlocks 71 = .ok (.iload_n 1, 1) := by decide +kernel
theorem dX5_pairBlocks_72 : decode cX5_pairBlocks 72 = .ok (.iastore, 1) := by decide +kernel
theorem dX5_pairBlocks_73 : decode cX5_pairBlocks 73 = .ok (.aload_n 0, 1) := by decide +kernel
theorem dX5_pairBlocks_74 : decode cX5_pairBlocks 74 = .ok (.getfield 27, 3) := by decide +kernel
theorem dX5_pairBlocks_77 : decode cX5_pairBlocks 77 = .ok (.iload_n 1, 1) := by decide +kernel
theorem dX5_pairBlocks_78 : decode cX5_pairBlocks 78 = .ok (.iload_n 3, 1) := by decide +kernel
theorem dX5_pairBlocks_79 : decode cX5_pairBlocks 79 = .ok (.iastore, 1) := by decide +kernel
theorem dX5_pairBlocks_80 : decode cX5_pairBlocks 80 = .ok (.iinc 1 1, 3) := by decide +kernel
theorem dX5_pairBlocks_83 : decode cX5_pairBlocks 83 = .ok (.goto (-81), 3) := by decide +kernel
theorem dX5_pairBlocks_86 : decode cX5_pairBlocks 86 = .ok (.return_, 1) := by decide +kernel
theorem dX5_lastOpenAhead_0 : decode cX5_lastOpenAhead 0 = .ok (.iload_n 1, 1) := by decide +kernel
theorem dX5_lastOpenAhead_1 : decode cX5_lastOpenAhead 1 = .ok (.iconst 1, 1) := by decide +kernel
theorem dX5_lastOpenAhead_2 : decode cX5_lastOpenAhead 2 = .ok (.isub, 1) := by decide +kernel
theorem dX5_lastOpenAhead_3 : decode cX5_lastOpenAhead 3 = .ok (.istore_n 2, 1) := by decide +kernel
theorem dX5_lastOpenAhead_4 : decode cX5_lastOpenAhead 4 = .ok (.iload_n 2, 1) := by decide +kernel
theorem dX5_lastOpenAhead_5 : decode cX5_lastOpenAhead 5 = .ok (.ifCond .lt 37, 3) := by decide +kernel
theorem dX5_lastOpenAhead_8 : decode cX5_lastOpenAhead 8 = .ok (.aload_n 0, 1) := by decide +kernel
theorem dX5_lastOpenAhead_9 : decode cX5_lastOpenAhead 9 = .ok (.iload_n 2, 1) := by decide +kernel
theorem dX5_lastOpenAhead_10 : decode cX5_lastOpenAhead 10 = .ok (.invokevirtual 70, 3) := by decide +kernel
theorem dX5_lastOpenAhead_13 : decode cX5_lastOpenAhead 13 = .ok (.astore_n 3, 1) := by decide +kernel
theorem dX5_lastOpenAhead_14 : decode cX5_lastOpenAhead 14 = .ok (.aload_n 3, 1) := by decide +kernel
theorem dX5_lastOpenAhead_15 : decode cX5_lastOpenAhead 15 = .ok (.ifnull 21, 3) := by decide +kernel
theorem dX5_lastOpenAhead_18 : decode cX5_lastOpenAhead 18 = .ok (.aload_n 3, 1) := by decide +kernel
theorem dX5_lastOpenAhead_19 : decode cX5_lastOpenAhead 19 = .ok (.invokevirtual 71, 3) := by decide +kernel
theorem dX5_lastOpenAhead_22 : decode cX5_lastOpenAhead 22 = .ok (.ifCond .eq 14, 3) := by decide +kernel
theorem dX5_lastOpenAhead_25 : decode cX5_lastOpenAhead 25 = .ok (.aload_n 0, 1) := by decide +kernel
theorem dX5_lastOpenAhead_26 : decode cX5_lastOpenAhead 26 = .ok (.iload_n 2, 1) := by decide +kernel
theorem dX5_lastOpenAhead_27 : decode cX5_lastOpenAhead 27 = .ok (.invokevirtual 75, 3) := by decide +kernel
theorem dX5_lastOpenAhead_30 : decode cX5_lastOpenAhead 30 = .ok (.iconst (-1), 1) := by decide +kernel
theorem dX5_lastOpenAhead_31 : decode cX5_lastOpenAhead 31 = .ok (.if_icmp .ne 5, 3) := by decide +kernel
theorem dX5_lastOpenAhead_34 : decode cX5_lastOpenAhead 34 = .ok (.iload_n 2, 1) := by decide +kernel
theorem dX5_lastOpenAhead_35 : decode cX5_lastOpenAhead 35 = .ok (.ireturn, 1) := by decide +kernel
theorem dX5_lastOpenAhead_36 : decode cX5_lastOpenAhead 36 = .ok (.iinc 2 (-1), 3) := by decide +kernel
theorem dX5_lastOpenAhead_39 : decode cX5_lastOpenAhead 39 = .ok (.goto (-35), 3) := by decide +kernel
theorem dX5_lastOpenAhead_42 : decode cX5_lastOpenAhead 42 = .ok (.iconst (-1), 1) := by decide +kernel
theorem dX5_lastOpenAhead_43 : decode cX5_lastOpenAhead 43 = .ok (.ireturn, 1) := by decide +kernel
theorem dX5_findWords_0 : decode cX5_findWords 0 = .ok (.iconst 0, 1) := by decide +kernel
theorem dX5_findWords_1 : decode cX5_findWords 1 = .ok (.istore_n 1, 1) := by decide +kernel
theorem dX5_findWords_2 : decode cX5_findWords 2 = .ok (.iload_n 1, 1) := by decide +kernel
theorem dX5_findWords_3 : decode cX5_findWords 3 = .ok (.aload_n 0, 1) := by decide +kernel
theorem dX5_findWords_4 : decode cX5_findWords 4 = .ok (.getfield 23, 3) := by decide +kernel
theorem dX5_findWords_7 : decode cX5_findWords 7 = .ok (.arraylength, 1) := by decide +kernel
theorem dX5_findWords_8 : decode cX5_findWords 8 = .ok (.if_icmp .ge 58, 3) := by decide +kernel
theorem dX5_findWords_11 : decode cX5_findWords 11 = .ok (.aload_n 0, 1) := by decide +kernel
theorem dX5_findWords_12 : decode cX5_findWords 12 = .ok (.getfield 23, 3) := by decide +kernel
theorem dX5_findWords_15 : decode cX5_findWords 15 = .ok (.iload_n 1, 1) := by decide +kernel
theorem dX5_findWords_16 : decode cX5_findWords 16 = .ok (.aaload, 1) := by decide +kernel
theorem dX5_findWords_17 : decode cX5_findWords 17 = .ok (.astore_n 2, 1) := by decide +kernel
theorem dX5_findWords_18 : decode cX5_findWords 18 = .ok (.aload_n 2, 1) := by decide +kernel
theorem dX5_findWords_19 : decode cX5_findWords 19 = .ok (.ifnull 41, 3) := by decide +kernel
theorem dX5_findWords_22 : decode cX5_findWords 22 = .ok (.aload_n 2, 1) := by decide +kernel
theorem dX5_findWords_23 : decode cX5_findWords 23 = .ok (.getfield 63, 3) := by decide +kernel
theorem dX5_findWords_26 : decode cX5_findWords 26 = .ok (.bipush 6, 2) := by decide +kernel
theorem dX5_findWords_28 : decode cX5_findWords 28 = .ok (.if_icmp .ne 32, 3) := by decide +kernel
theorem dX5_findWords_31 : decode cX5_findWords 31 = .ok (.aload_n 2, 1) := by decide +kernel
theorem dX5_findWords_32 : decode cX5_findWords 32 = .ok (.getfield 78, 3) := by decide +kernel
theorem dX5_findWords_35 : decode cX5_findWords 35 = .ok (.ifCond .lt 25, 3) := by decide +kernel
theorem dX5_findWords_38 : decode cX5_findWords 38 = .ok (.aload_n 2, 1) := by decide +kernel
theorem dX5_findWords_39 : decode cX5_findWords 39 = .ok (.getfield 78, 3) := by decide +kernel
theorem dX5_findWords_42 : decode cX5_findWords 42 = .ok (.aload_n 0, 1) := by decide +kernel
theorem dX5_findWords_43 : decode cX5_findWords 43 = .ok (.getfield 34, 3) := by decide +kernel
theorem dX5_findWords_46 : decode cX5_findWords 46 = .ok (.arraylength, 1) := by decide +kernel
theorem dX5_findWords_47 : decode cX5_findWords 47 = .ok (.if_icmp .ge 13, 3) := by decide +kernel
theorem dX5_findWords_50 : decode cX5_findWords 50 = .ok (.aload_n 0, 1) := by decide +kernel
theorem dX5_findWords_51 : decode cX5_findWords 51 = .ok (.getfield 34, 3) := by decide +kernel
theorem dX5_findWords_54 : decode cX5_findWords 54 = .ok (.aload_n 2, 1) := by decide +kernel
theorem dX5_findWords_55 : decode cX5_findWords 55 = .ok (.getfield 78, 3) := by decide +kernel
theorem dX5_findWords_58 : decode cX5_findWords 58 = .ok (.iload_n 1, 1) := by decide +kernel
theorem dX5_findWords_59 : decode cX5_findWords 59 = .ok (.iastore, 1) := by decide +kernel
theorem dX5_findWords_60 : decode cX5_findWords 60 = .ok (.iinc 1 1, 3) := by decide +kernel
theorem dX5_findWords_63 : decode cX5_findWords 63 = .ok (.goto (-61), 3) := by decide +kernel
theorem dX5_findWords_66 : decode cX5_findWords 66 = .ok (.return_, 1) := by decide +kernel
theorem dX5_buildForm_0 : decode cX5_buildForm 0 = .ok (.new 81, 3) := by decide +kernel
theorem dX5_buildForm_3 : decode cX5_buildForm 3 = .ok (.dup, 1) := by decide +kernel
theorem dX5_buildForm_4 : decode cX5_buildForm 4 = .ok (.invokespecial 83, 3) := by decide +kernel
theorem dX5_buildForm_7 : decode cX5_buildForm 7 = .ok (.astore_n 1, 1) := by decide +kernel
theorem dX5_buildForm_8 : decode cX5_buildForm 8 = .ok (.new 81, 3) := by decide +kernel
theorem dX5_buildForm_11 : decode cX5_buildForm 11 = .ok (.dup, 1) := by decide +kernel
theorem dX5_buildForm_12 : decode cX5_buildForm 12 = .ok (.invokespecial 83, 3) := by decide +kernel
theorem dX5_buildForm_15 : decode cX5_buildForm 15 = .ok (.astore_n 2, 1) := by decide +kernel
theorem dX5_buildForm_16 : decode cX5_buildForm 16 = .ok (.iconst 0, 1) := by decide +kernel
theorem dX5_buildForm_17 : decode cX5_buildForm 17 = .ok (.istore_n 3, 1) := by decide +kernel
theorem dX5_buildForm_18 : decode cX5_buildForm 18 = .ok (.iload_n 3, 1) := by decide +kernel
theorem dX5_buildForm_19 : decode cX5_buildForm 19 = .ok (.aload_n 0, 1) := by decide +kernel
theorem dX5_buildForm_20 : decode cX5_buildForm 20 = .ok (.getfield 23, 3) := by decide +kernel
theorem dX5_buildForm_23 : decode cX5_buildForm 23 = .ok (.arraylength, 1) := by decide +kernel
theorem dX5_buildForm_24 : decode cX5_buildForm 24 = .ok (.if_icmp .ge 139, 3) := by decide +kernel
theorem dX5_buildForm_27 : decode cX5_buildForm 27 = .ok (.iload_n 3, 1) := by decide +kernel
theorem dX5_buildForm_28 : decode cX5_buildForm 28 = .ok (.aload_n 0, 1) := by decide +kernel
theorem dX5_buildForm_29 : decode cX5_buildForm 29 = .ok (.getfield 31, 3) := by decide +kernel
theorem dX5_buildForm_32 : decode cX5_buildForm 32 = .ok (.arraylength, 1) := by decide +kernel
theorem dX5_buildForm_33 : decode cX5_buildForm 33 = .ok (.if_icmp .ge 130, 3) := by decide +kernel
theorem dX5_buildForm_36 : decode cX5_buildForm 36 = .ok (.aload_n 0, 1) := by decide +kernel
theorem dX5_buildForm_37 : decode cX5_buildForm 37 = .ok (.getfield 23, 3) := by decide +kernel
theorem dX5_buildForm_40 : decode cX5_buildForm 40 = .ok (.iload_n 3, 1) := by decide +kernel
theorem dX5_buildForm_41 : decode cX5_buildForm 41 = .ok (.aaload, 1) := by decide +kernel
theorem dX5_buildForm_42 : decode cX5_buildForm 42 = .ok (.astore 4, 2) := by decide +kernel
theorem dX5_buildForm_44 : decode cX5_buildForm 44 = .ok (.aload 4, 2) := by decide +kernel
theorem dX5_buildForm_46 : decode cX5_buildForm 46 = .ok (.ifnull 111, 3) := by decide +kernel
theorem dX5_buildForm_49 : decode cX5_buildForm 49 = .ok (.iconst 0, 1) := by decide +kernel
theorem dX5_buildForm_50 : decode cX5_buildForm 50 = .ok (.istore 5, 2) := by decide +kernel
theorem dX5_buildForm_52 : decode cX5_buildForm 52 = .ok (.aload 4, 2) := by decide +kernel
theorem dX5_buildForm_54 : decode cX5_buildForm 54 = .ok (.getfield 63, 3) := by decide +kernel
theorem dX5_buildForm_57 : decode cX5_buildForm 57 = .ok (.iconst 3, 1) := by decide +kernel
theorem dX5_buildForm_58 : decode cX5_buildForm 58 = .ok (.if_icmp .eq 12, 3) := by decide +kernel
theorem dX5_buildForm_61 : decode cX5_buildForm 61 = .ok (.aload 4, 2) := by decide +kernel
theorem dX5_buildForm_63 : decode cX5_buildForm 63 = .ok (.getfield 63, 3) := by decide +kernel
theorem dX5_buildForm_66 : decode cX5_buildForm 66 = .ok (.iconst 4, 1) := by decide +kernel
theorem dX5_buildForm_67 : decode cX5_buildForm 67 = .ok (.if_icmp .ne 17, 3) := by decide +kernel
theorem dX5_buildForm_70 : decode cX5_buildForm 70 = .ok (.aload_n 1, 1) := by decide +kernel
theorem dX5_buildForm_71 : decode cX5_buildForm 71 = .ok (.aload 4, 2) := by decide +kernel
theorem dX5_buildForm_73 : decode cX5_buildForm 73 = .ok (.getfield 78, 3) := by decide +kernel
theorem dX5_buildForm_76 : decode cX5_buildForm 76 = .ok (.invokevirtual 84, 3) := by decide +kernel
theorem dX5_buildForm_79 : decode cX5_buildForm 79 = .ok (.istore 5, 2) := by decide +kernel
theorem dX5_buildForm_81 : decode cX5_buildForm 81 = .ok (.goto 34, 3) := by decide +kernel
theorem dX5_buildForm_84 : decode cX5_buildForm 84 = .ok (.aload 4, 2) := by decide +kernel
theorem dX5_buildForm_86 : decode cX5_buildForm 86 = .ok (.getfield 63, 3) := by decide +kernel
theorem dX5_buildForm_89 : decode cX5_buildForm 89 = .ok (.bipush 6, 2) := by decide +kernel
theorem dX5_buildForm_91 : decode cX5_buildForm 91 = .ok (.if_icmp .eq 13, 3) := by decide +kernel
theorem dX5_buildForm_94 : decode cX5_buildForm 94 = .ok (.aload 4, 2) := by decide +kernel
theorem dX5_buildForm_96 : decode cX5_buildForm 96 = .ok (.getfield 63, 3) := by decide +kernel
theorem dX5_buildForm_99 : decode cX5_buildForm 99 = .ok (.bipush 7, 2) := by decide +kernel
theorem dX5_buildForm_101 : decode cX5_buildForm 101 = .ok (.if_icmp .ne 14, 3) := by decide +kernel
theorem dX5_buildForm_104 : decode cX5_buildForm 104 = .ok (.aload_n 2, 1) := by decide +kernel
theorem dX5_buildForm_105 : decode cX5_buildForm 105 = .ok (.aload 4, 2) := by decide +kernel
theorem dX5_buildForm_107 : decode cX5_buildForm 107 = .ok (.getfield 78, 3) := by decide +kernel
theorem dX5_buildForm_110 : decode cX5_buildForm 110 = .ok (.invokevirtual 84, 3) := by decide +kernel
theorem dX5_buildForm_113 : decode cX5_buildForm 113 = .ok (.istore 5, 2) := by decide +kernel
theorem dX5_buildForm_115 : decode cX5_buildForm 115 = .ok (.aload 4, 2) := by decide +kernel
theorem dX5_buildForm_117 : decode cX5_buildForm 117 = .ok (.getfield 87, 3) := by decide +kernel
theorem dX5_buildForm_120 : decode cX5_buildForm 120 = .ok (.ifCond .eq 15, 3) := by decide +kernel
theorem dX5_buildForm_123 : decode cX5_buildForm 123 = .ok (.aload_n 1, 1) := by decide +kernel
theorem dX5_buildForm_124 : decode cX5_buildForm 124 = .ok (.aload 4, 2) := by decide +kernel
theorem dX5_buildForm_126 : decode cX5_buildForm 126 = .ok (.getfield 91, 3) := by decide +kernel
theorem dX5_buildForm_129 : decode cX5_buildForm 129 = .ok (.invokevirtual 84, 3) := by decide +kernel
theorem dX5_buildForm_132 : decode cX5_buildForm 132 = .ok (.goto 8, 3) := by decide +kernel
theorem dX5_buildForm_135 : decode cX5_buildForm 135 = .ok (.aload 4, 2) := by decide +kernel
theorem dX5_buildForm_137 : decode cX5_buildForm 137 = .ok (.getfield 91, 3) := by decide +kernel
theorem dX5_buildForm_140 : decode cX5_buildForm 140 = .ok (.istore 6, 2) := by decide +kernel
theorem dX5_buildForm_142 : decode cX5_buildForm 142 = .ok (.aload_n 0, 1) := by decide +kernel
theorem dX5_buildForm_143 : decode cX5_buildForm 143 = .ok (.getfield 31, 3) := by decide +kernel
theorem dX5_buildForm_146 : decode cX5_buildForm 146 = .ok (.iload_n 3, 1) := by decide +kernel
theorem dX5_buildForm_147 : decode cX5_buildForm 147 = .ok (.aload 4, 2) := by decide +kernel
theorem dX5_buildForm_149 : decode cX5_buildForm 149 = .ok (.iload 5, 2) := by decide +kernel
theorem dX5_buildForm_151 : decode cX5_buildForm 151 = .ok (.iload 6, 2) := by decide +kernel
theorem dX5_buildForm_153 : decode cX5_buildForm 153 = .ok (.invokestatic 94, 3) := by decide +kernel
theorem dX5_buildForm_156 : decode cX5_buildForm 156 = .ok (.iastore, 1) := by decide +kernel
theorem dX5_buildForm_157 : decode cX5_buildForm 157 = .ok (.iinc 3 1, 3) := by decide +kernel
theorem dX5_buildForm_160 : decode cX5_buildForm 160 = .ok (.goto (-142), 3) := by decide +kernel
theorem dX5_buildForm_163 : decode cX5_buildForm 163 = .ok (.return_, 1) := by decide +kernel
theorem dX5_codeOf_0 : decode cX5_codeOf 0 = .ok (.aload_n 0, 1) := by decide +kernel
theorem dX5_codeOf_1 : decode cX5_codeOf 1 = .ok (.getfield 63, 3) := by decide +kernel
theorem dX5_codeOf_4 : decode cX5_codeOf 4 = .ok (.iconst 4, 1) := by decide +kernel
theorem dX5_codeOf_5 : decode cX5_codeOf 5 = .ok (.ishl, 1) := by decide +kernel
theorem dX5_codeOf_6 : decode cX5_codeOf 6 = .ok (.iload_n 1, 1) := by decide +kernel
theorem dX5_codeOf_7 : decode cX5_codeOf 7 = .ok (.iconst 1, 1) := by decide +kernel
theorem dX5_codeOf_8 : decode cX5_codeOf 8 = .ok (.ishl, 1) := by decide +kernel
theorem dX5_codeOf_9 : decode cX5_codeOf 9 = .ok (.ior, 1) := by decide +kernel
theorem dX5_codeOf_10 : decode cX5_codeOf 10 = .ok (.aload_n 0, 1) := by decide +kernel
theorem dX5_codeOf_11 : decode cX5_codeOf 11 = .ok (.getfield 87, 3) := by decide +kernel
theorem dX5_codeOf_14 : decode cX5_codeOf 14 = .ok (.ifCond .eq 7, 3) := by decide +kernel
theorem dX5_codeOf_17 : decode cX5_codeOf 17 = .ok (.iconst 1, 1) := by decide +kernel
theorem dX5_codeOf_18 : decode cX5_codeOf 18 = .ok (.goto 4, 3) := by decide +kernel
theorem dX5_codeOf_21 : decode cX5_codeOf 21 = .ok (.iconst 0, 1) := by decide +kernel
theorem dX5_codeOf_22 : decode cX5_codeOf 22 = .ok (.ior, 1) := by decide +kernel
theorem dX5_codeOf_23 : decode cX5_codeOf 23 = .ok (.istore_n 3, 1) := by decide +kernel
theorem dX5_codeOf_24 : decode cX5_codeOf 24 = .ok (.iload_n 3, 1) := by decide +kernel
theorem dX5_codeOf_25 : decode cX5_codeOf 25 = .ok (.bipush 8, 2) := by decide +kernel
theorem dX5_codeOf_27 : decode cX5_codeOf 27 = .ok (.ishl, 1) := by decide +kernel
theorem dX5_codeOf_28 : decode cX5_codeOf 28 = .ok (.iload_n 2, 1) := by decide +kernel
theorem dX5_codeOf_29 : decode cX5_codeOf 29 = .ok (.bipush 99, 2) := by decide +kernel
theorem dX5_codeOf_31 : decode cX5_codeOf 31 = .ok (.iadd, 1) := by decide +kernel
theorem dX5_codeOf_32 : decode cX5_codeOf 32 = .ok (.ior, 1) := by decide +kernel
theorem dX5_codeOf_33 : decode cX5_codeOf 33 = .ok (.ireturn, 1) := by decide +kernel
theorem dX6_init_0 : decode cX6_init 0 = .ok (.aload_n 0, 1) := by decide +kernel
theorem dX6_init_1 : decode cX6_init 1 = .ok (.invokespecial 3, 3) := by decide +kernel
theorem dX6_init_4 : decode cX6_init 4 = .ok (.aload_n 0, 1) := by decide +kernel
theorem dX6_init_5 : decode cX6_init 5 = .ok (.iconst 4, 1) := by decide +kernel
theorem dX6_init_6 : decode cX6_init 6 = .ok (.newarray .int, 2) := by decide +kernel
theorem dX6_init_8 : decode cX6_init 8 = .ok (.putfield 9, 3) := by decide +kernel
theorem dX6_init_11 : decode cX6_init 11 = .ok (.iconst 0, 1) := by decide +kernel
theorem dX6_init_12 : decode cX6_init 12 = .ok (.istore_n 1, 1) := by decide +kernel
theorem dX6_init_13 : decode cX6_init 13 = .ok (.iload_n 1, 1) := by decide +kernel
theorem dX6_init_14 : decode cX6_init 14 = .ok (.aload_n 0, 1) := by decide +kernel
theorem dX6_init_15 : decode cX6_init 15 = .ok (.getfield 9, 3) := by decide +kernel
theorem dX6_init_18 : decode cX6_init 18 = .ok (.arraylength, 1) := by decide +kernel
theorem dX6_init_19 : decode cX6_init 19 = .ok (.if_icmp .ge 16, 3) := by decide +kernel
theorem dX6_init_22 : decode cX6_init 22 = .ok (.aload_n 0, 1) := by decide +kernel
theorem dX6_init_23 : decode cX6_init 23 = .ok (.getfield 9, 3) := by decide +kernel
theorem dX6_init_26 : decode cX6_init 26 = .ok (.iload_n 1, 1) := by decide +kernel
theorem dX6_init_27 : decode cX6_init 27 = .ok (.iconst (-1), 1) := by decide +kernel
theorem dX6_init_28 : decode cX6_init 28 = .ok (.iastore, 1) := by decide +kernel
theorem dX6_init_29 : decode cX6_init 29 = .ok (.iinc 1 1, 3) := by decide +kernel
theorem dX6_init_32 : decode cX6_init 32 = .ok (.goto (-19), 3) := by decide +kernel
theorem dX6_init_35 : decode cX6_init 35 = .ok (.return_, 1) := by decide +kernel
theorem dX6_numberOf_0 : decode cX6_numberOf 0 = .ok (.iload_n 1, 1) := by decide +kernel
theorem dX6_numberOf_1 : decode cX6_numberOf 1 = .ok (.ifCond .lt 12, 3) := by decide +kernel
theorem dX6_numberOf_4 : decode cX6_numberOf 4 = .ok (.iload_n 1, 1) := by decide +kernel
theorem dX6_numberOf_5 : decode cX6_numberOf 5 = .ok (.aload_n 0, 1) := by decide +kernel
theorem dX6_numberOf_6 : decode cX6_numberOf 6 = .ok (.getfield 9, 3) := by decide +kernel
theorem dX6_numberOf_9 : decode cX6_numberOf 9 = .ok (.arraylength, 1) := by decide +kernel
theorem dX6_numberOf_10 : decode cX6_numberOf 10 = .ok (.if_icmp .lt 5, 3) := by decide +kernel
theorem dX6_numberOf_13 : decode cX6_numberOf 13 = .ok (.iconst (-1), 1) := by decide +kernel
theorem dX6_numberOf_14 : decode cX6_numberOf 14 = .ok (.ireturn, 1) := by decide +kernel
theorem dX6_numberOf_15 : decode cX6_numberOf 15 = .ok (.aload_n 0, 1) := by decide +kernel
theorem dX6_numberOf_16 : decode cX6_numberOf 16 = .ok (.getfield 9, 3) := by decide +kernel
theorem dX6_numberOf_19 : decode cX6_numberOf 19 = .ok (.iload_n 1, 1) := by decide +kernel
theorem dX6_numberOf_20 : decode cX6_numberOf 20 = .ok (.iaload, 1) := by decide +kernel
theorem dX6_numberOf_21 : decode cX6_numberOf 21 = .ok (.iconst (-1), 1) := by decide +kernel
theorem dX6_numberOf_22 : decode cX6_numberOf 22 = .ok (.if_icmp .ne 23, 3) := by decide +kernel
theorem dX6_numberOf_25 : decode cX6_numberOf 25 = .ok (.aload_n 0, 1) := by decide +kernel
theorem dX6_numberOf_26 : decode cX6_numberOf 26 = .ok (.getfield 9, 3) := by decide +kernel
theorem dX6_numberOf_29 : decode cX6_numberOf 29 = .ok (.iload_n 1, 1) := by decide +kernel
theorem dX6_numberOf_30 : decode cX6_numberOf 30 = .ok (.aload_n 0, 1) := by decide +kernel
theorem dX6_numberOf_31 : decode cX6_numberOf 31 = .ok (.getfield 15, 3) := by decide +kernel
theorem dX6_numberOf_34 : decode cX6_numberOf 34 = .ok (.iastore, 1) := by decide +kernel
theorem dX6_numberOf_35 : decode cX6_numberOf 35 = .ok (.aload_n 0, 1) := by decide +kernel
theorem dX6_numberOf_36 : decode cX6_numberOf 36 = .ok (.dup, 1) := by decide +kernel
theorem dX6_numberOf_37 : decode cX6_numberOf 37 = .ok (.getfield 15, 3) := by decide +kernel
theorem dX6_numberOf_40 : decode cX6_numberOf 40 = .ok (.iconst 1, 1) := by decide +kernel
theorem dX6_numberOf_41 : decode cX6_numberOf 41 = .ok (.iadd, 1) := by decide +kernel
theorem dX6_numberOf_42 : decode cX6_numberOf 42 = .ok (.putfield 15, 3) := by decide +kernel
theorem dX6_numberOf_45 : decode cX6_numberOf 45 = .ok (.aload_n 0, 1) := by decide +kernel
theorem dX6_numberOf_46 : decode cX6_numberOf 46 = .ok (.getfield 9, 3) := by decide +kernel
theorem dX6_numberOf_49 : decode cX6_numberOf 49 = .ok (.iload_n 1, 1) := by decide +kernel
theorem dX6_numberOf_50 : decode cX6_numberOf 50 = .ok (.iaload, 1) := by decide +kernel
theorem dX6_numberOf_51 : decode cX6_numberOf 51 = .ok (.ireturn, 1) := by decide +kernel
theorem dX7_init_0 : decode cX7_init 0 = .ok (.aload_n 0, 1) := by decide +kernel
theorem dX7_init_1 : decode cX7_init 1 = .ok (.invokespecial 3, 3) := by decide +kernel
theorem dX7_init_4 : decode cX7_init 4 = .ok (.aload_n 0, 1) := by decide +kernel
theorem dX7_init_5 : decode cX7_init 5 = .ok (.new 9, 3) := by decide +kernel
theorem dX7_init_8 : decode cX7_init 8 = .ok (.dup, 1) := by decide +kernel
theorem dX7_init_9 : decode cX7_init 9 = .ok (.invokespecial 11, 3) := by decide +kernel
theorem dX7_init_12 : decode cX7_init 12 = .ok (.putfield 12, 3) := by decide +kernel
theorem dX7_init_15 : decode cX7_init 15 = .ok (.aload_n 0, 1) := by decide +kernel
theorem dX7_init_16 : decode cX7_init 16 = .ok (.iconst 4, 1) := by decide +kernel
theorem dX7_init_17 : decode cX7_init 17 = .ok (.newarray .int, 2) := by decide +kernel
theorem dX7_init_19 : decode cX7_init 19 = .ok (.putfield 18, 3) := by decide +kernel
theorem dX7_init_22 : decode cX7_init 22 = .ok (.aload_n 0, 1) := by decide +kernel
theorem dX7_init_23 : decode cX7_init 23 = .ok (.sipush 270, 3) := by decide +kernel
theorem dX7_init_26 : decode cX7_init 26 = .ok (.newarray .int, 2) := by decide +kernel
theorem dX7_init_28 : decode cX7_init 28 = .ok (.putfield 22, 3) := by decide +kernel
theorem dX7_init_31 : decode cX7_init 31 = .ok (.aload_n 0, 1) := by decide +kernel
theorem dX7_init_32 : decode cX7_init 32 = .ok (.bipush 8, 2) := by decide +kernel
theorem dX7_init_34 : decode cX7_init 34 = .ok (.newarray .int, 2) := by decide +kernel
theorem dX7_init_36 : decode cX7_init 36 = .ok (.putfield 25, 3) := by decide +kernel
theorem dX7_init_39 : decode cX7_init 39 = .ok (.aload_n 0, 1) := by decide +kernel
theorem dX7_init_40 : decode cX7_init 40 = .ok (.new 28, 3) := by decide +kernel
theorem dX7_init_43 : decode cX7_init 43 = .ok (.dup, 1) := by decide +kernel
theorem dX7_init_44 : decode cX7_init 44 = .ok (.invokespecial 30, 3) := by decide +kernel
theorem dX7_init_47 : decode cX7_init 47 = .ok (.putfield 31, 3) := by decide +kernel
theorem dX7_init_50 : decode cX7_init 50 = .ok (.return_, 1) := by decide +kernel
theorem dX7_brokenBy_0 : decode cX7_brokenBy 0 = .ok (.aload_n 0, 1) := by decide +kernel
theorem dX7_brokenBy_1 : decode cX7_brokenBy 1 = .ok (.getfield 35, 3) := by decide +kernel
theorem dX7_brokenBy_4 : decode cX7_brokenBy 4 = .ok (.ireturn, 1) := by decide +kernel
theorem dX7_counted_0 : decode cX7_counted 0 = .ok (.aload_n 0, 1) := by decide +kernel
theorem dX7_counted_1 : decode cX7_counted 1 = .ok (.getfield 39, 3) := by decide +kernel
theorem dX7_counted_4 : decode cX7_counted 4 = .ok (.ireturn, 1) := by decide +kernel
theorem dX7_perform_0 : decode cX7_perform 0 = .ok (.aload_n 0, 1) := by decide +kernel
theorem dX7_perform_1 : decode cX7_perform 1 = .ok (.aload_n 2, 1) := by decide +kernel
theorem dX7_perform_2 : decode cX7_perform 2 = .ok (.putfield 31, 3) := by decide +kernel
theorem dX7_perform_5 : decode cX7_perform 5 = .ok (.aload_n 0, 1) := by decide +kernel
theorem dX7_perform_6 : decode cX7_perform 6 = .ok (.iload_n 3, 1) := by decide +kernel
theorem dX7_perform_7 : decode cX7_perform 7 = .ok (.putfield 42, 3) := by decide +kernel
theorem dX7_perform_10 : decode cX7_perform 10 = .ok (.aload_n 0, 1) := by decide +kernel
theorem dX7_perform_11 : decode cX7_perform 11 = .ok (.iconst 0, 1) := by decide +kernel
theorem dX7_perform_12 : decode cX7_perform 12 = .ok (.putfield 39, 3) := by decide +kernel
theorem dX7_perform_15 : decode cX7_perform 15 = .ok (.aload_n 0, 1) := by decide +kernel
theorem dX7_perform_16 : decode cX7_perform 16 = .ok (.iconst 0, 1) := by decide +kernel
theorem dX7_perform_17 : decode cX7_perform 17 = .ok (.putfield 45, 3) := by decide +kernel
theorem dX7_perform_20 : decode cX7_perform 20 = .ok (.aload_n 0, 1) := by decide +kernel
theorem dX7_perform_21 : decode cX7_perform 21 = .ok (.iconst 0, 1) := by decide +kernel
theorem dX7_perform_22 : decode cX7_perform 22 = .ok (.putfield 35, 3) := by decide +kernel
theorem dX7_perform_25 : decode cX7_perform 25 = .ok (.aload_n 0, 1) := by decide +kernel
theorem dX7_perform_26 : decode cX7_perform 26 = .ok (.getfield 12, 3) := by decide +kernel
theorem dX7_perform_29 : decode cX7_perform 29 = .ok (.invokevirtual 48, 3) := by decide +kernel
theorem dX7_perform_32 : decode cX7_perform 32 = .ok (.iconst 0, 1) := by decide +kernel
theorem dX7_perform_33 : decode cX7_perform 33 = .ok (.istore 4, 2) := by decide +kernel
theorem dX7_perform_35 : decode cX7_perform 35 = .ok (.iload 4, 2) := by decide +kernel
theorem dX7_perform_37 : decode cX7_perform 37 = .ok (.aload_n 0, 1) := by decide +kernel
theorem dX7_perform_38 : decode cX7_perform 38 = .ok (.getfield 18, 3) := by decide +kernel
theorem dX7_perform_41 : decode cX7_perform 41 = .ok (.arraylength, 1) := by decide +kernel
theorem dX7_perform_42 : decode cX7_perform 42 = .ok (.if_icmp .ge 17, 3) := by decide +kernel
theorem dX7_perform_45 : decode cX7_perform 45 = .ok (.aload_n 0, 1) := by decide +kernel
theorem dX7_perform_46 : decode cX7_perform 46 = .ok (.getfield 18, 3) := by decide +kernel
theorem dX7_perform_49 : decode cX7_perform 49 = .ok (.iload 4, 2) := by decide +kernel
theorem dX7_perform_51 : decode cX7_perform 51 = .ok (.iconst 0, 1) := by decide +kernel
theorem dX7_perform_52 : decode cX7_perform 52 = .ok (.iastore, 1) := by decide +kernel
theorem dX7_perform_53 : decode cX7_perform 53 = .ok (.iinc 4 1, 3) := by decide +kernel
theorem dX7_perform_56 : decode cX7_perform 56 = .ok (.goto (-21), 3) := by decide +kernel
theorem dX7_perform_59 : decode cX7_perform 59 = .ok (.iconst 0, 1) := by decide +kernel
theorem dX7_perform_60 : decode cX7_perform 60 = .ok (.istore 4, 2) := by decide +kernel
theorem dX7_perform_62 : decode cX7_perform 62 = .ok (.iconst 0, 1) := by decide +kernel
theorem dX7_perform_63 : decode cX7_perform 63 = .ok (.istore 5, 2) := by decide +kernel
theorem dX7_perform_65 : decode cX7_perform 65 = .ok (.iload 5, 2) := by decide +kernel
theorem dX7_perform_67 : decode cX7_perform 67 = .ok (.ldc 51, 2) := by decide +kernel
theorem dX7_perform_69 : decode cX7_perform 69 = .ok (.if_icmp .ge 32, 3) := by decide +kernel
theorem dX7_perform_72 : decode cX7_perform 72 = .ok (.iload 4, 2) := by decide +kernel
theorem dX7_perform_74 : decode cX7_perform 74 = .ok (.ifCond .lt 27, 3) := by decide +kernel
theorem dX7_perform_77 : decode cX7_perform 77 = .ok (.iload 4, 2) := by decide +kernel
theorem dX7_perform_79 : decode cX7_perform 79 = .ok (.aload_n 1, 1) := by decide +kernel
theorem dX7_perform_80 : decode cX7_perform 80 = .ok (.invokevirtual 52, 3) := by decide +kernel
theorem dX7_perform_83 : decode cX7_perform 83 = .ok (.if_icmp .ge 18, 3) := by decide +kernel
theorem dX7_perform_86 : decode cX7_perform 86 = .ok (.aload_n 0, 1) := by decide +kernel
theorem dX7_perform_87 : decode cX7_perform 87 = .ok (.aload_n 1, 1) := by decide +kernel
theorem dX7_perform_88 : decode cX7_perform 88 = .ok (.iload 4, 2) := by decide +kernel
theorem dX7_perform_90 : decode cX7_perform 90 = .ok (.invokevirtual 58, 3) := by decide +kernel
theorem dX7_perform_93 : decode cX7_perform 93 = .ok (.istore 4, 2) := by decide +kernel
theorem dX7_perform_95 : decode cX7_perform 95 = .ok (.iinc 5 1, 3) := by decide +kernel
theorem dX7_perform_98 : decode cX7_perform 98 = .ok (.goto (-33), 3) := by decide +kernel
theorem dX7_perform_101 : decode cX7_perform 101 = .ok (.return_, 1) := by decide +kernel
theorem dX7_follow_0 : decode cX7_follow 0 = .ok (.aload_n 1, 1) := by decide +kernel
theorem dX7_follow_1 : decode cX7_follow 1 = .ok (.iload_n 2, 1) := by decide +kernel
theorem dX7_follow_2 : decode cX7_follow 2 = .ok (.invokevirtual 62, 3) := by decide +kernel
theorem dX7_follow_5 : decode cX7_follow 5 = .ok (.astore_n 3, 1) := by decide +kernel
theorem dX7_follow_6 : decode cX7_follow 6 = .ok (.aload_n 3, 1) := by decide +kernel
theorem dX7_follow_7 : decode cX7_follow 7 = .ok (.ifnonnull 5, 3) := by decide +kernel
theorem dX7_follow_10 : decode cX7_follow 10 = .ok (.iconst (-1), 1) := by decide +kernel
theorem dX7_follow_11 : decode cX7_follow 11 = .ok (.ireturn, 1) := by decide +kernel
theorem dX7_follow_12 : decode cX7_follow 12 = .ok (.aload_n 3, 1) := by decide +kernel
theorem dX7_follow_13 : decode cX7_follow 13 = .ok (.getfield 66, 3) := by decide +kernel
theorem dX7_follow_16 : decode cX7_follow 16 = .ok (.bipush 6, 2) := by decide +kernel
theorem dX7_follow_18 : decode cX7_follow 18 = .ok (.if_icmp .ne 11, 3) := by decide +kernel
theorem dX7_follow_21 : decode cX7_follow 21 = .ok (.aload_n 1, 1) := by decide +kernel
theorem dX7_follow_22 : decode cX7_follow 22 = .ok (.iload_n 2, 1) := by decide +kernel
theorem dX7_follow_23 : decode cX7_follow 23 = .ok (.invokevirtual 71, 3) := by decide +kernel
theorem dX7_follow_26 : decode cX7_follow 26 = .ok (.iconst 1, 1) := by decide +kernel
theorem dX7_follow_27 : decode cX7_follow 27 = .ok (.iadd, 1) := by decide +kernel
theorem dX7_follow_28 : decode cX7_follow 28 = .ok (.ireturn, 1) := by decide +kernel
theorem dX7_follow_29 : decode cX7_follow 29 = .ok (.aload_n 3, 1) := by decide +kernel
theorem dX7_follow_30 : decode cX7_follow 30 = .ok (.getfield 66, 3) := by decide +kernel
theorem dX7_follow_33 : decode cX7_follow 33 = .ok (.bipush 8, 2) := by decide +kernel
theorem dX7_follow_35 : decode cX7_follow 35 = .ok (.if_icmp .ne 10, 3) := by decide +kernel
theorem dX7_follow_38 : decode cX7_follow 38 = .ok (.aload_n 0, 1) := by decide +kernel
theorem dX7_follow_39 : decode cX7_follow 39 = .ok (.aload_n 1, 1) := by decide +kernel
theorem dX7_follow_40 : decode cX7_follow 40 = .ok (.iload_n 2, 1) := by decide +kernel
theorem dX7_follow_41 : decode cX7_follow 41 = .ok (.invokevirtual 75, 3) := by decide +kernel
theorem dX7_follow_44 : decode cX7_follow 44 = .ok (.ireturn, 1) := by decide +kernel
theorem dX7_follow_45 : decode cX7_follow 45 = .ok (.aload_n 0, 1) := by decide +kernel
theorem dX7_follow_46 : decode cX7_follow 46 = .ok (.invokevirtual 78, 3) := by decide +kernel
theorem dX7_follow_49 : decode cX7_follow 49 = .ok (.ifCond .ne 5, 3) := by decide +kernel
theorem dX7_follow_52 : decode cX7_follow 52 = .ok (.iconst (-1), 1) := by decide +kernel
theorem dX7_follow_53 : decode cX7_follow 53 = .ok (.ireturn, 1) := by decide +kernel
theorem dX7_follow_54 : decode cX7_follow 54 = .ok (.aload_n 0, 1) := by decide +kernel
theorem dX7_follow_55 : decode cX7_follow 55 = .ok (.dup, 1) := by decide +kernel
theorem dX7_follow_56 : decode cX7_follow 56 = .ok (.getfield 39, 3) := by decide +kernel
theorem dX7_follow_59 : decode cX7_follow 59 = .ok (.iconst 1, 1) := by decide +kernel
theorem dX7_follow_60 : decode cX7_follow 60 = .ok (.iadd, 1) := by decide +kernel
theorem dX7_follow_61 : decode cX7_follow 61 = .ok (.putfield 39, 3) := by decide +kernel
theorem dX7_follow_64 : decode cX7_follow 64 = .ok (.aload_n 0, 1) := by decide +kernel
theorem dX7_follow_65 : decode cX7_follow 65 = .ok (.aload_n 3, 1) := by decide +kernel
theorem dX7_follow_66 : decode cX7_follow 66 = .ok (.invokevirtual 82, 3) := by decide +kernel
theorem dX7_follow_69 : decode cX7_follow 69 = .ok (.istore 4, 2) := by decide +kernel
theorem dX7_follow_71 : decode cX7_follow 71 = .ok (.aload_n 3, 1) := by decide +kernel
theorem dX7_follow_72 : decode cX7_follow 72 = .ok (.getfield 66, 3) := by decide +kernel
theorem dX7_follow_75 : decode cX7_follow 75 = .ok (.tableswitch 168 0 7 #[45, 62, 75, 97, 118, 148, 168, 157], 45) := by decide +kernel
theorem dX7_follow_120 : decode cX7_follow 120 = .ok (.aload_n 0, 1) := by decide +kernel
theorem dX7_follow_121 : decode cX7_follow 121 = .ok (.iload 4, 2) := by decide +kernel
theorem dX7_follow_123 : decode cX7_follow 123 = .ok (.invokevirtual 86, 3) := by decide +kernel
theorem dX7_follow_126 : decode cX7_follow 126 = .ok (.ifCond .eq 9, 3) := by decide +kernel
theorem dX7_follow_129 : decode cX7_follow 129 = .ok (.iload_n 2, 1) := by decide +kernel
theorem dX7_follow_130 : decode cX7_follow 130 = .ok (.iconst 1, 1) := by decide +kernel
theorem dX7_follow_131 : decode cX7_follow 131 = .ok (.iadd, 1) := by decide +kernel
theorem dX7_follow_132 : decode cX7_follow 132 = .ok (.goto 4, 3) := by decide +kernel
theorem dX7_follow_135 : decode cX7_follow 135 = .ok (.iconst (-1), 1) := by decide +kernel
theorem dX7_follow_136 : decode cX7_follow 136 = .ok (.ireturn, 1) := by decide +kernel
theorem dX7_follow_137 : decode cX7_follow 137 = .ok (.aload_n 0, 1) := by decide +kernel
theorem dX7_follow_138 : decode cX7_follow 138 = .ok (.getfield 12, 3) := by decide +kernel
theorem dX7_follow_141 : decode cX7_follow 141 = .ok (.iload 4, 2) := by decide +kernel
theorem dX7_follow_143 : decode cX7_follow 143 = .ok (.invokevirtual 90, 3) := by decide +kernel
theorem dX7_follow_146 : decode cX7_follow 146 = .ok (.iload_n 2, 1) := by decide +kernel
theorem dX7_follow_147 : decode cX7_follow 147 = .ok (.iconst 1, 1) := by decide +kernel
theorem dX7_follow_148 : decode cX7_follow 148 = .ok (.iadd, 1) := by decide +kernel
theorem dX7_follow_149 : decode cX7_follow 149 = .ok (.ireturn, 1) := by decide +kernel
theorem dX7_follow_150 : decode cX7_follow 150 = .ok (.aload_n 0, 1) := by decide +kernel
theorem dX7_follow_151 : decode cX7_follow 151 = .ok (.getfield 12, 3) := by decide +kernel
theorem dX7_follow_154 : decode cX7_follow 154 = .ok (.iload 4, 2) := by decide +kernel
theorem dX7_follow_156 : decode cX7_follow 156 = .ok (.iconst 1, 1) := by decide +kernel
theorem dX7_follow_157 : decode cX7_follow 157 = .ok (.if_icmp .ne 7, 3) := by decide +kernel
theorem dX7_follow_160 : decode cX7_follow 160 = .ok (.iconst 1, 1) := by decide +kernel
theorem dX7_follow_161 : decode cX7_follow 161 = .ok (.goto 4, 3) := by decide +kernel
theorem dX7_follow_164 : decode cX7_follow 164 = .ok (.iconst 0, 1) := by decide +kernel
theorem dX7_follow_165 : decode cX7_follow 165 = .ok (.invokevirtual 94, 3) := by decide +kernel
theorem dX7_follow_168 : decode cX7_follow 168 = .ok (.iload_n 2, 1) := by decide +kernel
theorem dX7_follow_169 : decode cX7_follow 169 = .ok (.iconst 1, 1) := by decide +kernel
theorem dX7_follow_170 : decode cX7_follow 170 = .ok (.iadd, 1) := by decide +kernel
theorem dX7_follow_171 : decode cX7_follow 171 = .ok (.ireturn, 1) := by decide +kernel
theorem dX7_follow_172 : decode cX7_follow 172 = .ok (.aload_n 0, 1) := by decide +kernel
theorem dX7_follow_173 : decode cX7_follow 173 = .ok (.aload_n 3, 1) := by decide +kernel
theorem dX7_follow_174 : decode cX7_follow 174 = .ok (.getfield 98, 3) := by decide +kernel
theorem dX7_follow_177 : decode cX7_follow 177 = .ok (.iload 4, 2) := by decide +kernel
theorem dX7_follow_179 : decode cX7_follow 179 = .ok (.invokevirtual 101, 3) := by decide +kernel
theorem dX7_follow_182 : decode cX7_follow 182 = .ok (.ifCond .eq 9, 3) := by decide +kernel
theorem dX7_follow_185 : decode cX7_follow 185 = .ok (.iload_n 2, 1) := by decide +kernel
theorem dX7_follow_186 : decode cX7_follow 186 = .ok (.iconst 1, 1) := by decide +kernel
theorem dX7_follow_187 : decode cX7_follow 187 = .ok (.iadd, 1) := by decide +kernel
theorem dX7_follow_188 : decode cX7_follow 188 = .ok (.goto 4, 3) := by decide +kernel
theorem dX7_follow_191 : decode cX7_follow 191 = .ok (.iconst (-1), 1) := by decide +kernel
theorem dX7_follow_192 : decode cX7_follow 192 = .ok (.ireturn, 1) := by decide +kernel
theorem dX7_follow_193 : decode cX7_follow 193 = .ok (.aload_n 0, 1) := by decide +kernel
theorem dX7_follow_194 : decode cX7_follow 194 = .ok (.aload_n 3, 1) := by decide +kernel
theorem dX7_follow_195 : decode cX7_follow 195 = .ok (.getfield 98, 3) := by decide +kernel
theorem dX7_follow_198 : decode cX7_follow 198 = .ok (.aload_n 0, 1) := by decide +kernel
theorem dX7_follow_199 : decode cX7_follow 199 = .ok (.aload_n 3, 1) := by decide +kernel
theorem dX7_follow_200 : decode cX7_follow 200 = .ok (.getfield 98, 3) := by decide +kernel
theorem dX7_follow_203 : decode cX7_follow 203 = .ok (.invokevirtual 105, 3) := by decide +kernel
theorem dX7_follow_206 : decode cX7_follow 206 = .ok (.iload 4, 2) := by decide +kernel
theorem dX7_follow_208 : decode cX7_follow 208 = .ok (.iadd, 1) := by decide +kernel
theorem dX7_follow_209 : decode cX7_follow 209 = .ok (.invokevirtual 101, 3) := by decide +kernel
theorem dX7_follow_212 : decode cX7_follow 212 = .ok (.ifCond .eq 9, 3) := by decide +kernel
theorem dX7_follow_215 : decode cX7_follow 215 = .ok (.iload_n 2, 1) := by decide +kernel
theorem dX7_follow_216 : decode cX7_follow 216 = .ok (.iconst 1, 1) := by decide +kernel
theorem dX7_follow_217 : decode cX7_follow 217 = .ok (.iadd, 1) := by decide +kernel
theorem dX7_follow_218 : decode cX7_follow 218 = .ok (.goto 4, 3) := by decide +kernel
theorem dX7_follow_221 : decode cX7_follow 221 = .ok (.iconst (-1), 1) := by decide +kernel
theorem dX7_follow_222 : decode cX7_follow 222 = .ok (.ireturn, 1) := by decide +kernel
theorem dX7_follow_223 : decode cX7_follow 223 = .ok (.aload_n 0, 1) := by decide +kernel
theorem dX7_follow_224 : decode cX7_follow 224 = .ok (.aload_n 1, 1) := by decide +kernel
theorem dX7_follow_225 : decode cX7_follow 225 = .ok (.iload_n 2, 1) := by decide +kernel
theorem dX7_follow_226 : decode cX7_follow 226 = .ok (.iload 4, 2) := by decide +kernel
theorem dX7_follow_228 : decode cX7_follow 228 = .ok (.invokevirtual 108, 3) := by decide +kernel
theorem dX7_follow_231 : decode cX7_follow 231 = .ok (.ireturn, 1) := by decide +kernel
theorem dX7_follow_232 : decode cX7_follow 232 = .ok (.aload_n 0, 1) := by decide +kernel
theorem dX7_follow_233 : decode cX7_follow 233 = .ok (.aload_n 1, 1) := by decide +kernel
theorem dX7_follow_234 : decode cX7_follow 234 = .ok (.iload_n 2, 1) := by decide +kernel
theorem dX7_follow_235 : decode cX7_follow 235 = .ok (.aload_n 3, 1) := by decide +kernel
theorem dX7_follow_236 : decode cX7_follow 236 = .ok (.getfield 98, 3) := by decide +kernel
theorem dX7_follow_239 : decode cX7_follow 239 = .ok (.invokevirtual 112, 3) := by decide +kernel
theorem dX7_follow_242 : decode cX7_follow 242 = .ok (.ireturn, 1) := by decide +kernel
theorem dX7_follow_243 : decode cX7_follow 243 = .ok (.iconst (-1), 1) := by decide +kernel
theorem dX7_follow_244 : decode cX7_follow 244 = .ok (.ireturn, 1) := by decide +kernel
theorem dX7_canCount_0 : decode cX7_canCount 0 = .ok (.aload_n 0, 1) := by decide +kernel
theorem dX7_canCount_1 : decode cX7_canCount 1 = .ok (.getfield 39, 3) := by decide +kernel
theorem dX7_canCount_4 : decode cX7_canCount 4 = .ok (.aload_n 0, 1) := by decide +kernel
theorem dX7_canCount_5 : decode cX7_canCount 5 = .ok (.getfield 42, 3) := by decide +kernel
theorem dX7_canCount_8 : decode cX7_canCount 8 = .ok (.if_icmp .lt 10, 3) := by decide +kernel
theorem dX7_canCount_11 : decode cX7_canCount 11 = .ok (.aload_n 0, 1) := by decide +kernel
theorem dX7_canCount_12 : decode cX7_canCount 12 = .ok (.iconst 1, 1) := by decide +kernel
theorem dX7_canCount_13 : decode cX7_canCount 13 = .ok (.putfield 35, 3) := by decide +kernel
theorem dX7_canCount_16 : decode cX7_canCount 16 = .ok (.iconst 0, 1) := by decide +kernel
theorem dX7_canCount_17 : decode cX7_canCount 17 = .ok (.ireturn, 1) := by decide +kernel
theorem dX7_canCount_18 : decode cX7_canCount 18 = .ok (.iconst 1, 1) := by decide +kernel
theorem dX7_canCount_19 : decode cX7_canCount 19 = .ok (.ireturn, 1) := by decide +kernel
theorem dX7_valueOf_0 : decode cX7_valueOf 0 = .ok (.aload_n 1, 1) := by decide +kernel
theorem dX7_valueOf_1 : decode cX7_valueOf 1 = .ok (.getfield 115, 3) := by decide +kernel
theorem dX7_valueOf_4 : decode cX7_valueOf 4 = .ok (.ifCond .eq 14, 3) := by decide +kernel
theorem dX7_valueOf_7 : decode cX7_valueOf 7 = .ok (.aload_n 0, 1) := by decide +kernel
theorem dX7_valueOf_8 : decode cX7_valueOf 8 = .ok (.aload_n 1, 1) := by decide +kernel
theorem dX7_valueOf_9 : decode cX7_valueOf 9 = .ok (.getfield 119, 3) := by decide +kernel
theorem dX7_valueOf_12 : decode cX7_valueOf 12 = .ok (.invokevirtual 105, 3) := by decide +kernel
theorem dX7_valueOf_15 : decode cX7_valueOf 15 = .ok (.goto 7, 3) := by decide +kernel
theorem dX7_valueOf_18 : decode cX7_valueOf 18 = .ok (.aload_n 1, 1) := by decide +kernel
theorem dX7_valueOf_19 : decode cX7_valueOf 19 = .ok (.getfield 119, 3) := by decide +kernel
theorem dX7_valueOf_22 : decode cX7_valueOf 22 = .ok (.ireturn, 1) := by decide +kernel
theorem dX7_nameAt_0 : decode cX7_nameAt 0 = .ok (.iload_n 1, 1) := by decide +kernel
theorem dX7_nameAt_1 : decode cX7_nameAt 1 = .ok (.ifCond .lt 21, 3) := by decide +kernel
theorem dX7_nameAt_4 : decode cX7_nameAt 4 = .ok (.iload_n 1, 1) := by decide +kernel
theorem dX7_nameAt_5 : decode cX7_nameAt 5 = .ok (.aload_n 0, 1) := by decide +kernel
theorem dX7_nameAt_6 : decode cX7_nameAt 6 = .ok (.getfield 18, 3) := by decide +kernel
theorem dX7_nameAt_9 : decode cX7_nameAt 9 = .ok (.arraylength, 1) := by decide +kernel
theorem dX7_nameAt_10 : decode cX7_nameAt 10 = .ok (.if_icmp .ge 12, 3) := by decide +kernel
theorem dX7_nameAt_13 : decode cX7_nameAt 13 = .ok (.aload_n 0, 1) := by decide +kernel
theorem dX7_nameAt_14 : decode cX7_nameAt 14 = .ok (.getfield 18, 3) := by decide +kernel
theorem dX7_nameAt_17 : decode cX7_nameAt 17 = .ok (.iload_n 1, 1) := by decide +kernel
theorem dX7_nameAt_18 : decode cX7_nameAt 18 = .ok (.iaload, 1) := by decide +kernel
theorem dX7_nameAt_19 : decode cX7_nameAt 19 = .ok (.goto 4, 3) := by decide +kernel
theorem dX7_nameAt_22 : decode cX7_nameAt 22 = .ok (.iconst 0, 1) := by decide +kernel
theorem dX7_nameAt_23 : decode cX7_nameAt 23 = .ok (.ireturn, 1) := by decide +kernel
theorem dX7_putName_0 : decode cX7_putName 0 = .ok (.iload_n 2, 1) := by decide +kernel
theorem dX7_putName_1 : decode cX7_putName 1 = .ok (.sipush 999, 3) := by decide +kernel
theorem dX7_putName_4 : decode cX7_putName 4 = .ok (.if_icmp .gt 10, 3) := by decide +kernel
theorem dX7_putName_7 : decode cX7_putName 7 = .ok (.iload_n 2, 1) := by decide +kernel
theorem dX7_putName_8 : decode cX7_putName 8 = .ok (.sipush (-999), 3) := by decide +kernel
theorem dX7_putName_11 : decode cX7_putName 11 = .ok (.if_icmp .ge 10, 3) := by decide +kernel
theorem dX7_putName_14 : decode cX7_putName 14 = .ok (.aload_n 0, 1) := by decide +kernel
theorem dX7_putName_15 : decode cX7_putName 15 = .ok (.iconst 3, 1) := by decide +kernel
theorem dX7_putName_16 : decode cX7_putName 16 = .ok (.putfield 35, 3) := by decide +kernel
theorem dX7_putName_19 : decode cX7_putName 19 = .ok (.iconst 0, 1) := by decide +kernel
theorem dX7_putName_20 : decode cX7_putName 20 = .ok (.ireturn, 1) := by decide +kernel
theorem dX7_putName_21 : decode cX7_putName 21 = .ok (.iload_n 1, 1) := by decide +kernel
theorem dX7_putName_22 : decode cX7_putName 22 = .ok (.ifCond .lt 19, 3) := by decide +kernel
theorem dX7_putName_25 : decode cX7_putName 25 = .ok (.iload_n 1, 1) := by decide +kernel
theorem dX7_putName_26 : decode cX7_putName 26 = .ok (.aload_n 0, 1) := by decide +kernel
theorem dX7_putName_27 : decode cX7_putName 27 = .ok (.getfield 18, 3) := by decide +kernel
theorem dX7_putName_30 : decode cX7_putName 30 = .ok (.arraylength, 1) := by decide +kernel
theorem dX7_putName_31 : decode cX7_putName 31 = .ok (.if_icmp .ge 10, 3) := by decide +kernel
theorem dX7_putName_34 : decode cX7_putName 34 = .ok (.aload_n 0, 1) := by decide +kernel
theorem dX7_putName_35 : decode cX7_putName 35 = .ok (.getfield 18, 3) := by decide +kernel
theorem dX7_putName_38 : decode cX7_putName 38 = .ok (.iload_n 1, 1) := by decide +kernel
theorem dX7_putName_39 : decode cX7_putName 39 = .ok (.iload_n 2, 1) := by decide +kernel
theorem dX7_putName_40 : decode cX7_putName 40 = .ok (.iastore, 1) := by decide +kernel
theorem dX7_putName_41 : decode cX7_putName 41 = .ok (.iconst 1, 1) := by decide +kernel
theorem dX7_putName_42 : decode cX7_putName 42 = .ok (.ireturn, 1) := by decide +kernel
theorem dX7_goForward_0 : decode cX7_goForward 0 = .ok (.iload_n 1, 1) := by decide +kernel
theorem dX7_goForward_1 : decode cX7_goForward 1 = .ok (.ifCond .ge 10, 3) := by decide +kernel
theorem dX7_goForward_4 : decode cX7_goForward 4 = .ok (.aload_n 0, 1) := by decide +kernel
theorem dX7_goForward_5 : decode cX7_goForward 5 = .ok (.iconst 3, 1) := by decide +kernel
theorem dX7_goForward_6 : decode cX7_goForward 6 = .ok (.putfield 35, 3) := by decide +kernel
theorem dX7_goForward_9 : decode cX7_goForward 9 = .ok (.iconst 0, 1) := by decide +kernel
theorem dX7_goForward_10 : decode cX7_goForward 10 = .ok (.ireturn, 1) := by decide +kernel
theorem dX7_goForward_11 : decode cX7_goForward 11 = .ok (.iconst 0, 1) := by decide +kernel
theorem dX7_goForward_12 : decode cX7_goForward 12 = .ok (.istore_n 2, 1) := by decide +kernel
theorem dX7_goForward_13 : decode cX7_goForward 13 = .ok (.iload_n 2, 1) := by decide +kernel
theorem dX7_goForward_14 : decode cX7_goForward 14 = .ok (.iload_n 1, 1) := by decide +kernel
theorem dX7_goForward_15 : decode cX7_goForward 15 = .ok (.if_icmp .ge 56, 3) := by decide +kernel
theorem dX7_goForward_18 : decode cX7_goForward 18 = .ok (.aload_n 0, 1) := by decide +kernel
theorem dX7_goForward_19 : decode cX7_goForward 19 = .ok (.invokevirtual 78, 3) := by decide +kernel
theorem dX7_goForward_22 : decode cX7_goForward 22 = .ok (.ifCond .ne 5, 3) := by decide +kernel
theorem dX7_goForward_25 : decode cX7_goForward 25 = .ok (.iconst 0, 1) := by decide +kernel
theorem dX7_goForward_26 : decode cX7_goForward 26 = .ok (.ireturn, 1) := by decide +kernel
theorem dX7_goForward_27 : decode cX7_goForward 27 = .ok (.aload_n 0, 1) := by decide +kernel
theorem dX7_goForward_28 : decode cX7_goForward 28 = .ok (.getfield 12, 3) := by decide +kernel
theorem dX7_goForward_31 : decode cX7_goForward 31 = .ok (.invokevirtual 122, 3) := by decide +kernel
theorem dX7_goForward_34 : decode cX7_goForward 34 = .ok (.ifCond .ne 10, 3) := by decide +kernel
theorem dX7_goForward_37 : decode cX7_goForward 37 = .ok (.aload_n 0, 1) := by decide +kernel
theorem dX7_goForward_38 : decode cX7_goForward 38 = .ok (.iconst 2, 1) := by decide +kernel
theorem dX7_goForward_39 : decode cX7_goForward 39 = .ok (.putfield 35, 3) := by decide +kernel
theorem dX7_goForward_42 : decode cX7_goForward 42 = .ok (.iconst 0, 1) := by decide +kernel
theorem dX7_goForward_43 : decode cX7_goForward 43 = .ok (.ireturn, 1) := by decide +kernel
theorem dX7_goForward_44 : decode cX7_goForward 44 = .ok (.aload_n 0, 1) := by decide +kernel
theorem dX7_goForward_45 : decode cX7_goForward 45 = .ok (.dup, 1) := by decide +kernel
theorem dX7_goForward_46 : decode cX7_goForward 46 = .ok (.getfield 39, 3) := by decide +kernel
theorem dX7_goForward_49 : decode cX7_goForward 49 = .ok (.iconst 1, 1) := by decide +kernel
theorem dX7_goForward_50 : decode cX7_goForward 50 = .ok (.iadd, 1) := by decide +kernel
theorem dX7_goForward_51 : decode cX7_goForward 51 = .ok (.putfield 39, 3) := by decide +kernel
theorem dX7_goForward_54 : decode cX7_goForward 54 = .ok (.aload_n 0, 1) := by decide +kernel
theorem dX7_goForward_55 : decode cX7_goForward 55 = .ok (.getfield 12, 3) := by decide +kernel
theorem dX7_goForward_58 : decode cX7_goForward 58 = .ok (.aload_n 0, 1) := by decide +kernel
theorem dX7_goForward_59 : decode cX7_goForward 59 = .ok (.getfield 31, 3) := by decide +kernel
theorem dX7_goForward_62 : decode cX7_goForward 62 = .ok (.invokevirtual 125, 3) := by decide +kernel
theorem dX7_goForward_65 : decode cX7_goForward 65 = .ok (.iinc 2 1, 3) := by decide +kernel
theorem dX7_goForward_68 : decode cX7_goForward 68 = .ok (.goto (-55), 3) := by decide +kernel
theorem dX7_goForward_71 : decode cX7_goForward 71 = .ok (.iconst 1, 1) := by decide +kernel
theorem dX7_goForward_72 : decode cX7_goForward 72 = .ok (.ireturn, 1) := by decide +kernel
theorem dX7_beginRepeat_0 : decode cX7_beginRepeat 0 = .ok (.aload_n 1, 1) := by decide +kernel
theorem dX7_beginRepeat_1 : decode cX7_beginRepeat 1 = .ok (.iload_n 2, 1) := by decide +kernel
theorem dX7_beginRepeat_2 : decode cX7_beginRepeat 2 = .ok (.invokevirtual 71, 3) := by decide +kernel
theorem dX7_beginRepeat_5 : decode cX7_beginRepeat 5 = .ok (.istore 4, 2) := by decide +kernel
theorem dX7_beginRepeat_7 : decode cX7_beginRepeat 7 = .ok (.aload_n 0, 1) := by decide +kernel
theorem dX7_beginRepeat_8 : decode cX7_beginRepeat 8 = .ok (.getfield 45, 3) := by decide +kernel
theorem dX7_beginRepeat_11 : decode cX7_beginRepeat 11 = .ok (.bipush 30, 2) := by decide +kernel
theorem dX7_beginRepeat_13 : decode cX7_beginRepeat 13 = .ok (.imul, 1) := by decide +kernel
theorem dX7_beginRepeat_14 : decode cX7_beginRepeat 14 = .ok (.iload_n 2, 1) := by decide +kernel
theorem dX7_beginRepeat_15 : decode cX7_beginRepeat 15 = .ok (.iadd, 1) := by decide +kernel
theorem dX7_beginRepeat_16 : decode cX7_beginRepeat 16 = .ok (.istore 5, 2) := by decide +kernel
theorem dX7_beginRepeat_18 : decode cX7_beginRepeat 18 = .ok (.iload_n 3, 1) := by decide +kernel
theorem dX7_beginRepeat_19 : decode cX7_beginRepeat 19 = .ok (.ifCond .le 11, 3) := by decide +kernel
theorem dX7_beginRepeat_22 : decode cX7_beginRepeat 22 = .ok (.iload 4, 2) := by decide +kernel
theorem dX7_beginRepeat_24 : decode cX7_beginRepeat 24 = .ok (.iload_n 2, 1) := by decide +kernel
theorem dX7_beginRepeat_25 : decode cX7_beginRepeat 25 = .ok (.iconst 1, 1) := by decide +kernel
theorem dX7_beginRepeat_26 : decode cX7_beginRepeat 26 = .ok (.iadd, 1) := by decide +kernel
theorem dX7_beginRepeat_27 : decode cX7_beginRepeat 27 = .ok (.if_icmp .ne 7, 3) := by decide +kernel
theorem dX7_beginRepeat_30 : decode cX7_beginRepeat 30 = .ok (.iconst 1, 1) := by decide +kernel
theorem dX7_beginRepeat_31 : decode cX7_beginRepeat 31 = .ok (.goto 4, 3) := by decide +kernel
theorem dX7_beginRepeat_34 : decode cX7_beginRepeat 34 = .ok (.iconst 0, 1) := by decide +kernel
theorem dX7_beginRepeat_35 : decode cX7_beginRepeat 35 = .ok (.istore 6, 2) := by decide +kernel
theorem dX7_beginRepeat_37 : decode cX7_beginRepeat 37 = .ok (.iload 6, 2) := by decide +kernel
theorem dX7_beginRepeat_39 : decode cX7_beginRepeat 39 = .ok (.ifCond .ne 18, 3) := by decide +kernel
theorem dX7_beginRepeat_42 : decode cX7_beginRepeat 42 = .ok (.iload 5, 2) := by decide +kernel
theorem dX7_beginRepeat_44 : decode cX7_beginRepeat 44 = .ok (.ifCond .lt 13, 3) := by decide +kernel
theorem dX7_beginRepeat_47 : decode cX7_beginRepeat 47 = .ok (.iload 5, 2) := by decide +kernel
theorem dX7_beginRepeat_49 : decode cX7_beginRepeat 49 = .ok (.aload_n 0, 1) := by decide +kernel
theorem dX7_beginRepeat_50 : decode cX7_beginRepeat 50 = .ok (.getfield 22, 3) := by decide +kernel
theorem dX7_beginRepeat_53 : decode cX7_beginRepeat 53 = .ok (.arraylength, 1) := by decide +kernel
theorem dX7_beginRepeat_54 : decode cX7_beginRepeat 54 = .ok (.if_icmp .lt 8, 3) := by decide +kernel
theorem dX7_beginRepeat_57 : decode cX7_beginRepeat 57 = .ok (.iload 4, 2) := by decide +kernel
theorem dX7_beginRepeat_59 : decode cX7_beginRepeat 59 = .ok (.iconst 1, 1) := by decide +kernel
theorem dX7_beginRepeat_60 : decode cX7_beginRepeat 60 = .ok (.iadd, 1) := by decide +kernel
theorem dX7_beginRepeat_61 : decode cX7_beginRepeat 61 = .ok (.ireturn, 1) := by decide +kernel
theorem dX7_beginRepeat_62 : decode cX7_beginRepeat 62 = .ok (.aload_n 0, 1) := by decide +kernel
theorem dX7_beginRepeat_63 : decode cX7_beginRepeat 63 = .ok (.getfield 22, 3) := by decide +kernel
theorem dX7_beginRepeat_66 : decode cX7_beginRepeat 66 = .ok (.iload 5, 2) := by decide +kernel
theorem dX7_beginRepeat_68 : decode cX7_beginRepeat 68 = .ok (.iload_n 3, 1) := by decide +kernel
theorem dX7_beginRepeat_69 : decode cX7_beginRepeat 69 = .ok (.iastore, 1) := by decide +kernel
theorem dX7_beginRepeat_70 : decode cX7_beginRepeat 70 = .ok (.iload_n 2, 1) := by decide +kernel
theorem dX7_beginRepeat_71 : decode cX7_beginRepeat 71 = .ok (.iconst 1, 1) := by decide +kernel
theorem dX7_beginRepeat_72 : decode cX7_beginRepeat 72 = .ok (.iadd, 1) := by decide +kernel
theorem dX7_beginRepeat_73 : decode cX7_beginRepeat 73 = .ok (.ireturn, 1) := by decide +kernel
theorem dX7_enterWord_0 : decode cX7_enterWord 0 = .ok (.aload_n 1, 1) := by decide +kernel
theorem dX7_enterWord_1 : decode cX7_enterWord 1 = .ok (.iload_n 3, 1) := by decide +kernel
theorem dX7_enterWord_2 : decode cX7_enterWord 2 = .ok (.invokevirtual 129, 3) := by decide +kernel
theorem dX7_enterWord_5 : decode cX7_enterWord 5 = .ok (.istore 4, 2) := by decide +kernel
theorem dX7_enterWord_7 : decode cX7_enterWord 7 = .ok (.iload 4, 2) := by decide +kernel
theorem dX7_enterWord_9 : decode cX7_enterWord 9 = .ok (.iconst (-1), 1) := by decide +kernel
theorem dX7_enterWord_10 : decode cX7_enterWord 10 = .ok (.if_icmp .ne 10, 3) := by decide +kernel
theorem dX7_enterWord_13 : decode cX7_enterWord 13 = .ok (.aload_n 0, 1) := by decide +kernel
theorem dX7_enterWord_14 : decode cX7_enterWord 14 = .ok (.iconst 5, 1) := by decide +kernel
theorem dX7_enterWord_15 : decode cX7_enterWord 15 = .ok (.putfield 35, 3) := by decide +kernel
theorem dX7_enterWord_18 : decode cX7_enterWord 18 = .ok (.iconst (-1), 1) := by decide +kernel
theorem dX7_enterWord_19 : decode cX7_enterWord 19 = .ok (.ireturn, 1) := by decide +kernel
theorem dX7_enterWord_20 : decode cX7_enterWord 20 = .ok (.aload_n 0, 1) := by decide +kernel
theorem dX7_enterWord_21 : decode cX7_enterWord 21 = .ok (.getfield 45, 3) := by decide +kernel
theorem dX7_enterWord_24 : decode cX7_enterWord 24 = .ok (.ifCond .lt 15, 3) := by decide +kernel
theorem dX7_enterWord_27 : decode cX7_enterWord 27 = .ok (.aload_n 0, 1) := by decide +kernel
theorem dX7_enterWord_28 : decode cX7_enterWord 28 = .ok (.getfield 45, 3) := by decide +kernel
theorem dX7_enterWord_31 : decode cX7_enterWord 31 = .ok (.aload_n 0, 1) := by decide +kernel
theorem dX7_enterWord_32 : decode cX7_enterWord 32 = .ok (.getfield 25, 3) := by decide +kernel
theorem dX7_enterWord_35 : decode cX7_enterWord 35 = .ok (.arraylength, 1) := by decide +kernel
theorem dX7_enterWord_36 : decode cX7_enterWord 36 = .ok (.if_icmp .lt 10, 3) := by decide +kernel
theorem dX7_enterWord_39 : decode cX7_enterWord 39 = .ok (.aload_n 0, 1) := by decide +kernel
theorem dX7_enterWord_40 : decode cX7_enterWord 40 = .ok (.iconst 4, 1) := by decide +kernel
theorem dX7_enterWord_41 : decode cX7_enterWord 41 = .ok (.putfield 35, 3) := by decide +kernel
theorem dX7_enterWord_44 : decode cX7_enterWord 44 = .ok (.iconst (-1), 1) := by decide +kernel
theorem dX7_enterWord_45 : decode cX7_enterWord 45 = .ok (.ireturn, 1) := by decide +kernel
theorem dX7_enterWord_46 : decode cX7_enterWord 46 = .ok (.aload_n 0, 1) := by decide +kernel
theorem dX7_enterWord_47 : decode cX7_enterWord 47 = .ok (.getfield 25, 3) := by decide +kernel
theorem dX7_enterWord_50 : decode cX7_enterWord 50 = .ok (.aload_n 0, 1) := by decide +kernel
theorem dX7_enterWord_51 : decode cX7_enterWord 51 = .ok (.getfield 45, 3) := by decide +kernel
theorem dX7_enterWord_54 : decode cX7_enterWord 54 = .ok (.iload_n 2, 1) := by decide +kernel
theorem dX7_enterWord_55 : decode cX7_enterWord 55 = .ok (.iastore, 1) := by decide +kernel
theorem dX7_enterWord_56 : decode cX7_enterWord 56 = .ok (.aload_n 0, 1) := by decide +kernel
theorem dX7_enterWord_57 : decode cX7_enterWord 57 = .ok (.dup, 1) := by decide +kernel
theorem dX7_enterWord_58 : decode cX7_enterWord 58 = .ok (.getfield 45, 3) := by decide +kernel
theorem dX7_enterWord_61 : decode cX7_enterWord 61 = .ok (.iconst 1, 1) := by decide +kernel
theorem dX7_enterWord_62 : decode cX7_enterWord 62 = .ok (.iadd, 1) := by decide +kernel
theorem dX7_enterWord_63 : decode cX7_enterWord 63 = .ok (.putfield 45, 3) := by decide +kernel
theorem dX7_enterWord_66 : decode cX7_enterWord 66 = .ok (.iload 4, 2) := by decide +kernel
theorem dX7_enterWord_68 : decode cX7_enterWord 68 = .ok (.iconst 1, 1) := by decide +kernel
theorem dX7_enterWord_69 : decode cX7_enterWord 69 = .ok (.iadd, 1) := by decide +kernel
theorem dX7_enterWord_70 : decode cX7_enterWord 70 = .ok (.ireturn, 1) := by decide +kernel
theorem dX7_closeBlock_0 : decode cX7_closeBlock 0 = .ok (.aload_n 1, 1) := by decide +kernel
theorem dX7_closeBlock_1 : decode cX7_closeBlock 1 = .ok (.iload_n 2, 1) := by decide +kernel
theorem dX7_closeBlock_2 : decode cX7_closeBlock 2 = .ok (.invokevirtual 71, 3) := by decide +kernel
theorem dX7_closeBlock_5 : decode cX7_closeBlock 5 = .ok (.istore_n 3, 1) := by decide +kernel
theorem dX7_closeBlock_6 : decode cX7_closeBlock 6 = .ok (.aload_n 1, 1) := by decide +kernel
theorem dX7_closeBlock_7 : decode cX7_closeBlock 7 = .ok (.iload_n 3, 1) := by decide +kernel
theorem dX7_closeBlock_8 : decode cX7_closeBlock 8 = .ok (.invokevirtual 62, 3) := by decide +kernel
theorem dX7_closeBlock_11 : decode cX7_closeBlock 11 = .ok (.astore 4, 2) := by decide +kernel
theorem dX7_closeBlock_13 : decode cX7_closeBlock 13 = .ok (.aload 4, 2) := by decide +kernel
theorem dX7_closeBlock_15 : decode cX7_closeBlock 15 = .ok (.ifnull 18, 3) := by decide +kernel
theorem dX7_closeBlock_18 : decode cX7_closeBlock 18 = .ok (.aload 4, 2) := by decide +kernel
theorem dX7_closeBlock_20 : decode cX7_closeBlock 20 = .ok (.getfield 66, 3) := by decide +kernel
theorem dX7_closeBlock_23 : decode cX7_closeBlock 23 = .ok (.bipush 6, 2) := by decide +kernel
theorem dX7_closeBlock_25 : decode cX7_closeBlock 25 = .ok (.if_icmp .ne 8, 3) := by decide +kernel
theorem dX7_closeBlock_28 : decode cX7_closeBlock 28 = .ok (.aload_n 0, 1) := by decide +kernel
theorem dX7_closeBlock_29 : decode cX7_closeBlock 29 = .ok (.invokevirtual 132, 3) := by decide +kernel
theorem dX7_closeBlock_32 : decode cX7_closeBlock 32 = .ok (.ireturn, 1) := by decide +kernel
theorem dX7_closeBlock_33 : decode cX7_closeBlock 33 = .ok (.aload_n 0, 1) := by decide +kernel
theorem dX7_closeBlock_34 : decode cX7_closeBlock 34 = .ok (.getfield 45, 3) := by decide +kernel
theorem dX7_closeBlock_37 : decode cX7_closeBlock 37 = .ok (.bipush 30, 2) := by decide +kernel
theorem dX7_closeBlock_39 : decode cX7_closeBlock 39 = .ok (.imul, 1) := by decide +kernel
theorem dX7_closeBlock_40 : decode cX7_closeBlock 40 = .ok (.iload_n 3, 1) := by decide +kernel
theorem dX7_closeBlock_41 : decode cX7_closeBlock 41 = .ok (.iadd, 1) := by decide +kernel
theorem dX7_closeBlock_42 : decode cX7_closeBlock 42 = .ok (.istore 5, 2) := by decide +kernel
theorem dX7_closeBlock_44 : decode cX7_closeBlock 44 = .ok (.iload 5, 2) := by decide +kernel
theorem dX7_closeBlock_46 : decode cX7_closeBlock 46 = .ok (.ifCond .lt 13, 3) := by decide +kernel
theorem dX7_closeBlock_49 : decode cX7_closeBlock 49 = .ok (.iload 5, 2) := by decide +kernel
theorem dX7_closeBlock_51 : decode cX7_closeBlock 51 = .ok (.aload_n 0, 1) := by decide +kernel
theorem dX7_closeBlock_52 : decode cX7_closeBlock 52 = .ok (.getfield 22, 3) := by decide +kernel
theorem dX7_closeBlock_55 : decode cX7_closeBlock 55 = .ok (.arraylength, 1) := by decide +kernel
theorem dX7_closeBlock_56 : decode cX7_closeBlock 56 = .ok (.if_icmp .lt 5, 3) := by decide +kernel
theorem dX7_closeBlock_59 : decode cX7_closeBlock 59 = .ok (.iconst (-1), 1) := by decide +kernel
theorem dX7_closeBlock_60 : decode cX7_closeBlock 60 = .ok (.ireturn, 1) := by decide +kernel
theorem dX7_closeBlock_61 : decode cX7_closeBlock 61 = .ok (.aload_n 0, 1) := by decide +kernel
theorem dX7_closeBlock_62 : decode cX7_closeBlock 62 = .ok (.getfield 22, 3) := by decide +kernel
theorem dX7_closeBlock_65 : decode cX7_closeBlock 65 = .ok (.iload 5, 2) := by decide +kernel
theorem dX7_closeBlock_67 : decode cX7_closeBlock 67 = .ok (.dup2, 1) := by decide +kernel
theorem dX7_closeBlock_68 : decode cX7_closeBlock 68 = .ok (.iaload, 1) := by decide +kernel
theorem dX7_closeBlock_69 : decode cX7_closeBlock 69 = .ok (.iconst 1, 1) := by decide +kernel
theorem dX7_closeBlock_70 : decode cX7_closeBlock 70 = .ok (.isub, 1) := by decide +kernel
theorem dX7_closeBlock_71 : decode cX7_closeBlock 71 = .ok (.iastore, 1) := by decide +kernel
theorem dX7_closeBlock_72 : decode cX7_closeBlock 72 = .ok (.aload_n 0, 1) := by decide +kernel
theorem dX7_closeBlock_73 : decode cX7_closeBlock 73 = .ok (.getfield 22, 3) := by decide +kernel
theorem dX7_closeBlock_76 : decode cX7_closeBlock 76 = .ok (.iload 5, 2) := by decide +kernel
theorem dX7_closeBlock_78 : decode cX7_closeBlock 78 = .ok (.iaload, 1) := by decide +kernel
theorem dX7_closeBlock_79 : decode cX7_closeBlock 79 = .ok (.ifCond .le 9, 3) := by decide +kernel
theorem dX7_closeBlock_82 : decode cX7_closeBlock 82 = .ok (.iload_n 3, 1) := by decide +kernel
theorem dX7_closeBlock_83 : decode cX7_closeBlock 83 = .ok (.iconst 1, 1) := by decide +kernel
theorem dX7_closeBlock_84 : decode cX7_closeBlock 84 = .ok (.iadd, 1) := by decide +kernel
theorem dX7_closeBlock_85 : decode cX7_closeBlock 85 = .ok (.goto 6, 3) := by decide +kernel
theorem dX7_closeBlock_88 : decode cX7_closeBlock 88 = .ok (.iload_n 2, 1) := by decide +kernel
theorem dX7_closeBlock_89 : decode cX7_closeBlock 89 = .ok (.iconst 1, 1) := by decide +kernel
theorem dX7_closeBlock_90 : decode cX7_closeBlock 90 = .ok (.iadd, 1) := by decide +kernel
theorem dX7_closeBlock_91 : decode cX7_closeBlock 91 = .ok (.ireturn, 1) := by decide +kernel
theorem dX7_leaveWord_0 : decode cX7_leaveWord 0 = .ok (.aload_n 0, 1) := by decide +kernel
theorem dX7_leaveWord_1 : decode cX7_leaveWord 1 = .ok (.getfield 45, 3) := by decide +kernel
theorem dX7_leaveWord_4 : decode cX7_leaveWord 4 = .ok (.iconst 1, 1) := by decide +kernel
theorem dX7_leaveWord_5 : decode cX7_leaveWord 5 = .ok (.isub, 1) := by decide +kernel
theorem dX7_leaveWord_6 : decode cX7_leaveWord 6 = .ok (.istore_n 1, 1) := by decide +kernel
theorem dX7_leaveWord_7 : decode cX7_leaveWord 7 = .ok (.iload_n 1, 1) := by decide +kernel
theorem dX7_leaveWord_8 : decode cX7_leaveWord 8 = .ok (.ifCond .lt 12, 3) := by decide +kernel
theorem dX7_leaveWord_11 : decode cX7_leaveWord 11 = .ok (.iload_n 1, 1) := by decide +kernel
theorem dX7_leaveWord_12 : decode cX7_leaveWord 12 = .ok (.aload_n 0, 1) := by decide +kernel
theorem dX7_leaveWord_13 : decode cX7_leaveWord 13 = .ok (.getfield 25, 3) := by decide +kernel
theorem dX7_leaveWord_16 : decode cX7_leaveWord 16 = .ok (.arraylength, 1) := by decide +kernel
theorem dX7_leaveWord_17 : decode cX7_leaveWord 17 = .ok (.if_icmp .lt 5, 3) := by decide +kernel
theorem dX7_leaveWord_20 : decode cX7_leaveWord 20 = .ok (.iconst (-1), 1) := by decide +kernel
theorem dX7_leaveWord_21 : decode cX7_leaveWord 21 = .ok (.ireturn, 1) := by decide +kernel
theorem dX7_leaveWord_22 : decode cX7_leaveWord 22 = .ok (.aload_n 0, 1) := by decide +kernel
theorem dX7_leaveWord_23 : decode cX7_leaveWord 23 = .ok (.iload_n 1, 1) := by decide +kernel
theorem dX7_leaveWord_24 : decode cX7_leaveWord 24 = .ok (.putfield 45, 3) := by decide +kernel
theorem dX7_leaveWord_27 : decode cX7_leaveWord 27 = .ok (.aload_n 0, 1) := by decide +kernel
theorem dX7_leaveWord_28 : decode cX7_leaveWord 28 = .ok (.getfield 25, 3) := by decide +kernel
theorem dX7_leaveWord_31 : decode cX7_leaveWord 31 = .ok (.iload_n 1, 1) := by decide +kernel
theorem dX7_leaveWord_32 : decode cX7_leaveWord 32 = .ok (.iaload, 1) := by decide +kernel
theorem dX7_leaveWord_33 : decode cX7_leaveWord 33 = .ok (.iconst 1, 1) := by decide +kernel
theorem dX7_leaveWord_34 : decode cX7_leaveWord 34 = .ok (.iadd, 1) := by decide +kernel
theorem dX7_leaveWord_35 : decode cX7_leaveWord 35 = .ok (.ireturn, 1) := by decide +kernel
theorem dX8_init_0 : decode cX8_init 0 = .ok (.aload_n 0, 1) := by decide +kernel
theorem dX8_init_1 : decode cX8_init 1 = .ok (.invokespecial 3, 3) := by decide +kernel
theorem dX8_init_4 : decode cX8_init 4 = .ok (.return_, 1) := by decide +kernel
theorem dX8_begin_0 : decode cX8_begin 0 = .ok (.aload_n 0, 1) := by decide +kernel
theorem dX8_begin_1 : decode cX8_begin 1 = .ok (.bipush 8, 2) := by decide +kernel
theorem dX8_begin_3 : decode cX8_begin 3 = .ok (.putfield 9, 3) := by decide +kernel
theorem dX8_begin_6 : decode cX8_begin 6 = .ok (.aload_n 0, 1) := by decide +kernel
theorem dX8_begin_7 : decode cX8_begin 7 = .ok (.bipush 8, 2) := by decide +kernel
theorem dX8_begin_9 : decode cX8_begin 9 = .ok (.putfield 15, 3) := by decide +kernel
theorem dX8_begin_12 : decode cX8_begin 12 = .ok (.aload_n 0, 1) := by decide +kernel
theorem dX8_begin_13 : decode cX8_begin 13 = .ok (.iconst 0, 1) := by decide +kernel
theorem dX8_begin_14 : decode cX8_begin 14 = .ok (.putfield 18, 3) := by decide +kernel
theorem dX8_begin_17 : decode cX8_begin 17 = .ok (.aload_n 0, 1) := by decide +kernel
theorem dX8_begin_18 : decode cX8_begin 18 = .ok (.iconst 1, 1) := by decide +kernel
theorem dX8_begin_19 : decode cX8_begin 19 = .ok (.putfield 21, 3) := by decide +kernel
theorem dX8_begin_22 : decode cX8_begin 22 = .ok (.return_, 1) := by decide +kernel
theorem dX8_turnBy_0 : decode cX8_turnBy 0 = .ok (.aload_n 0, 1) := by decide +kernel
theorem dX8_turnBy_1 : decode cX8_turnBy 1 = .ok (.aload_n 0, 1) := by decide +kernel
theorem dX8_turnBy_2 : decode cX8_turnBy 2 = .ok (.getfield 18, 3) := by decide +kernel
theorem dX8_turnBy_5 : decode cX8_turnBy 5 = .ok (.iload_n 1, 1) := by decide +kernel
theorem dX8_turnBy_6 : decode cX8_turnBy 6 = .ok (.iadd, 1) := by decide +kernel
theorem dX8_turnBy_7 : decode cX8_turnBy 7 = .ok (.iconst 4, 1) := by decide +kernel
theorem dX8_turnBy_8 : decode cX8_turnBy 8 = .ok (.invokestatic 25, 3) := by decide +kernel
theorem dX8_turnBy_11 : decode cX8_turnBy 11 = .ok (.putfield 18, 3) := by decide +kernel
theorem dX8_turnBy_14 : decode cX8_turnBy 14 = .ok (.return_, 1) := by decide +kernel
theorem dX8_putPen_0 : decode cX8_putPen 0 = .ok (.aload_n 0, 1) := by decide +kernel
theorem dX8_putPen_1 : decode cX8_putPen 1 = .ok (.iload_n 1, 1) := by decide +kernel
theorem dX8_putPen_2 : decode cX8_putPen 2 = .ok (.putfield 21, 3) := by decide +kernel
theorem dX8_putPen_5 : decode cX8_putPen 5 = .ok (.return_, 1) := by decide +kernel
theorem dX8_canGo_0 : decode cX8_canGo 0 = .ok (.aload_n 0, 1) := by decide +kernel
theorem dX8_canGo_1 : decode cX8_canGo 1 = .ok (.getfield 9, 3) := by decide +kernel
theorem dX8_canGo_4 : decode cX8_canGo 4 = .ok (.aload_n 0, 1) := by decide +kernel
theorem dX8_canGo_5 : decode cX8_canGo 5 = .ok (.invokevirtual 31, 3) := by decide +kernel
theorem dX8_canGo_8 : decode cX8_canGo 8 = .ok (.iadd, 1) := by decide +kernel
theorem dX8_canGo_9 : decode cX8_canGo 9 = .ok (.invokestatic 35, 3) := by decide +kernel
theorem dX8_canGo_12 : decode cX8_canGo 12 = .ok (.ifCond .eq 22, 3) := by decide +kernel
theorem dX8_canGo_15 : decode cX8_canGo 15 = .ok (.aload_n 0, 1) := by decide +kernel
theorem dX8_canGo_16 : decode cX8_canGo 16 = .ok (.getfield 15, 3) := by decide +kernel
theorem dX8_canGo_19 : decode cX8_canGo 19 = .ok (.aload_n 0, 1) := by decide +kernel
theorem dX8_canGo_20 : decode cX8_canGo 20 = .ok (.invokevirtual 39, 3) := by decide +kernel
theorem dX8_canGo_23 : decode cX8_canGo 23 = .ok (.iadd, 1) := by decide +kernel
theorem dX8_canGo_24 : decode cX8_canGo 24 = .ok (.invokestatic 35, 3) := by decide +kernel
theorem dX8_canGo_27 : decode cX8_canGo 27 = .ok (.ifCond .eq 7, 3) := by decide +kernel
theorem dX8_canGo_30 : decode cX8_canGo 30 = .ok (.iconst 1, 1) := by decide +kernel
theorem dX8_canGo_31 : decode cX8_canGo 31 = .ok (.goto 4, 3) := by decide +kernel
theorem dX8_canGo_34 : decode cX8_canGo 34 = .ok (.iconst 0, 1) := by decide +kernel
theorem dX8_canGo_35 : decode cX8_canGo 35 = .ok (.ireturn, 1) := by decide +kernel
theorem dX8_go_0 : decode cX8_go 0 = .ok (.aload_n 0, 1) := by decide +kernel
theorem dX8_go_1 : decode cX8_go 1 = .ok (.getfield 9, 3) := by decide +kernel
theorem dX8_go_4 : decode cX8_go 4 = .ok (.aload_n 0, 1) := by decide +kernel
theorem dX8_go_5 : decode cX8_go 5 = .ok (.invokevirtual 31, 3) := by decide +kernel
theorem dX8_go_8 : decode cX8_go 8 = .ok (.iadd, 1) := by decide +kernel
theorem dX8_go_9 : decode cX8_go 9 = .ok (.istore_n 2, 1) := by decide +kernel
theorem dX8_go_10 : decode cX8_go 10 = .ok (.aload_n 0, 1) := by decide +kernel
theorem dX8_go_11 : decode cX8_go 11 = .ok (.getfield 15, 3) := by decide +kernel
theorem dX8_go_14 : decode cX8_go 14 = .ok (.aload_n 0, 1) := by decide +kernel
theorem dX8_go_15 : decode cX8_go 15 = .ok (.invokevirtual 39, 3) := by decide +kernel
theorem dX8_go_18 : decode cX8_go 18 = .ok (.iadd, 1) := by decide +kernel
theorem dX8_go_19 : decode cX8_go 19 = .ok (.istore_n 3, 1) := by decide +kernel
theorem dX8_go_20 : decode cX8_go 20 = .ok (.aload_n 0, 1) := by decide +kernel
theorem dX8_go_21 : decode cX8_go 21 = .ok (.getfield 21, 3) := by decide +kernel
theorem dX8_go_24 : decode cX8_go 24 = .ok (.ifCond .eq 36, 3) := by decide +kernel
theorem dX8_go_27 : decode cX8_go 27 = .ok (.aload_n 1, 1) := by decide +kernel
theorem dX8_go_28 : decode cX8_go 28 = .ok (.aload_n 0, 1) := by decide +kernel
theorem dX8_go_29 : decode cX8_go 29 = .ok (.getfield 9, 3) := by decide +kernel
theorem dX8_go_32 : decode cX8_go 32 = .ok (.iload_n 2, 1) := by decide +kernel
theorem dX8_go_33 : decode cX8_go 33 = .ok (.invokestatic 42, 3) := by decide +kernel
theorem dX8_go_36 : decode cX8_go 36 = .ok (.aload_n 0, 1) := by decide +kernel
theorem dX8_go_37 : decode cX8_go 37 = .ok (.getfield 15, 3) := by decide +kernel
theorem dX8_go_40 : decode cX8_go 40 = .ok (.iload_n 3, 1) := by decide +kernel
theorem dX8_go_41 : decode cX8_go 41 = .ok (.invokestatic 42, 3) := by decide +kernel
theorem dX8_go_44 : decode cX8_go 44 = .ok (.aload_n 0, 1) := by decide +kernel
theorem dX8_go_45 : decode cX8_go 45 = .ok (.getfield 9, 3) := by decide +kernel
theorem dX8_go_48 : decode cX8_go 48 = .ok (.iload_n 2, 1) := by decide +kernel
theorem dX8_go_49 : decode cX8_go 49 = .ok (.if_icmp .ne 7, 3) := by decide +kernel
theorem dX8_go_52 : decode cX8_go 52 = .ok (.iconst 1, 1) := by decide +kernel
theorem dX8_go_53 : decode cX8_go 53 = .ok (.goto 4, 3) := by decide +kernel
theorem dX8_go_56 : decode cX8_go 56 = .ok (.iconst 0, 1) := by decide +kernel
theorem dX8_go_57 : decode cX8_go 57 = .ok (.invokevirtual 45, 3) := by decide +kernel
theorem dX8_go_60 : decode cX8_go 60 = .ok (.aload_n 0, 1) := by decide +kernel
theorem dX8_go_61 : decode cX8_go 61 = .ok (.iload_n 2, 1) := by decide +kernel
theorem dX8_go_62 : decode cX8_go 62 = .ok (.putfield 9, 3) := by decide +kernel
theorem dX8_go_65 : decode cX8_go 65 = .ok (.aload_n 0, 1) := by decide +kernel
theorem dX8_go_66 : decode cX8_go 66 = .ok (.iload_n 3, 1) := by decide +kernel
theorem dX8_go_67 : decode cX8_go 67 = .ok (.putfield 15, 3) := by decide +kernel
theorem dX8_go_70 : decode cX8_go 70 = .ok (.return_, 1) := by decide +kernel
theorem dX8_aheadX_0 : decode cX8_aheadX 0 = .ok (.aload_n 0, 1) := by decide +kernel
theorem dX8_aheadX_1 : decode cX8_aheadX 1 = .ok (.getfield 18, 3) := by decide +kernel
theorem dX8_aheadX_4 : decode cX8_aheadX 4 = .ok (.iconst 1, 1) := by decide +kernel
theorem dX8_aheadX_5 : decode cX8_aheadX 5 = .ok (.if_icmp .ne 7, 3) := by decide +kernel
theorem dX8_aheadX_8 : decode cX8_aheadX 8 = .ok (.iconst 1, 1) := by decide +kernel
theorem dX8_aheadX_9 : decode cX8_aheadX 9 = .ok (.goto 16, 3) := by decide +kernel
theorem dX8_aheadX_12 : decode cX8_aheadX 12 = .ok (.aload_n 0, 1) := by decide +kernel
theorem dX8_aheadX_13 : decode cX8_aheadX 13 = .ok (.getfield 18, 3) := by decide +kernel
theorem dX8_aheadX_16 : decode cX8_aheadX 16 = .ok (.iconst 3, 1) := by decide +kernel
theorem dX8_aheadX_17 : decode cX8_aheadX 17 = .ok (.if_icmp .ne 7, 3) := by decide +kernel
theorem dX8_aheadX_20 : decode cX8_aheadX 20 = .ok (.iconst (-1), 1) := by decide +kernel
theorem dX8_aheadX_21 : decode cX8_aheadX 21 = .ok (.goto 4, 3) := by decide +kernel
theorem dX8_aheadX_24 : decode cX8_aheadX 24 = .ok (.iconst 0, 1) := by decide +kernel
theorem dX8_aheadX_25 : decode cX8_aheadX 25 = .ok (.ireturn, 1) := by decide +kernel
theorem dX8_aheadY_0 : decode cX8_aheadY 0 = .ok (.aload_n 0, 1) := by decide +kernel
theorem dX8_aheadY_1 : decode cX8_aheadY 1 = .ok (.getfield 18, 3) := by decide +kernel
theorem dX8_aheadY_4 : decode cX8_aheadY 4 = .ok (.ifCond .ne 7, 3) := by decide +kernel
theorem dX8_aheadY_7 : decode cX8_aheadY 7 = .ok (.iconst 1, 1) := by decide +kernel
theorem dX8_aheadY_8 : decode cX8_aheadY 8 = .ok (.goto 16, 3) := by decide +kernel
theorem dX8_aheadY_11 : decode cX8_aheadY 11 = .ok (.aload_n 0, 1) := by decide +kernel
theorem dX8_aheadY_12 : decode cX8_aheadY 12 = .ok (.getfield 18, 3) := by decide +kernel
theorem dX8_aheadY_15 : decode cX8_aheadY 15 = .ok (.iconst 2, 1) := by decide +kernel
theorem dX8_aheadY_16 : decode cX8_aheadY 16 = .ok (.if_icmp .ne 7, 3) := by decide +kernel
theorem dX8_aheadY_19 : decode cX8_aheadY 19 = .ok (.iconst (-1), 1) := by decide +kernel
theorem dX8_aheadY_20 : decode cX8_aheadY 20 = .ok (.goto 4, 3) := by decide +kernel
theorem dX8_aheadY_23 : decode cX8_aheadY 23 = .ok (.iconst 0, 1) := by decide +kernel
theorem dX8_aheadY_24 : decode cX8_aheadY 24 = .ok (.ireturn, 1) := by decide +kernel
theorem dX9_init_0 : decode cX9_init 0 = .ok (.aload_n 0, 1) := by decide +kernel
theorem dX9_init_1 : decode cX9_init 1 = .ok (.invokespecial 3, 3) := by decide +kernel
theorem dX9_init_4 : decode cX9_init 4 = .ok (.aload_n 0, 1) := by decide +kernel
theorem dX9_init_5 : decode cX9_init 5 = .ok (.bipush 40, 2) := by decide +kernel
theorem dX9_init_7 : decode cX9_init 7 = .ok (.newarray .long, 2) := by decide +kernel
theorem dX9_init_9 : decode cX9_init 9 = .ok (.putfield 9, 3) := by decide +kernel
theorem dX9_init_12 : decode cX9_init 12 = .ok (.aload_n 0, 1) := by decide +kernel
theorem dX9_init_13 : decode cX9_init 13 = .ok (.bipush 20, 2) := by decide +kernel
theorem dX9_init_15 : decode cX9_init 15 = .ok (.putfield 15, 3) := by decide +kernel
theorem dX9_init_18 : decode cX9_init 18 = .ok (.aload_n 0, 1) := by decide +kernel
theorem dX9_init_19 : decode cX9_init 19 = .ok (.bipush 20, 2) := by decide +kernel
theorem dX9_init_21 : decode cX9_init 21 = .ok (.putfield 19, 3) := by decide +kernel
theorem dX9_init_24 : decode cX9_init 24 = .ok (.return_, 1) := by decide +kernel
theorem dX9_measure_0 : decode cX9_measure 0 = .ok (.aload_n 0, 1) := by decide +kernel
theorem dX9_measure_1 : decode cX9_measure 1 = .ok (.iload_n 1, 1) := by decide +kernel
theorem dX9_measure_2 : decode cX9_measure 2 = .ok (.putfield 15, 3) := by decide +kernel
theorem dX9_measure_5 : decode cX9_measure 5 = .ok (.aload_n 0, 1) := by decide +kernel
theorem dX9_measure_6 : decode cX9_measure 6 = .ok (.iload_n 2, 1) := by decide +kernel
theorem dX9_measure_7 : decode cX9_measure 7 = .ok (.putfield 19, 3) := by decide +kernel
theorem dX9_measure_10 : decode cX9_measure 10 = .ok (.return_, 1) := by decide +kernel
theorem dX9_makeEmpty_0 : decode cX9_makeEmpty 0 = .ok (.iconst 0, 1) := by decide +kernel
theorem dX9_makeEmpty_1 : decode cX9_makeEmpty 1 = .ok (.istore_n 1, 1) := by decide +kernel
theorem dX9_makeEmpty_2 : decode cX9_makeEmpty 2 = .ok (.iload_n 1, 1) := by decide +kernel
theorem dX9_makeEmpty_3 : decode cX9_makeEmpty 3 = .ok (.aload_n 0, 1) := by decide +kernel
theorem dX9_makeEmpty_4 : decode cX9_makeEmpty 4 = .ok (.getfield 9, 3) := by decide +kernel
theorem dX9_makeEmpty_7 : decode cX9_makeEmpty 7 = .ok (.arraylength, 1) := by decide +kernel
theorem dX9_makeEmpty_8 : decode cX9_makeEmpty 8 = .ok (.if_icmp .ge 16, 3) := by decide +kernel
theorem dX9_makeEmpty_11 : decode cX9_makeEmpty 11 = .ok (.aload_n 0, 1) := by decide +kernel
theorem dX9_makeEmpty_12 : decode cX9_makeEmpty 12 = .ok (.getfield 9, 3) := by decide +kernel
theorem dX9_makeEmpty_15 : decode cX9_makeEmpty 15 = .ok (.iload_n 1, 1) := by decide +kernel
theorem dX9_makeEmpty_16 : decode cX9_makeEmpty 16 = .ok (.lconst 0, 1) := by decide +kernel
theorem dX9_makeEmpty_17 : decode cX9_makeEmpty 17 = .ok (.lastore, 1) := by decide +kernel
theorem dX9_makeEmpty_18 : decode cX9_makeEmpty 18 = .ok (.iinc 1 1, 3) := by decide +kernel
theorem dX9_makeEmpty_21 : decode cX9_makeEmpty 21 = .ok (.goto (-19), 3) := by decide +kernel
theorem dX9_makeEmpty_24 : decode cX9_makeEmpty 24 = .ok (.return_, 1) := by decide +kernel
theorem dX9_hasCell_0 : decode cX9_hasCell 0 = .ok (.iload_n 1, 1) := by decide +kernel
theorem dX9_hasCell_1 : decode cX9_hasCell 1 = .ok (.ifCond .lt 27, 3) := by decide +kernel
theorem dX9_hasCell_4 : decode cX9_hasCell 4 = .ok (.iload_n 1, 1) := by decide +kernel
theorem dX9_hasCell_5 : decode cX9_hasCell 5 = .ok (.aload_n 0, 1) := by decide +kernel
theorem dX9_hasCell_6 : decode cX9_hasCell 6 = .ok (.getfield 15, 3) := by decide +kernel
theorem dX9_hasCell_9 : decode cX9_hasCell 9 = .ok (.if_icmp .ge 19, 3) := by decide +kernel
theorem dX9_hasCell_12 : decode cX9_hasCell 12 = .ok (.iload_n 2, 1) := by decide +kernel
theorem dX9_hasCell_13 : decode cX9_hasCell 13 = .ok (.ifCond .lt 15, 3) := by decide +kernel
theorem dX9_hasCell_16 : decode cX9_hasCell 16 = .ok (.iload_n 2, 1) := by decide +kernel
theorem dX9_hasCell_17 : decode cX9_hasCell 17 = .ok (.aload_n 0, 1) := by decide +kernel
theorem dX9_hasCell_18 : decode cX9_hasCell 18 = .ok (.getfield 19, 3) := by decide +kernel
theorem dX9_hasCell_21 : decode cX9_hasCell 21 = .ok (.if_icmp .ge 7, 3) := by decide +kernel
theorem dX9_hasCell_24 : decode cX9_hasCell 24 = .ok (.iconst 1, 1) := by decide +kernel
theorem dX9_hasCell_25 : decode cX9_hasCell 25 = .ok (.goto 4, 3) := by decide +kernel
theorem dX9_hasCell_28 : decode cX9_hasCell 28 = .ok (.iconst 0, 1) := by decide +kernel
theorem dX9_hasCell_29 : decode cX9_hasCell 29 = .ok (.ireturn, 1) := by decide +kernel
theorem dX9_place_0 : decode cX9_place 0 = .ok (.aload_n 1, 1) := by decide +kernel
theorem dX9_place_1 : decode cX9_place 1 = .ok (.getfield 22, 3) := by decide +kernel
theorem dX9_place_4 : decode cX9_place 4 = .ok (.getfield 28, 3) := by decide +kernel
theorem dX9_place_7 : decode cX9_place 7 = .ok (.invokevirtual 34, 3) := by decide +kernel
theorem dX9_place_10 : decode cX9_place 10 = .ok (.istore_n 2, 1) := by decide +kernel
theorem dX9_place_11 : decode cX9_place 11 = .ok (.aload_n 1, 1) := by decide +kernel
theorem dX9_place_12 : decode cX9_place 12 = .ok (.getfield 22, 3) := by decide +kernel
theorem dX9_place_15 : decode cX9_place 15 = .ok (.getfield 28, 3) := by decide +kernel
theorem dX9_place_18 : decode cX9_place 18 = .ok (.invokevirtual 40, 3) := by decide +kernel
theorem dX9_place_21 : decode cX9_place 21 = .ok (.istore_n 3, 1) := by decide +kernel
theorem dX9_place_22 : decode cX9_place 22 = .ok (.lconst 1, 1) := by decide +kernel
theorem dX9_place_23 : decode cX9_place 23 = .ok (.iload_n 2, 1) := by decide +kernel
theorem dX9_place_24 : decode cX9_place 24 = .ok (.lshl, 1) := by decide +kernel
theorem dX9_place_25 : decode cX9_place 25 = .ok (.lconst 1, 1) := by decide +kernel
theorem dX9_place_26 : decode cX9_place 26 = .ok (.lsub, 1) := by decide +kernel
theorem dX9_place_27 : decode cX9_place 27 = .ok (.lstore 4, 2) := by decide +kernel
theorem dX9_place_29 : decode cX9_place 29 = .ok (.iconst 0, 1) := by decide +kernel
theorem dX9_place_30 : decode cX9_place 30 = .ok (.istore 6, 2) := by decide +kernel
theorem dX9_place_32 : decode cX9_place 32 = .ok (.iload 6, 2) := by decide +kernel
theorem dX9_place_34 : decode cX9_place 34 = .ok (.aload_n 0, 1) := by decide +kernel
theorem dX9_place_35 : decode cX9_place 35 = .ok (.getfield 19, 3) := by decide +kernel
theorem dX9_place_38 : decode cX9_place 38 = .ok (.iload_n 3, 1) := by decide +kernel
theorem dX9_place_39 : decode cX9_place 39 = .ok (.isub, 1) := by decide +kernel
theorem dX9_place_40 : decode cX9_place 40 = .ok (.if_icmp .gt 56, 3) := by decide +kernel
theorem dX9_place_43 : decode cX9_place 43 = .ok (.aload_n 0, 1) := by decide +kernel
theorem dX9_place_44 : decode cX9_place 44 = .ok (.iload 6, 2) := by decide +kernel
theorem dX9_place_46 : decode cX9_place 46 = .ok (.iload_n 3, 1) := by decide +kernel
theorem dX9_place_47 : decode cX9_place 47 = .ok (.invokevirtual 43, 3) := by decide +kernel
theorem dX9_place_50 : decode cX9_place 50 = .ok (.lload 4, 2) := by decide +kernel
theorem dX9_place_52 : decode cX9_place 52 = .ok (.aload_n 0, 1) := by decide +kernel
theorem dX9_place_53 : decode cX9_place 53 = .ok (.getfield 15, 3) := by decide +kernel
theorem dX9_place_56 : decode cX9_place 56 = .ok (.iload_n 2, 1) := by decide +kernel
theorem dX9_place_57 : decode cX9_place 57 = .ok (.isub, 1) := by decide +kernel
theorem dX9_place_58 : decode cX9_place 58 = .ok (.invokestatic 47, 3) := by decide +kernel
theorem dX9_place_61 : decode cX9_place 61 = .ok (.istore 7, 2) := by decide +kernel
theorem dX9_place_63 : decode cX9_place 63 = .ok (.iload 7, 2) := by decide +kernel
theorem dX9_place_65 : decode cX9_place 65 = .ok (.iconst (-1), 1) := by decide +kernel
theorem dX9_place_66 : decode cX9_place 66 = .ok (.if_icmp .eq 24, 3) := by decide +kernel
theorem dX9_place_69 : decode cX9_place 69 = .ok (.aload_n 0, 1) := by decide +kernel
theorem dX9_place_70 : decode cX9_place 70 = .ok (.iload 6, 2) := by decide +kernel
theorem dX9_place_72 : decode cX9_place 72 = .ok (.iload_n 3, 1) := by decide +kernel
theorem dX9_place_73 : decode cX9_place 73 = .ok (.lload 4, 2) := by decide +kernel
theorem dX9_place_75 : decode cX9_place 75 = .ok (.iload 7, 2) := by decide +kernel
theorem dX9_place_77 : decode cX9_place 77 = .ok (.lshl, 1) := by decide +kernel
theorem dX9_place_78 : decode cX9_place 78 = .ok (.invokevirtual 51, 3) := by decide +kernel
theorem dX9_place_81 : decode cX9_place 81 = .ok (.aload_n 1, 1) := by decide +kernel
theorem dX9_place_82 : decode cX9_place 82 = .ok (.iload 7, 2) := by decide +kernel
theorem dX9_place_84 : decode cX9_place 84 = .ok (.iload 6, 2) := by decide +kernel
theorem dX9_place_86 : decode cX9_place 86 = .ok (.invokevirtual 55, 3) := by decide +kernel
theorem dX9_place_89 : decode cX9_place 89 = .ok (.return_, 1) := by decide +kernel
theorem dX9_place_90 : decode cX9_place 90 = .ok (.iinc 6 1, 3) := by decide +kernel
theorem dX9_place_93 : decode cX9_place 93 = .ok (.goto (-61), 3) := by decide +kernel
theorem dX9_place_96 : decode cX9_place 96 = .ok (.return_, 1) := by decide +kernel
theorem dX9_firstFree_0 : decode cX9_firstFree 0 = .ok (.iconst 0, 1) := by decide +kernel
theorem dX9_firstFree_1 : decode cX9_firstFree 1 = .ok (.istore 5, 2) := by decide +kernel
theorem dX9_firstFree_3 : decode cX9_firstFree 3 = .ok (.iload 5, 2) := by decide +kernel
theorem dX9_firstFree_5 : decode cX9_firstFree 5 = .ok (.iload 4, 2) := by decide +kernel
theorem dX9_firstFree_7 : decode cX9_firstFree 7 = .ok (.if_icmp .gt 23, 3) := by decide +kernel
theorem dX9_firstFree_10 : decode cX9_firstFree 10 = .ok (.lload_n 0, 1) := by decide +kernel
theorem dX9_firstFree_11 : decode cX9_firstFree 11 = .ok (.iload 5, 2) := by decide +kernel
theorem dX9_firstFree_13 : decode cX9_firstFree 13 = .ok (.lshr, 1) := by decide +kernel
theorem dX9_firstFree_14 : decode cX9_firstFree 14 = .ok (.lload_n 2, 1) := by decide +kernel
theorem dX9_firstFree_15 : decode cX9_firstFree 15 = .ok (.land, 1) := by decide +kernel
theorem dX9_firstFree_16 : decode cX9_firstFree 16 = .ok (.lconst 0, 1) := by decide +kernel
theorem dX9_firstFree_17 : decode cX9_firstFree 17 = .ok (.lcmp, 1) := by decide +kernel
theorem dX9_firstFree_18 : decode cX9_firstFree 18 = .ok (.ifCond .ne 6, 3) := by decide +kernel
theorem dX9_firstFree_21 : decode cX9_firstFree 21 = .ok (.iload 5, 2) := by decide +kernel
theorem dX9_firstFree_23 : decode cX9_firstFree 23 = .ok (.ireturn, 1) := by decide +kernel
theorem dX9_firstFree_24 : decode cX9_firstFree 24 = .ok (.iinc 5 1, 3) := by decide +kernel
theorem dX9_firstFree_27 : decode cX9_firstFree 27 = .ok (.goto (-24), 3) := by decide +kernel
theorem dX9_firstFree_30 : decode cX9_firstFree 30 = .ok (.iconst (-1), 1) := by decide +kernel
theorem dX9_firstFree_31 : decode cX9_firstFree 31 = .ok (.ireturn, 1) := by decide +kernel
theorem dX9_takenFrom_0 : decode cX9_takenFrom 0 = .ok (.lconst 0, 1) := by decide +kernel
theorem dX9_takenFrom_1 : decode cX9_takenFrom 1 = .ok (.lstore_n 3, 1) := by decide +kernel
theorem dX9_takenFrom_2 : decode cX9_takenFrom 2 = .ok (.iload_n 1, 1) := by decide +kernel
theorem dX9_takenFrom_3 : decode cX9_takenFrom 3 = .ok (.istore 5, 2) := by decide +kernel
theorem dX9_takenFrom_5 : decode cX9_takenFrom 5 = .ok (.iload 5, 2) := by decide +kernel
theorem dX9_takenFrom_7 : decode cX9_takenFrom 7 = .ok (.iload_n 1, 1) := by decide +kernel
theorem dX9_takenFrom_8 : decode cX9_takenFrom 8 = .ok (.iload_n 2, 1) := by decide +kernel
theorem dX9_takenFrom_9 : decode cX9_takenFrom 9 = .ok (.iadd, 1) := by decide +kernel
theorem dX9_takenFrom_10 : decode cX9_takenFrom 10 = .ok (.if_icmp .ge 34, 3) := by decide +kernel
theorem dX9_takenFrom_13 : decode cX9_takenFrom 13 = .ok (.iload 5, 2) := by decide +kernel
theorem dX9_takenFrom_15 : decode cX9_takenFrom 15 = .ok (.ifCond .lt 29, 3) := by decide +kernel
theorem dX9_takenFrom_18 : decode cX9_takenFrom 18 = .ok (.iload 5, 2) := by decide +kernel
theorem dX9_takenFrom_20 : decode cX9_takenFrom 20 = .ok (.aload_n 0, 1) := by decide +kernel
theorem dX9_takenFrom_21 : decode cX9_takenFrom 21 = .ok (.getfield 9, 3) := by decide +kernel
theorem dX9_takenFrom_24 : decode cX9_takenFrom 24 = .ok (.arraylength, 1) := by decide +kernel
theorem dX9_takenFrom_25 : decode cX9_takenFrom 25 = .ok (.if_icmp .ge 19, 3) := by decide +kernel
theorem dX9_takenFrom_28 : decode cX9_takenFrom 28 = .ok (.lload_n 3, 1) := by decide +kernel
theorem dX9_takenFrom_29 : decode cX9_takenFrom 29 = .ok (.aload_n 0, 1) := by decide +kernel
theorem dX9_takenFrom_30 : decode cX9_takenFrom 30 = .ok (.getfield 9, 3) := by decide +kernel
theorem dX9_takenFrom_33 : decode cX9_takenFrom 33 = .ok (.iload 5, 2) := by decide +kernel
theorem dX9_takenFrom_35 : decode cX9_takenFrom 35 = .ok (.laload, 1) := by decide +kernel
theorem dX9_takenFrom_36 : decode cX9_takenFrom 36 = .ok (.lor, 1) := by decide +kernel
theorem dX9_takenFrom_37 : decode cX9_takenFrom 37 = .ok (.lstore_n 3, 1) := by decide +kernel
theorem dX9_takenFrom_38 : decode cX9_takenFrom 38 = .ok (.iinc 5 1, 3) := by decide +kernel
theorem dX9_takenFrom_41 : decode cX9_takenFrom 41 = .ok (.goto (-36), 3) := by decide +kernel
theorem dX9_takenFrom_44 : decode cX9_takenFrom 44 = .ok (.lload_n 3, 1) := by decide +kernel
theorem dX9_takenFrom_45 : decode cX9_takenFrom 45 = .ok (.lreturn, 1) := by decide +kernel
theorem dX9_take_0 : decode cX9_take 0 = .ok (.iload_n 1, 1) := by decide +kernel
theorem dX9_take_1 : decode cX9_take 1 = .ok (.istore 5, 2) := by decide +kernel
theorem dX9_take_3 : decode cX9_take 3 = .ok (.iload 5, 2) := by decide +kernel
theorem dX9_take_5 : decode cX9_take 5 = .ok (.iload_n 1, 1) := by decide +kernel
theorem dX9_take_6 : decode cX9_take 6 = .ok (.iload_n 2, 1) := by decide +kernel
theorem dX9_take_7 : decode cX9_take 7 = .ok (.iadd, 1) := by decide +kernel
theorem dX9_take_8 : decode cX9_take 8 = .ok (.if_icmp .ge 35, 3) := by decide +kernel
theorem dX9_take_11 : decode cX9_take 11 = .ok (.iload 5, 2) := by decide +kernel
theorem dX9_take_13 : decode cX9_take 13 = .ok (.ifCond .lt 30, 3) := by decide +kernel
theorem dX9_take_16 : decode cX9_take 16 = .ok (.iload 5, 2) := by decide +kernel
theorem dX9_take_18 : decode cX9_take 18 = .ok (.aload_n 0, 1) := by decide +kernel
theorem dX9_take_19 : decode cX9_take 19 = .ok (.getfield 9, 3) := by decide +kernel
theorem dX9_take_22 : decode cX9_take 22 = .ok (.arraylength, 1) := by decide +kernel
theorem dX9_take_23 : decode cX9_take 23 = .ok (.if_icmp .ge 20, 3) := by decide +kernel
theorem dX9_take_26 : decode cX9_take 26 = .ok (.aload_n 0, 1) := by decide +kernel
theorem dX9_take_27 : decode cX9_take 27 = .ok (.getfield 9, 3) := by decide +kernel
theorem dX9_take_30 : decode cX9_take 30 = .ok (.iload 5, 2) := by decide +kernel
theorem dX9_take_32 : decode cX9_take 32 = .ok (.dup2, 1) := by decide +kernel
theorem dX9_take_33 : decode cX9_take 33 = .ok (.laload, 1) := by decide +kernel
theorem dX9_take_34 : decode cX9_take 34 = .ok (.lload_n 3, 1) := by decide +kernel
theorem dX9_take_35 : decode cX9_take 35 = .ok (.lor, 1) := by decide +kernel
theorem dX9_take_36 : decode cX9_take 36 = .ok (.lastore, 1) := by decide +kernel
theorem dX9_take_37 : decode cX9_take 37 = .ok (.iinc 5 1, 3) := by decide +kernel
theorem dX9_take_40 : decode cX9_take 40 = .ok (.goto (-37), 3) := by decide +kernel
theorem dX9_take_43 : decode cX9_take 43 = .ok (.return_, 1) := by decide +kernel
theorem dX10_init_0 : decode cX10_init 0 = .ok (.aload_n 0, 1) := by decide +kernel
theorem dX10_init_1 : decode cX10_init 1 = .ok (.invokespecial 3, 3) := by decide +kernel
theorem dX10_init_4 : decode cX10_init 4 = .ok (.aload_n 0, 1) := by decide +kernel
theorem dX10_init_5 : decode cX10_init 5 = .ok (.aload_n 1, 1) := by decide +kernel
theorem dX10_init_6 : decode cX10_init 6 = .ok (.putfield 9, 3) := by decide +kernel
theorem dX10_init_9 : decode cX10_init 9 = .ok (.aload_n 0, 1) := by decide +kernel
theorem dX10_init_10 : decode cX10_init 10 = .ok (.aload_n 2, 1) := by decide +kernel
theorem dX10_init_11 : decode cX10_init 11 = .ok (.putfield 15, 3) := by decide +kernel
theorem dX10_init_14 : decode cX10_init 14 = .ok (.aload_n 0, 1) := by decide +kernel
theorem dX10_init_15 : decode cX10_init 15 = .ok (.iload_n 3, 1) := by decide +kernel
theorem dX10_init_16 : decode cX10_init 16 = .ok (.putfield 19, 3) := by decide +kernel
theorem dX10_init_19 : decode cX10_init 19 = .ok (.return_, 1) := by decide +kernel
theorem dX10_meetsExercise_0 : decode cX10_meetsExercise 0 = .ok (.aload_n 0, 1) := by decide +kernel
theorem dX10_meetsExercise_1 : decode cX10_meetsExercise 1 = .ok (.getfield 15, 3) := by decide +kernel
theorem dX10_meetsExercise_4 : decode cX10_meetsExercise 4 = .ok (.aload_n 0, 1) := by decide +kernel
theorem dX10_meetsExercise_5 : decode cX10_meetsExercise 5 = .ok (.getfield 9, 3) := by decide +kernel
theorem dX10_meetsExercise_8 : decode cX10_meetsExercise 8 = .ok (.invokevirtual 23, 3) := by decide +kernel
theorem dX10_meetsExercise_11 : decode cX10_meetsExercise 11 = .ok (.ireturn, 1) := by decide +kernel
theorem dX10_isInDoubt_0 : decode cX10_isInDoubt 0 = .ok (.aload_n 0, 1) := by decide +kernel
theorem dX10_isInDoubt_1 : decode cX10_isInDoubt 1 = .ok (.getfield 19, 3) := by decide +kernel
theorem dX10_isInDoubt_4 : decode cX10_isInDoubt 4 = .ok (.iconst (-1), 1) := by decide +kernel
theorem dX10_isInDoubt_5 : decode cX10_isInDoubt 5 = .ok (.if_icmp .eq 14, 3) := by decide +kernel
theorem dX10_isInDoubt_8 : decode cX10_isInDoubt 8 = .ok (.aload_n 0, 1) := by decide +kernel
theorem dX10_isInDoubt_9 : decode cX10_isInDoubt 9 = .ok (.getfield 29, 3) := by decide +kernel
theorem dX10_isInDoubt_12 : decode cX10_isInDoubt 12 = .ok (.ifCond .ne 7, 3) := by decide +kernel
theorem dX10_isInDoubt_15 : decode cX10_isInDoubt 15 = .ok (.iconst 1, 1) := by decide +kernel
theorem dX10_isInDoubt_16 : decode cX10_isInDoubt 16 = .ok (.goto 4, 3) := by decide +kernel
theorem dX10_isInDoubt_19 : decode cX10_isInDoubt 19 = .ok (.iconst 0, 1) := by decide +kernel
theorem dX10_isInDoubt_20 : decode cX10_isInDoubt 20 = .ok (.ireturn, 1) := by decide +kernel
theorem dX10_covers_0 : decode cX10_covers 0 = .ok (.aload_n 0, 1) := by decide +kernel
theorem dX10_covers_1 : decode cX10_covers 1 = .ok (.getfield 33, 3) := by decide +kernel
theorem dX10_covers_4 : decode cX10_covers 4 = .ok (.ifCond .eq 61, 3) := by decide +kernel
theorem dX10_covers_7 : decode cX10_covers 7 = .ok (.iload_n 1, 1) := by decide +kernel
theorem dX10_covers_8 : decode cX10_covers 8 = .ok (.aload_n 0, 1) := by decide +kernel
theorem dX10_covers_9 : decode cX10_covers 9 = .ok (.getfield 36, 3) := by decide +kernel
theorem dX10_covers_12 : decode cX10_covers 12 = .ok (.if_icmp .lt 53, 3) := by decide +kernel
theorem dX10_covers_15 : decode cX10_covers 15 = .ok (.iload_n 1, 1) := by decide +kernel
theorem dX10_covers_16 : decode cX10_covers 16 = .ok (.aload_n 0, 1) := by decide +kernel
theorem dX10_covers_17 : decode cX10_covers 17 = .ok (.getfield 36, 3) := by decide +kernel
theorem dX10_covers_20 : decode cX10_covers 20 = .ok (.aload_n 0, 1) := by decide +kernel
theorem dX10_covers_21 : decode cX10_covers 21 = .ok (.getfield 9, 3) := by decide +kernel
theorem dX10_covers_24 : decode cX10_covers 24 = .ok (.getfield 39, 3) := by decide +kernel
theorem dX10_covers_27 : decode cX10_covers 27 = .ok (.invokevirtual 45, 3) := by decide +kernel
theorem dX10_covers_30 : decode cX10_covers 30 = .ok (.iadd, 1) := by decide +kernel
theorem dX10_covers_31 : decode cX10_covers 31 = .ok (.if_icmp .ge 34, 3) := by decide +kernel
theorem dX10_covers_34 : decode cX10_covers 34 = .ok (.iload_n 2, 1) := by decide +kernel
theorem dX10_covers_35 : decode cX10_covers 35 = .ok (.aload_n 0, 1) := by decide +kernel
theorem dX10_covers_36 : decode cX10_covers 36 = .ok (.getfield 51, 3) := by decide +kernel
theorem dX10_covers_39 : decode cX10_covers 39 = .ok (.if_icmp .lt 26, 3) := by decide +kernel
theorem dX10_covers_42 : decode cX10_covers 42 = .ok (.iload_n 2, 1) := by decide +kernel
theorem dX10_covers_43 : decode cX10_covers 43 = .ok (.aload_n 0, 1) := by decide +kernel
theorem dX10_covers_44 : decode cX10_covers 44 = .ok (.getfield 51, 3) := by decide +kernel
theorem dX10_covers_47 : decode cX10_covers 47 = .ok (.aload_n 0, 1) := by decide +kernel
theorem dX10_covers_48 : decode cX10_covers 48 = .ok (.getfield 9, 3) := by decide +kernel
theorem dX10_covers_51 : decode cX10_covers 51 = .ok (.getfield 39, 3) := by decide +kernel
theorem dX10_covers_54 : decode cX10_covers 54 = .ok (.invokevirtual 54, 3) := by decide +kernel
theorem dX10_covers_57 : decode cX10_covers 57 = .ok (.iadd, 1) := by decide +kernel
theorem dX10_covers_58 : decode cX10_covers 58 = .ok (.if_icmp .ge 7, 3) := by decide +kernel
theorem dX10_covers_61 : decode cX10_covers 61 = .ok (.iconst 1, 1) := by decide +kernel
theorem dX10_covers_62 : decode cX10_covers 62 = .ok (.goto 4, 3) := by decide +kernel
theorem dX10_covers_65 : decode cX10_covers 65 = .ok (.iconst 0, 1) := by decide +kernel
theorem dX10_covers_66 : decode cX10_covers 66 = .ok (.ireturn, 1) := by decide +kernel
theorem dX10_hangAt_0 : decode cX10_hangAt 0 = .ok (.aload_n 0, 1) := by decide +kernel
theorem dX10_hangAt_1 : decode cX10_hangAt 1 = .ok (.iload_n 1, 1) := by decide +kernel
theorem dX10_hangAt_2 : decode cX10_hangAt 2 = .ok (.putfield 36, 3) := by decide +kernel
theorem dX10_hangAt_5 : decode cX10_hangAt 5 = .ok (.aload_n 0, 1) := by decide +kernel
theorem dX10_hangAt_6 : decode cX10_hangAt 6 = .ok (.iload_n 2, 1) := by decide +kernel
theorem dX10_hangAt_7 : decode cX10_hangAt 7 = .ok (.putfield 51, 3) := by decide +kernel
theorem dX10_hangAt_10 : decode cX10_hangAt 10 = .ok (.aload_n 0, 1) := by decide +kernel
theorem dX10_hangAt_11 : decode cX10_hangAt 11 = .ok (.iconst 1, 1) := by decide +kernel
theorem dX10_hangAt_12 : decode cX10_hangAt 12 = .ok (.putfield 33, 3) := by decide +kernel
theorem dX10_hangAt_15 : decode cX10_hangAt 15 = .ok (.return_, 1) := by decide +kernel
theorem dX11_init_0 : decode cX11_init 0 = .ok (.aload_n 0, 1) := by decide +kernel
theorem dX11_init_1 : decode cX11_init 1 = .ok (.invokespecial 1, 3) := by decide +kernel
theorem dX11_init_4 : decode cX11_init 4 = .ok (.aload_n 0, 1) := by decide +kernel
theorem dX11_init_5 : decode cX11_init 5 = .ok (.new 7, 3) := by decide +kernel
theorem dX11_init_8 : decode cX11_init 8 = .ok (.dup, 1) := by decide +kernel
theorem dX11_init_9 : decode cX11_init 9 = .ok (.invokespecial 9, 3) := by decide +kernel
theorem dX11_init_12 : decode cX11_init 12 = .ok (.putfield 10, 3) := by decide +kernel
theorem dX11_init_15 : decode cX11_init 15 = .ok (.aload_n 0, 1) := by decide +kernel
theorem dX11_init_16 : decode cX11_init 16 = .ok (.new 16, 3) := by decide +kernel
theorem dX11_init_19 : decode cX11_init 19 = .ok (.dup, 1) := by decide +kernel
theorem dX11_init_20 : decode cX11_init 20 = .ok (.invokespecial 18, 3) := by decide +kernel
theorem dX11_init_23 : decode cX11_init 23 = .ok (.putfield 19, 3) := by decide +kernel
theorem dX11_init_26 : decode cX11_init 26 = .ok (.aload_n 0, 1) := by decide +kernel
theorem dX11_init_27 : decode cX11_init 27 = .ok (.new 23, 3) := by decide +kernel
theorem dX11_init_30 : decode cX11_init 30 = .ok (.dup, 1) := by decide +kernel
theorem dX11_init_31 : decode cX11_init 31 = .ok (.invokespecial 25, 3) := by decide +kernel
theorem dX11_init_34 : decode cX11_init 34 = .ok (.putfield 26, 3) := by decide +kernel
theorem dX11_init_37 : decode cX11_init 37 = .ok (.aload_n 0, 1) := by decide +kernel
theorem dX11_init_38 : decode cX11_init 38 = .ok (.new 30, 3) := by decide +kernel
theorem dX11_init_41 : decode cX11_init 41 = .ok (.dup, 1) := by decide +kernel
theorem dX11_init_42 : decode cX11_init 42 = .ok (.invokespecial 32, 3) := by decide +kernel
theorem dX11_init_45 : decode cX11_init 45 = .ok (.putfield 33, 3) := by decide +kernel
theorem dX11_init_48 : decode cX11_init 48 = .ok (.aload_n 0, 1) := by decide +kernel
theorem dX11_init_49 : decode cX11_init 49 = .ok (.new 37, 3) := by decide +kernel
theorem dX11_init_52 : decode cX11_init 52 = .ok (.dup, 1) := by decide +kernel
theorem dX11_init_53 : decode cX11_init 53 = .ok (.invokespecial 39, 3) := by decide +kernel
theorem dX11_init_56 : decode cX11_init 56 = .ok (.putfield 40, 3) := by decide +kernel
theorem dX11_init_59 : decode cX11_init 59 = .ok (.aload_n 0, 1) := by decide +kernel
theorem dX11_init_60 : decode cX11_init 60 = .ok (.bipush 30, 2) := by decide +kernel
theorem dX11_init_62 : decode cX11_init 62 = .ok (.anewarray 44, 3) := by decide +kernel
theorem dX11_init_65 : decode cX11_init 65 = .ok (.putfield 46, 3) := by decide +kernel
theorem dX11_init_68 : decode cX11_init 68 = .ok (.aload_n 0, 1) := by decide +kernel
theorem dX11_init_69 : decode cX11_init 69 = .ok (.bipush 6, 2) := by decide +kernel
theorem dX11_init_71 : decode cX11_init 71 = .ok (.anewarray 50, 3) := by decide +kernel
theorem dX11_init_74 : decode cX11_init 74 = .ok (.putfield 52, 3) := by decide +kernel
theorem dX11_init_77 : decode cX11_init 77 = .ok (.aload_n 0, 1) := by decide +kernel
theorem dX11_init_78 : decode cX11_init 78 = .ok (.bipush 24, 2) := by decide +kernel
theorem dX11_init_80 : decode cX11_init 80 = .ok (.anewarray 56, 3) := by decide +kernel
theorem dX11_init_83 : decode cX11_init 83 = .ok (.putfield 58, 3) := by decide +kernel
theorem dX11_init_86 : decode cX11_init 86 = .ok (.return_, 1) := by decide +kernel
theorem dX11_forward_0 : decode cX11_forward 0 = .ok (.iload_n 1, 1) := by decide +kernel
theorem dX11_forward_1 : decode cX11_forward 1 = .ok (.iload_n 2, 1) := by decide +kernel
theorem dX11_forward_2 : decode cX11_forward 2 = .ok (.iconst 0, 1) := by decide +kernel
theorem dX11_forward_3 : decode cX11_forward 3 = .ok (.invokestatic 62, 3) := by decide +kernel
theorem dX11_forward_6 : decode cX11_forward 6 = .ok (.aload_n 0, 1) := by decide +kernel
theorem dX11_forward_7 : decode cX11_forward 7 = .ok (.iconst 0, 1) := by decide +kernel
theorem dX11_forward_8 : decode cX11_forward 8 = .ok (.iconst 0, 1) := by decide +kernel
theorem dX11_forward_9 : decode cX11_forward 9 = .ok (.iload_n 1, 1) := by decide +kernel
theorem dX11_forward_10 : decode cX11_forward 10 = .ok (.iload_n 2, 1) := by decide +kernel
theorem dX11_forward_11 : decode cX11_forward 11 = .ok (.invokevirtual 66, 3) := by decide +kernel
theorem dX11_forward_14 : decode cX11_forward 14 = .ok (.ireturn, 1) := by decide +kernel
theorem dX11_turn_0 : decode cX11_turn 0 = .ok (.iload_n 1, 1) := by decide +kernel
theorem dX11_turn_1 : decode cX11_turn 1 = .ok (.iload_n 2, 1) := by decide +kernel
theorem dX11_turn_2 : decode cX11_turn 2 = .ok (.iconst 0, 1) := by decide +kernel
theorem dX11_turn_3 : decode cX11_turn 3 = .ok (.invokestatic 62, 3) := by decide +kernel
theorem dX11_turn_6 : decode cX11_turn 6 = .ok (.aload_n 0, 1) := by decide +kernel
theorem dX11_turn_7 : decode cX11_turn 7 = .ok (.iconst 1, 1) := by decide +kernel
theorem dX11_turn_8 : decode cX11_turn 8 = .ok (.iconst 0, 1) := by decide +kernel
theorem dX11_turn_9 : decode cX11_turn 9 = .ok (.iload_n 1, 1) := by decide +kernel
theorem dX11_turn_10 : decode cX11_turn 10 = .ok (.iload_n 2, 1) := by decide +kernel
theorem dX11_turn_11 : decode cX11_turn 11 = .ok (.invokevirtual 66, 3) := by decide +kernel
theorem dX11_turn_14 : decode cX11_turn 14 = .ok (.ireturn, 1) := by decide +kernel
theorem dX11_pen_0 : decode cX11_pen 0 = .ok (.aload_n 0, 1) := by decide +kernel
theorem dX11_pen_1 : decode cX11_pen 1 = .ok (.iconst 2, 1) := by decide +kernel
theorem dX11_pen_2 : decode cX11_pen 2 = .ok (.iconst 0, 1) := by decide +kernel
theorem dX11_pen_3 : decode cX11_pen 3 = .ok (.iload_n 1, 1) := by decide +kernel
theorem dX11_pen_4 : decode cX11_pen 4 = .ok (.ifCond .eq 7, 3) := by decide +kernel
theorem dX11_pen_7 : decode cX11_pen 7 = .ok (.iconst 1, 1) := by decide +kernel
theorem dX11_pen_8 : decode cX11_pen 8 = .ok (.goto 4, 3) := by decide +kernel
theorem dX11_pen_11 : decode cX11_pen 11 = .ok (.iconst 0, 1) := by decide +kernel
theorem dX11_pen_12 : decode cX11_pen 12 = .ok (.iconst 0, 1) := by decide +kernel
theorem dX11_pen_13 : decode cX11_pen 13 = .ok (.invokevirtual 66, 3) := by decide +kernel
theorem dX11_pen_16 : decode cX11_pen 16 = .ok (.ireturn, 1) := by decide +kernel
theorem dX11_set_0 : decode cX11_set 0 = .ok (.iload_n 1, 1) := by decide +kernel
theorem dX11_set_1 : decode cX11_set 1 = .ok (.invokestatic 70, 3) := by decide +kernel
theorem dX11_set_4 : decode cX11_set 4 = .ok (.iload_n 2, 1) := by decide +kernel
theorem dX11_set_5 : decode cX11_set 5 = .ok (.iload_n 3, 1) := by decide +kernel
theorem dX11_set_6 : decode cX11_set 6 = .ok (.bipush (-99), 2) := by decide +kernel
theorem dX11_set_8 : decode cX11_set 8 = .ok (.invokestatic 62, 3) := by decide +kernel
theorem dX11_set_11 : decode cX11_set 11 = .ok (.aload_n 0, 1) := by decide +kernel
theorem dX11_set_12 : decode cX11_set 12 = .ok (.iconst 3, 1) := by decide +kernel
theorem dX11_set_13 : decode cX11_set 13 = .ok (.iload_n 1, 1) := by decide +kernel
theorem dX11_set_14 : decode cX11_set 14 = .ok (.iload_n 2, 1) := by decide +kernel
theorem dX11_set_15 : decode cX11_set 15 = .ok (.iload_n 3, 1) := by decide +kernel
theorem dX11_set_16 : decode cX11_set 16 = .ok (.invokevirtual 66, 3) := by decide +kernel
theorem dX11_set_19 : decode cX11_set 19 = .ok (.ireturn, 1) := by decide +kernel
theorem dX11_add_0 : decode cX11_add 0 = .ok (.iload_n 1, 1) := by decide +kernel
theorem dX11_add_1 : decode cX11_add 1 = .ok (.invokestatic 70, 3) := by decide +kernel
theorem dX11_add_4 : decode cX11_add 4 = .ok (.iload_n 2, 1) := by decide +kernel
theorem dX11_add_5 : decode cX11_add 5 = .ok (.iload_n 3, 1) := by decide +kernel
theorem dX11_add_6 : decode cX11_add 6 = .ok (.bipush (-99), 2) := by decide +kernel
theorem dX11_add_8 : decode cX11_add 8 = .ok (.invokestatic 62, 3) := by decide +kernel
theorem dX11_add_11 : decode cX11_add 11 = .ok (.aload_n 0, 1) := by decide +kernel
theorem dX11_add_12 : decode cX11_add 12 = .ok (.iconst 4, 1) := by decide +kernel
theorem dX11_add_13 : decode cX11_add 13 = .ok (.iload_n 1, 1) := by decide +kernel
theorem dX11_add_14 : decode cX11_add 14 = .ok (.iload_n 2, 1) := by decide +kernel
theorem dX11_add_15 : decode cX11_add 15 = .ok (.iload_n 3, 1) := by decide +kernel
theorem dX11_add_16 : decode cX11_add 16 = .ok (.invokevirtual 66, 3) := by decide +kernel
theorem dX11_add_19 : decode cX11_add 19 = .ok (.ireturn, 1) := by decide +kernel
theorem dX11_repeat_0 : decode cX11_repeat 0 = .ok (.iload_n 1, 1) := by decide +kernel
theorem dX11_repeat_1 : decode cX11_repeat 1 = .ok (.iload_n 2, 1) := by decide +kernel
theorem dX11_repeat_2 : decode cX11_repeat 2 = .ok (.iconst 0, 1) := by decide +kernel
theorem dX11_repeat_3 : decode cX11_repeat 3 = .ok (.invokestatic 62, 3) := by decide +kernel
theorem dX11_repeat_6 : decode cX11_repeat 6 = .ok (.aload_n 0, 1) := by decide +kernel
theorem dX11_repeat_7 : decode cX11_repeat 7 = .ok (.iconst 5, 1) := by decide +kernel
theorem dX11_repeat_8 : decode cX11_repeat 8 = .ok (.iconst 0, 1) := by decide +kernel
theorem dX11_repeat_9 : decode cX11_repeat 9 = .ok (.iload_n 1, 1) := by decide +kernel
theorem dX11_repeat_10 : decode cX11_repeat 10 = .ok (.iload_n 2, 1) := by decide +kernel
theorem dX11_repeat_11 : decode cX11_repeat 11 = .ok (.invokevirtual 66, 3) := by decide +kernel
theorem dX11_repeat_14 : decode cX11_repeat 14 = .ok (.ireturn, 1) := by decide +kernel
theorem dX11_word_0 : decode cX11_word 0 = .ok (.iload_n 1, 1) := by decide +kernel
theorem dX11_word_1 : decode cX11_word 1 = .ok (.invokestatic 74, 3) := by decide +kernel
theorem dX11_word_4 : decode cX11_word 4 = .ok (.aload_n 0, 1) := by decide +kernel
theorem dX11_word_5 : decode cX11_word 5 = .ok (.getfield 10, 3) := by decide +kernel
theorem dX11_word_8 : decode cX11_word 8 = .ok (.invokevirtual 77, 3) := by decide +kernel
theorem dX11_word_11 : decode cX11_word 11 = .ok (.ifCond .gt 14, 3) := by decide +kernel
theorem dX11_word_14 : decode cX11_word 14 = .ok (.aload_n 0, 1) := by decide +kernel
theorem dX11_word_15 : decode cX11_word 15 = .ok (.getfield 10, 3) := by decide +kernel
theorem dX11_word_18 : decode cX11_word 18 = .ok (.iload_n 1, 1) := by decide +kernel
theorem dX11_word_19 : decode cX11_word 19 = .ok (.invokevirtual 81, 3) := by decide +kernel
theorem dX11_word_22 : decode cX11_word 22 = .ok (.ifCond .eq 13, 3) := by decide +kernel
theorem dX11_word_25 : decode cX11_word 25 = .ok (.new 85, 3) := by decide +kernel
theorem dX11_word_28 : decode cX11_word 28 = .ok (.dup, 1) := by decide +kernel
theorem dX11_word_29 : decode cX11_word 29 = .ok (.ldc 87, 2) := by decide +kernel
theorem dX11_word_31 : decode cX11_word 31 = .ok (.invokespecial 89, 3) := by decide +kernel
theorem dX11_word_34 : decode cX11_word 34 = .ok (.athrow, 1) := by decide +kernel
theorem dX11_word_35 : decode cX11_word 35 = .ok (.aload_n 0, 1) := by decide +kernel
theorem dX11_word_36 : decode cX11_word 36 = .ok (.bipush 6, 2) := by decide +kernel
theorem dX11_word_38 : decode cX11_word 38 = .ok (.iload_n 1, 1) := by decide +kernel
theorem dX11_word_39 : decode cX11_word 39 = .ok (.iconst 0, 1) := by decide +kernel
theorem dX11_word_40 : decode cX11_word 40 = .ok (.iconst 0, 1) := by decide +kernel
theorem dX11_word_41 : decode cX11_word 41 = .ok (.invokevirtual 66, 3) := by decide +kernel
theorem dX11_word_44 : decode cX11_word 44 = .ok (.ireturn, 1) := by decide +kernel
theorem dX11_call_0 : decode cX11_call 0 = .ok (.iload_n 1, 1) := by decide +kernel
theorem dX11_call_1 : decode cX11_call 1 = .ok (.invokestatic 74, 3) := by decide +kernel
theorem dX11_call_4 : decode cX11_call 4 = .ok (.aload_n 0, 1) := by decide +kernel
theorem dX11_call_5 : decode cX11_call 5 = .ok (.bipush 7, 2) := by decide +kernel
theorem dX11_call_7 : decode cX11_call 7 = .ok (.iload_n 1, 1) := by decide +kernel
theorem dX11_call_8 : decode cX11_call 8 = .ok (.iconst 0, 1) := by decide +kernel
theorem dX11_call_9 : decode cX11_call 9 = .ok (.iconst 0, 1) := by decide +kernel
theorem dX11_call_10 : decode cX11_call 10 = .ok (.invokevirtual 66, 3) := by decide +kernel
theorem dX11_call_13 : decode cX11_call 13 = .ok (.ireturn, 1) := by decide +kernel
theorem dX11_end_0 : decode cX11_end 0 = .ok (.aload_n 0, 1) := by decide +kernel
theorem dX11_end_1 : decode cX11_end 1 = .ok (.getfield 10, 3) := by decide +kernel
theorem dX11_end_4 : decode cX11_end 4 = .ok (.invokevirtual 77, 3) := by decide +kernel
theorem dX11_end_7 : decode cX11_end 7 = .ok (.ifCond .gt 13, 3) := by decide +kernel
theorem dX11_end_10 : decode cX11_end 10 = .ok (.new 85, 3) := by decide +kernel
theorem dX11_end_13 : decode cX11_end 13 = .ok (.dup, 1) := by decide +kernel
theorem dX11_end_14 : decode cX11_end 14 = .ok (.ldc 92, 2) := by decide +kernel
theorem dX11_end_16 : decode cX11_end 16 = .ok (.invokespecial 89, 3) := by decide +kernel
theorem dX11_end_19 : decode cX11_end 19 = .ok (.athrow, 1) := by decide +kernel
theorem dX11_end_20 : decode cX11_end 20 = .ok (.aload_n 0, 1) := by decide +kernel
theorem dX11_end_21 : decode cX11_end 21 = .ok (.bipush 8, 2) := by decide +kernel
theorem dX11_end_23 : decode cX11_end 23 = .ok (.iconst 0, 1) := by decide +kernel
theorem dX11_end_24 : decode cX11_end 24 = .ok (.iconst 0, 1) := by decide +kernel
theorem dX11_end_25 : decode cX11_end 25 = .ok (.iconst 0, 1) := by decide +kernel
theorem dX11_end_26 : decode cX11_end 26 = .ok (.invokevirtual 66, 3) := by decide +kernel
theorem dX11_end_29 : decode cX11_end 29 = .ok (.pop, 1) := by decide +kernel
theorem dX11_end_30 : decode cX11_end 30 = .ok (.aload_n 0, 1) := by decide +kernel
theorem dX11_end_31 : decode cX11_end 31 = .ok (.getfield 10, 3) := by decide +kernel
theorem dX11_end_34 : decode cX11_end 34 = .ok (.invokevirtual 77, 3) := by decide +kernel
theorem dX11_end_37 : decode cX11_end 37 = .ok (.ireturn, 1) := by decide +kernel
theorem dX11_wipe_0 : decode cX11_wipe 0 = .ok (.aload_n 0, 1) := by decide +kernel
theorem dX11_wipe_1 : decode cX11_wipe 1 = .ok (.getfield 10, 3) := by decide +kernel
theorem dX11_wipe_4 : decode cX11_wipe 4 = .ok (.invokevirtual 94, 3) := by decide +kernel
theorem dX11_wipe_7 : decode cX11_wipe 7 = .ok (.istore_n 1, 1) := by decide +kernel
theorem dX11_wipe_8 : decode cX11_wipe 8 = .ok (.aload_n 0, 1) := by decide +kernel
theorem dX11_wipe_9 : decode cX11_wipe 9 = .ok (.getfield 10, 3) := by decide +kernel
theorem dX11_wipe_12 : decode cX11_wipe 12 = .ok (.invokevirtual 97, 3) := by decide +kernel
theorem dX11_wipe_15 : decode cX11_wipe 15 = .ok (.iload_n 1, 1) := by decide +kernel
theorem dX11_wipe_16 : decode cX11_wipe 16 = .ok (.ireturn, 1) := by decide +kernel
theorem dX11_write_0 : decode cX11_write 0 = .ok (.iload_n 1, 1) := by decide +kernel
theorem dX11_write_1 : decode cX11_write 1 = .ok (.invokestatic 100, 3) := by decide +kernel
theorem dX11_write_4 : decode cX11_write 4 = .ok (.aload_n 0, 1) := by decide +kernel
theorem dX11_write_5 : decode cX11_write 5 = .ok (.getfield 10, 3) := by decide +kernel
theorem dX11_write_8 : decode cX11_write 8 = .ok (.invokevirtual 94, 3) := by decide +kernel
theorem dX11_write_11 : decode cX11_write 11 = .ok (.ifCond .eq 13, 3) := by decide +kernel
theorem dX11_write_14 : decode cX11_write 14 = .ok (.aload_n 0, 1) := by decide +kernel
theorem dX11_write_15 : decode cX11_write 15 = .ok (.getfield 10, 3) := by decide +kernel
theorem dX11_write_18 : decode cX11_write 18 = .ok (.invokevirtual 77, 3) := by decide +kernel
theorem dX11_write_21 : decode cX11_write 21 = .ok (.ifCond .le 13, 3) := by decide +kernel
theorem dX11_write_24 : decode cX11_write 24 = .ok (.new 85, 3) := by decide +kernel
theorem dX11_write_27 : decode cX11_write 27 = .ok (.dup, 1) := by decide +kernel
theorem dX11_write_28 : decode cX11_write 28 = .ok (.ldc 103, 2) := by decide +kernel
theorem dX11_write_30 : decode cX11_write 30 = .ok (.invokespecial 89, 3) := by decide +kernel
theorem dX11_write_33 : decode cX11_write 33 = .ok (.athrow, 1) := by decide +kernel
theorem dX11_write_34 : decode cX11_write 34 = .ok (.aload_n 0, 1) := by decide +kernel
theorem dX11_write_35 : decode cX11_write 35 = .ok (.getfield 105, 3) := by decide +kernel
theorem dX11_write_38 : decode cX11_write 38 = .ok (.istore_n 2, 1) := by decide +kernel
theorem dX11_write_39 : decode cX11_write 39 = .ok (.iload_n 2, 1) := by decide +kernel
theorem dX11_write_40 : decode cX11_write 40 = .ok (.ifCond .lt 12, 3) := by decide +kernel
theorem dX11_write_43 : decode cX11_write 43 = .ok (.iload_n 2, 1) := by decide +kernel
theorem dX11_write_44 : decode cX11_write 44 = .ok (.aload_n 0, 1) := by decide +kernel
theorem dX11_write_45 : decode cX11_write 45 = .ok (.getfield 46, 3) := by decide +kernel
theorem dX11_write_48 : decode cX11_write 48 = .ok (.arraylength, 1) := by decide +kernel
theorem dX11_write_49 : decode cX11_write 49 = .ok (.if_icmp .lt 13, 3) := by decide +kernel
theorem dX11_write_52 : decode cX11_write 52 = .ok (.new 85, 3) := by decide +kernel
theorem dX11_write_55 : decode cX11_write 55 = .ok (.dup, 1) := by decide +kernel
theorem dX11_write_56 : decode cX11_write 56 = .ok (.ldc 109, 2) := by decide +kernel
theorem dX11_write_58 : decode cX11_write 58 = .ok (.invokespecial 89, 3) := by decide +kernel
theorem dX11_write_61 : decode cX11_write 61 = .ok (.athrow, 1) := by decide +kernel
theorem dX11_write_62 : decode cX11_write 62 = .ok (.new 44, 3) := by decide +kernel
theorem dX11_write_65 : decode cX11_write 65 = .ok (.dup, 1) := by decide +kernel
theorem dX11_write_66 : decode cX11_write 66 = .ok (.iload_n 1, 1) := by decide +kernel
theorem dX11_write_67 : decode cX11_write 67 = .ok (.aload_n 0, 1) := by decide +kernel
theorem dX11_write_68 : decode cX11_write 68 = .ok (.getfield 10, 3) := by decide +kernel
theorem dX11_write_71 : decode cX11_write 71 = .ok (.invokespecial 111, 3) := by decide +kernel
theorem dX11_write_74 : decode cX11_write 74 = .ok (.astore_n 3, 1) := by decide +kernel
theorem dX11_write_75 : decode cX11_write 75 = .ok (.aload_n 0, 1) := by decide +kernel
theorem dX11_write_76 : decode cX11_write 76 = .ok (.getfield 19, 3) := by decide +kernel
theorem dX11_write_79 : decode cX11_write 79 = .ok (.aload_n 3, 1) := by decide +kernel
theorem dX11_write_80 : decode cX11_write 80 = .ok (.aload_n 3, 1) := by decide +kernel
theorem dX11_write_81 : decode cX11_write 81 = .ok (.getfield 114, 3) := by decide +kernel
theorem dX11_write_84 : decode cX11_write 84 = .ok (.sipush 600, 3) := by decide +kernel
theorem dX11_write_87 : decode cX11_write 87 = .ok (.invokevirtual 117, 3) := by decide +kernel
theorem dX11_write_90 : decode cX11_write 90 = .ok (.aload_n 3, 1) := by decide +kernel
theorem dX11_write_91 : decode cX11_write 91 = .ok (.aload_n 0, 1) := by decide +kernel
theorem dX11_write_92 : decode cX11_write 92 = .ok (.getfield 19, 3) := by decide +kernel
theorem dX11_write_95 : decode cX11_write 95 = .ok (.invokevirtual 121, 3) := by decide +kernel
theorem dX11_write_98 : decode cX11_write 98 = .ok (.aload_n 0, 1) := by decide +kernel
theorem dX11_write_99 : decode cX11_write 99 = .ok (.getfield 19, 3) := by decide +kernel
theorem dX11_write_102 : decode cX11_write 102 = .ok (.invokevirtual 124, 3) := by decide +kernel
theorem dX11_write_105 : decode cX11_write 105 = .ok (.invokevirtual 127, 3) := by decide +kernel
theorem dX11_write_108 : decode cX11_write 108 = .ok (.aload_n 0, 1) := by decide +kernel
theorem dX11_write_109 : decode cX11_write 109 = .ok (.getfield 46, 3) := by decide +kernel
theorem dX11_write_112 : decode cX11_write 112 = .ok (.iload_n 2, 1) := by decide +kernel
theorem dX11_write_113 : decode cX11_write 113 = .ok (.aload_n 3, 1) := by decide +kernel
theorem dX11_write_114 : decode cX11_write 114 = .ok (.aastore, 1) := by decide +kernel
theorem dX11_write_115 : decode cX11_write 115 = .ok (.aload_n 0, 1) := by decide +kernel
theorem dX11_write_116 : decode cX11_write 116 = .ok (.iload_n 2, 1) := by decide +kernel
theorem dX11_write_117 : decode cX11_write 117 = .ok (.iconst 1, 1) := by decide +kernel
theorem dX11_write_118 : decode cX11_write 118 = .ok (.iadd, 1) := by decide +kernel
theorem dX11_write_119 : decode cX11_write 119 = .ok (.putfield 105, 3) := by decide +kernel
theorem dX11_write_122 : decode cX11_write 122 = .ok (.aload_n 0, 1) := by decide +kernel
theorem dX11_write_123 : decode cX11_write 123 = .ok (.getfield 10, 3) := by decide +kernel
theorem dX11_write_126 : decode cX11_write 126 = .ok (.invokevirtual 97, 3) := by decide +kernel
theorem dX11_write_129 : decode cX11_write 129 = .ok (.iload_n 2, 1) := by decide +kernel
theorem dX11_write_130 : decode cX11_write 130 = .ok (.ireturn, 1) := by decide +kernel
theorem dX11_exercise_0 : decode cX11_exercise 0 = .ok (.aload_n 0, 1) := by decide +kernel
theorem dX11_exercise_1 : decode cX11_exercise 1 = .ok (.iload_n 1, 1) := by decide +kernel
theorem dX11_exercise_2 : decode cX11_exercise 2 = .ok (.invokevirtual 131, 3) := by decide +kernel
theorem dX11_exercise_5 : decode cX11_exercise 5 = .ok (.astore 4, 2) := by decide +kernel
theorem dX11_exercise_7 : decode cX11_exercise 7 = .ok (.iload_n 2, 1) := by decide +kernel
theorem dX11_exercise_8 : decode cX11_exercise 8 = .ok (.iload_n 3, 1) := by decide +kernel
theorem dX11_exercise_9 : decode cX11_exercise 9 = .ok (.invokestatic 135, 3) := by decide +kernel
theorem dX11_exercise_12 : decode cX11_exercise 12 = .ok (.aload_n 0, 1) := by decide +kernel
theorem dX11_exercise_13 : decode cX11_exercise 13 = .ok (.getfield 138, 3) := by decide +kernel
theorem dX11_exercise_16 : decode cX11_exercise 16 = .ok (.istore 5, 2) := by decide +kernel
theorem dX11_exercise_18 : decode cX11_exercise 18 = .ok (.iload 5, 2) := by decide +kernel
theorem dX11_exercise_20 : decode cX11_exercise 20 = .ok (.ifCond .lt 13, 3) := by decide +kernel
theorem dX11_exercise_23 : decode cX11_exercise 23 = .ok (.iload 5, 2) := by decide +kernel
theorem dX11_exercise_25 : decode cX11_exercise 25 = .ok (.aload_n 0, 1) := by decide +kernel
theorem dX11_exercise_26 : decode cX11_exercise 26 = .ok (.getfield 52, 3) := by decide +kernel
theorem dX11_exercise_29 : decode cX11_exercise 29 = .ok (.arraylength, 1) := by decide +kernel
theorem dX11_exercise_30 : decode cX11_exercise 30 = .ok (.if_icmp .lt 13, 3) := by decide +kernel
theorem dX11_exercise_33 : decode cX11_exercise 33 = .ok (.new 85, 3) := by decide +kernel
theorem dX11_exercise_36 : decode cX11_exercise 36 = .ok (.dup, 1) := by decide +kernel
theorem dX11_exercise_37 : decode cX11_exercise 37 = .ok (.ldc 141, 2) := by decide +kernel
theorem dX11_exercise_39 : decode cX11_exercise 39 = .ok (.invokespecial 89, 3) := by decide +kernel
theorem dX11_exercise_42 : decode cX11_exercise 42 = .ok (.athrow, 1) := by decide +kernel
theorem dX11_exercise_43 : decode cX11_exercise 43 = .ok (.aload_n 0, 1) := by decide +kernel
theorem dX11_exercise_44 : decode cX11_exercise 44 = .ok (.getfield 52, 3) := by decide +kernel
theorem dX11_exercise_47 : decode cX11_exercise 47 = .ok (.iload 5, 2) := by decide +kernel
theorem dX11_exercise_49 : decode cX11_exercise 49 = .ok (.new 50, 3) := by decide +kernel
theorem dX11_exercise_52 : decode cX11_exercise 52 = .ok (.dup, 1) := by decide +kernel
theorem dX11_exercise_53 : decode cX11_exercise 53 = .ok (.aload 4, 2) := by decide +kernel
theorem dX11_exercise_55 : decode cX11_exercise 55 = .ok (.iload_n 2, 1) := by decide +kernel
theorem dX11_exercise_56 : decode cX11_exercise 56 = .ok (.iload_n 3, 1) := by decide +kernel
theorem dX11_exercise_57 : decode cX11_exercise 57 = .ok (.invokespecial 143, 3) := by decide +kernel
theorem dX11_exercise_60 : decode cX11_exercise 60 = .ok (.aastore, 1) := by decide +kernel
theorem dX11_exercise_61 : decode cX11_exercise 61 = .ok (.aload_n 0, 1) := by decide +kernel
theorem dX11_exercise_62 : decode cX11_exercise 62 = .ok (.iload 5, 2) := by decide +kernel
theorem dX11_exercise_64 : decode cX11_exercise 64 = .ok (.iconst 1, 1) := by decide +kernel
theorem dX11_exercise_65 : decode cX11_exercise 65 = .ok (.iadd, 1) := by decide +kernel
theorem dX11_exercise_66 : decode cX11_exercise 66 = .ok (.putfield 138, 3) := by decide +kernel
theorem dX11_exercise_69 : decode cX11_exercise 69 = .ok (.iload 5, 2) := by decide +kernel
theorem dX11_exercise_71 : decode cX11_exercise 71 = .ok (.ireturn, 1) := by decide +kernel
theorem dX11_allow_0 : decode cX11_allow 0 = .ok (.aload_n 0, 1) := by decide +kernel
theorem dX11_allow_1 : decode cX11_allow 1 = .ok (.iload_n 1, 1) := by decide +kernel
theorem dX11_allow_2 : decode cX11_allow 2 = .ok (.invokevirtual 146, 3) := by decide +kernel
theorem dX11_allow_5 : decode cX11_allow 5 = .ok (.astore 4, 2) := by decide +kernel
theorem dX11_allow_7 : decode cX11_allow 7 = .ok (.iload_n 2, 1) := by decide +kernel
theorem dX11_allow_8 : decode cX11_allow 8 = .ok (.iload_n 3, 1) := by decide +kernel
theorem dX11_allow_9 : decode cX11_allow 9 = .ok (.invokestatic 135, 3) := by decide +kernel
theorem dX11_allow_12 : decode cX11_allow 12 = .ok (.aload 4, 2) := by decide +kernel
theorem dX11_allow_14 : decode cX11_allow 14 = .ok (.iload_n 2, 1) := by decide +kernel
theorem dX11_allow_15 : decode cX11_allow 15 = .ok (.iload_n 3, 1) := by decide +kernel
theorem dX11_allow_16 : decode cX11_allow 16 = .ok (.invokevirtual 150, 3) := by decide +kernel
theorem dX11_allow_19 : decode cX11_allow 19 = .ok (.aload_n 0, 1) := by decide +kernel
theorem dX11_allow_20 : decode cX11_allow 20 = .ok (.invokevirtual 153, 3) := by decide +kernel
theorem dX11_allow_23 : decode cX11_allow 23 = .ok (.aload_n 0, 1) := by decide +kernel
theorem dX11_allow_24 : decode cX11_allow 24 = .ok (.aload 4, 2) := by decide +kernel
theorem dX11_allow_26 : decode cX11_allow 26 = .ok (.invokevirtual 156, 3) := by decide +kernel
theorem dX11_allow_29 : decode cX11_allow 29 = .ok (.ireturn, 1) := by decide +kernel
theorem dX11_handIn_0 : decode cX11_handIn 0 = .ok (.aload_n 0, 1) := by decide +kernel
theorem dX11_handIn_1 : decode cX11_handIn 1 = .ok (.iload_n 1, 1) := by decide +kernel
theorem dX11_handIn_2 : decode cX11_handIn 2 = .ok (.invokevirtual 131, 3) := by decide +kernel
theorem dX11_handIn_5 : decode cX11_handIn 5 = .ok (.astore_n 3, 1) := by decide +kernel
theorem dX11_handIn_6 : decode cX11_handIn 6 = .ok (.aload_n 0, 1) := by decide +kernel
theorem dX11_handIn_7 : decode cX11_handIn 7 = .ok (.iload_n 2, 1) := by decide +kernel
theorem dX11_handIn_8 : decode cX11_handIn 8 = .ok (.invokevirtual 146, 3) := by decide +kernel
theorem dX11_handIn_11 : decode cX11_handIn 11 = .ok (.astore 4, 2) := by decide +kernel
theorem dX11_handIn_13 : decode cX11_handIn 13 = .ok (.aload_n 0, 1) := by decide +kernel
theorem dX11_handIn_14 : decode cX11_handIn 14 = .ok (.getfield 160, 3) := by decide +kernel
theorem dX11_handIn_17 : decode cX11_handIn 17 = .ok (.istore 5, 2) := by decide +kernel
theorem dX11_handIn_19 : decode cX11_handIn 19 = .ok (.iload 5, 2) := by decide +kernel
theorem dX11_handIn_21 : decode cX11_handIn 21 = .ok (.ifCond .lt 13, 3) := by decide +kernel
theorem dX11_handIn_24 : decode cX11_handIn 24 = .ok (.iload 5, 2) := by decide +kernel
theorem dX11_handIn_26 : decode cX11_handIn 26 = .ok (.aload_n 0, 1) := by decide +kernel
theorem dX11_handIn_27 : decode cX11_handIn 27 = .ok (.getfield 58, 3) := by decide +kernel
theorem dX11_handIn_30 : decode cX11_handIn 30 = .ok (.arraylength, 1) := by decide +kernel
theorem dX11_handIn_31 : decode cX11_handIn 31 = .ok (.if_icmp .lt 13, 3) := by decide +kernel
theorem dX11_handIn_34 : decode cX11_handIn 34 = .ok (.new 85, 3) := by decide +kernel
theorem dX11_handIn_37 : decode cX11_handIn 37 = .ok (.dup, 1) := by decide +kernel
theorem dX11_handIn_38 : decode cX11_handIn 38 = .ok (.ldc 163, 2) := by decide +kernel
theorem dX11_handIn_40 : decode cX11_handIn 40 = .ok (.invokespecial 89, 3) := by decide +kernel
theorem dX11_handIn_43 : decode cX11_handIn 43 = .ok (.athrow, 1) := by decide +kernel
theorem dX11_handIn_44 : decode cX11_handIn 44 = .ok (.aload_n 0, 1) := by decide +kernel
theorem dX11_handIn_45 : decode cX11_handIn 45 = .ok (.getfield 58, 3) := by decide +kernel
theorem dX11_handIn_48 : decode cX11_handIn 48 = .ok (.iload 5, 2) := by decide +kernel
theorem dX11_handIn_50 : decode cX11_handIn 50 = .ok (.new 56, 3) := by decide +kernel
theorem dX11_handIn_53 : decode cX11_handIn 53 = .ok (.dup, 1) := by decide +kernel
theorem dX11_handIn_54 : decode cX11_handIn 54 = .ok (.aload_n 3, 1) := by decide +kernel
theorem dX11_handIn_55 : decode cX11_handIn 55 = .ok (.aload 4, 2) := by decide +kernel
theorem dX11_handIn_57 : decode cX11_handIn 57 = .ok (.aload_n 0, 1) := by decide +kernel
theorem dX11_handIn_58 : decode cX11_handIn 58 = .ok (.aload_n 3, 1) := by decide +kernel
theorem dX11_handIn_59 : decode cX11_handIn 59 = .ok (.aload 4, 2) := by decide +kernel
theorem dX11_handIn_61 : decode cX11_handIn 61 = .ok (.invokevirtual 165, 3) := by decide +kernel
theorem dX11_handIn_64 : decode cX11_handIn 64 = .ok (.invokespecial 169, 3) := by decide +kernel
theorem dX11_handIn_67 : decode cX11_handIn 67 = .ok (.aastore, 1) := by decide +kernel
theorem dX11_handIn_68 : decode cX11_handIn 68 = .ok (.aload_n 0, 1) := by decide +kernel
theorem dX11_handIn_69 : decode cX11_handIn 69 = .ok (.iload 5, 2) := by decide +kernel
theorem dX11_handIn_71 : decode cX11_handIn 71 = .ok (.iconst 1, 1) := by decide +kernel
theorem dX11_handIn_72 : decode cX11_handIn 72 = .ok (.iadd, 1) := by decide +kernel
theorem dX11_handIn_73 : decode cX11_handIn 73 = .ok (.putfield 160, 3) := by decide +kernel
theorem dX11_handIn_76 : decode cX11_handIn 76 = .ok (.aload_n 0, 1) := by decide +kernel
theorem dX11_handIn_77 : decode cX11_handIn 77 = .ok (.invokevirtual 153, 3) := by decide +kernel
theorem dX11_handIn_80 : decode cX11_handIn 80 = .ok (.iload 5, 2) := by decide +kernel
theorem dX11_handIn_82 : decode cX11_handIn 82 = .ok (.ireturn, 1) := by decide +kernel
theorem dX11_clear_0 : decode cX11_clear 0 = .ok (.aload_n 0, 1) := by decide +kernel
theorem dX11_clear_1 : decode cX11_clear 1 = .ok (.iload_n 1, 1) := by decide +kernel
theorem dX11_clear_2 : decode cX11_clear 2 = .ok (.invokevirtual 172, 3) := by decide +kernel
theorem dX11_clear_5 : decode cX11_clear 5 = .ok (.astore_n 3, 1) := by decide +kernel
theorem dX11_clear_6 : decode cX11_clear 6 = .ok (.aload_n 3, 1) := by decide +kernel
theorem dX11_clear_7 : decode cX11_clear 7 = .ok (.getfield 176, 3) := by decide +kernel
theorem dX11_clear_10 : decode cX11_clear 10 = .ok (.istore 4, 2) := by decide +kernel
theorem dX11_clear_12 : decode cX11_clear 12 = .ok (.aload_n 3, 1) := by decide +kernel
theorem dX11_clear_13 : decode cX11_clear 13 = .ok (.iload_n 2, 1) := by decide +kernel
theorem dX11_clear_14 : decode cX11_clear 14 = .ok (.putfield 176, 3) := by decide +kernel
theorem dX11_clear_17 : decode cX11_clear 17 = .ok (.aload_n 0, 1) := by decide +kernel
theorem dX11_clear_18 : decode cX11_clear 18 = .ok (.invokevirtual 153, 3) := by decide +kernel
theorem dX11_clear_21 : decode cX11_clear 21 = .ok (.iload 4, 2) := by decide +kernel
theorem dX11_clear_23 : decode cX11_clear 23 = .ok (.ireturn, 1) := by decide +kernel
theorem dX11_setWall_0 : decode cX11_setWall 0 = .ok (.iload_n 1, 1) := by decide +kernel
theorem dX11_setWall_1 : decode cX11_setWall 1 = .ok (.iconst 1, 1) := by decide +kernel
theorem dX11_setWall_2 : decode cX11_setWall 2 = .ok (.if_icmp .lt 20, 3) := by decide +kernel
theorem dX11_setWall_5 : decode cX11_setWall 5 = .ok (.iload_n 1, 1) := by decide +kernel
theorem dX11_setWall_6 : decode cX11_setWall 6 = .ok (.bipush 40, 2) := by decide +kernel
theorem dX11_setWall_8 : decode cX11_setWall 8 = .ok (.if_icmp .gt 14, 3) := by decide +kernel
theorem dX11_setWall_11 : decode cX11_setWall 11 = .ok (.iload_n 2, 1) := by decide +kernel
theorem dX11_setWall_12 : decode cX11_setWall 12 = .ok (.iconst 1, 1) := by decide +kernel
theorem dX11_setWall_13 : decode cX11_setWall 13 = .ok (.if_icmp .lt 9, 3) := by decide +kernel
theorem dX11_setWall_16 : decode cX11_setWall 16 = .ok (.iload_n 2, 1) := by decide +kernel
theorem dX11_setWall_17 : decode cX11_setWall 17 = .ok (.bipush 40, 2) := by decide +kernel
theorem dX11_setWall_19 : decode cX11_setWall 19 = .ok (.if_icmp .le 13, 3) := by decide +kernel
theorem dX11_setWall_22 : decode cX11_setWall 22 = .ok (.new 180, 3) := by decide +kernel
theorem dX11_setWall_25 : decode cX11_setWall 25 = .ok (.dup, 1) := by decide +kernel
theorem dX11_setWall_26 : decode cX11_setWall 26 = .ok (.ldc 182, 2) := by decide +kernel
theorem dX11_setWall_28 : decode cX11_setWall 28 = .ok (.invokespecial 184, 3) := by decide +kernel
theorem dX11_setWall_31 : decode cX11_setWall 31 = .ok (.athrow, 1) := by decide +kernel
theorem dX11_setWall_32 : decode cX11_setWall 32 = .ok (.aload_n 0, 1) := by decide +kernel
theorem dX11_setWall_33 : decode cX11_setWall 33 = .ok (.getfield 40, 3) := by decide +kernel
theorem dX11_setWall_36 : decode cX11_setWall 36 = .ok (.iload_n 1, 1) := by decide +kernel
theorem dX11_setWall_37 : decode cX11_setWall 37 = .ok (.iload_n 2, 1) := by decide +kernel
theorem dX11_setWall_38 : decode cX11_setWall 38 = .ok (.invokevirtual 185, 3) := by decide +kernel
theorem dX11_setWall_41 : decode cX11_setWall 41 = .ok (.aload_n 0, 1) := by decide +kernel
theorem dX11_setWall_42 : decode cX11_setWall 42 = .ok (.invokevirtual 153, 3) := by decide +kernel
theorem dX11_setWall_45 : decode cX11_setWall 45 = .ok (.aload_n 0, 1) := by decide +kernel
theorem dX11_setWall_46 : decode cX11_setWall 46 = .ok (.invokevirtual 188, 3) := by decide +kernel
theorem dX11_setWall_49 : decode cX11_setWall 49 = .ok (.ireturn, 1) := by decide +kernel
theorem dX11_drafted_0 : decode cX11_drafted 0 = .ok (.aload_n 0, 1) := by decide +kernel
theorem dX11_drafted_1 : decode cX11_drafted 1 = .ok (.getfield 10, 3) := by decide +kernel
theorem dX11_drafted_4 : decode cX11_drafted 4 = .ok (.invokevirtual 94, 3) := by decide +kernel
theorem dX11_drafted_7 : decode cX11_drafted 7 = .ok (.ireturn, 1) := by decide +kernel
theorem dX11_programs_0 : decode cX11_programs 0 = .ok (.aload_n 0, 1) := by decide +kernel
theorem dX11_programs_1 : decode cX11_programs 1 = .ok (.getfield 105, 3) := by decide +kernel
theorem dX11_programs_4 : decode cX11_programs 4 = .ok (.ireturn, 1) := by decide +kernel
theorem dX11_fault_0 : decode cX11_fault 0 = .ok (.aload_n 0, 1) := by decide +kernel
theorem dX11_fault_1 : decode cX11_fault 1 = .ok (.iload_n 1, 1) := by decide +kernel
theorem dX11_fault_2 : decode cX11_fault 2 = .ok (.invokevirtual 131, 3) := by decide +kernel
theorem dX11_fault_5 : decode cX11_fault 5 = .ok (.getfield 191, 3) := by decide +kernel
theorem dX11_fault_8 : decode cX11_fault 8 = .ok (.ireturn, 1) := by decide +kernel
theorem dX11_steps_0 : decode cX11_steps 0 = .ok (.aload_n 0, 1) := by decide +kernel
theorem dX11_steps_1 : decode cX11_steps 1 = .ok (.iload_n 1, 1) := by decide +kernel
theorem dX11_steps_2 : decode cX11_steps 2 = .ok (.invokevirtual 131, 3) := by decide +kernel
theorem dX11_steps_5 : decode cX11_steps 5 = .ok (.getfield 193, 3) := by decide +kernel
theorem dX11_steps_8 : decode cX11_steps 8 = .ok (.ireturn, 1) := by decide +kernel
theorem dX11_strokes_0 : decode cX11_strokes 0 = .ok (.aload_n 0, 1) := by decide +kernel
theorem dX11_strokes_1 : decode cX11_strokes 1 = .ok (.iload_n 1, 1) := by decide +kernel
theorem dX11_strokes_2 : decode cX11_strokes 2 = .ok (.invokevirtual 131, 3) := by decide +kernel
theorem dX11_strokes_5 : decode cX11_strokes 5 = .ok (.getfield 114, 3) := by decide +kernel
theorem dX11_strokes_8 : decode cX11_strokes 8 = .ok (.getfield 195, 3) := by decide +kernel
theorem dX11_strokes_11 : decode cX11_strokes 11 = .ok (.ireturn, 1) := by decide +kernel
theorem dX11_strokesBySteps_0 : decode cX11_strokesBySteps 0 = .ok (.aload_n 0, 1) := by decide +kernel
theorem dX11_strokesBySteps_1 : decode cX11_strokesBySteps 1 = .ok (.iload_n 1, 1) := by decide +kernel
theorem dX11_strokesBySteps_2 : decode cX11_strokesBySteps 2 = .ok (.invokevirtual 131, 3) := by decide +kernel
theorem dX11_strokesBySteps_5 : decode cX11_strokesBySteps 5 = .ok (.astore_n 3, 1) := by decide +kernel
theorem dX11_strokesBySteps_6 : decode cX11_strokesBySteps 6 = .ok (.iload_n 2, 1) := by decide +kernel
theorem dX11_strokesBySteps_7 : decode cX11_strokesBySteps 7 = .ok (.ifCond .lt 10, 3) := by decide +kernel
theorem dX11_strokesBySteps_10 : decode cX11_strokesBySteps 10 = .ok (.iload_n 2, 1) := by decide +kernel
theorem dX11_strokesBySteps_11 : decode cX11_strokesBySteps 11 = .ok (.sipush 600, 3) := by decide +kernel
theorem dX11_strokesBySteps_14 : decode cX11_strokesBySteps 14 = .ok (.if_icmp .le 13, 3) := by decide +kernel
theorem dX11_strokesBySteps_17 : decode cX11_strokesBySteps 17 = .ok (.new 180, 3) := by decide +kernel
theorem dX11_strokesBySteps_20 : decode cX11_strokesBySteps 20 = .ok (.dup, 1) := by decide +kernel
theorem dX11_strokesBySteps_21 : decode cX11_strokesBySteps 21 = .ok (.ldc 198, 2) := by decide +kernel
theorem dX11_strokesBySteps_23 : decode cX11_strokesBySteps 23 = .ok (.invokespecial 184, 3) := by decide +kernel
theorem dX11_strokesBySteps_26 : decode cX11_strokesBySteps 26 = .ok (.athrow, 1) := by decide +kernel
theorem dX11_strokesBySteps_27 : decode cX11_strokesBySteps 27 = .ok (.aload_n 0, 1) := by decide +kernel
theorem dX11_strokesBySteps_28 : decode cX11_strokesBySteps 28 = .ok (.getfield 26, 3) := by decide +kernel
theorem dX11_strokesBySteps_31 : decode cX11_strokesBySteps 31 = .ok (.invokevirtual 200, 3) := by decide +kernel
theorem dX11_strokesBySteps_34 : decode cX11_strokesBySteps 34 = .ok (.aload_n 0, 1) := by decide +kernel
theorem dX11_strokesBySteps_35 : decode cX11_strokesBySteps 35 = .ok (.getfield 19, 3) := by decide +kernel
theorem dX11_strokesBySteps_38 : decode cX11_strokesBySteps 38 = .ok (.aload_n 3, 1) := by decide +kernel
theorem dX11_strokesBySteps_39 : decode cX11_strokesBySteps 39 = .ok (.aload_n 0, 1) := by decide +kernel
theorem dX11_strokesBySteps_40 : decode cX11_strokesBySteps 40 = .ok (.getfield 26, 3) := by decide +kernel
theorem dX11_strokesBySteps_43 : decode cX11_strokesBySteps 43 = .ok (.iload_n 2, 1) := by decide +kernel
theorem dX11_strokesBySteps_44 : decode cX11_strokesBySteps 44 = .ok (.invokevirtual 117, 3) := by decide +kernel
theorem dX11_strokesBySteps_47 : decode cX11_strokesBySteps 47 = .ok (.aload_n 0, 1) := by decide +kernel
theorem dX11_strokesBySteps_48 : decode cX11_strokesBySteps 48 = .ok (.getfield 26, 3) := by decide +kernel
theorem dX11_strokesBySteps_51 : decode cX11_strokesBySteps 51 = .ok (.getfield 195, 3) := by decide +kernel
theorem dX11_strokesBySteps_54 : decode cX11_strokesBySteps 54 = .ok (.ireturn, 1) := by decide +kernel
theorem dX11_isDrawn_0 : decode cX11_isDrawn 0 = .ok (.aload_n 0, 1) := by decide +kernel
theorem dX11_isDrawn_1 : decode cX11_isDrawn 1 = .ok (.iload_n 1, 1) := by decide +kernel
theorem dX11_isDrawn_2 : decode cX11_isDrawn 2 = .ok (.invokevirtual 131, 3) := by decide +kernel
theorem dX11_isDrawn_5 : decode cX11_isDrawn 5 = .ok (.astore 5, 2) := by decide +kernel
theorem dX11_isDrawn_7 : decode cX11_isDrawn 7 = .ok (.iload_n 2, 1) := by decide +kernel
theorem dX11_isDrawn_8 : decode cX11_isDrawn 8 = .ok (.invokestatic 201, 3) := by decide +kernel
theorem dX11_isDrawn_11 : decode cX11_isDrawn 11 = .ok (.ifCond .eq 10, 3) := by decide +kernel
theorem dX11_isDrawn_14 : decode cX11_isDrawn 14 = .ok (.iload_n 3, 1) := by decide +kernel
theorem dX11_isDrawn_15 : decode cX11_isDrawn 15 = .ok (.invokestatic 201, 3) := by decide +kernel
theorem dX11_isDrawn_18 : decode cX11_isDrawn 18 = .ok (.ifCond .ne 13, 3) := by decide +kernel
theorem dX11_isDrawn_21 : decode cX11_isDrawn 21 = .ok (.new 204, 3) := by decide +kernel
theorem dX11_isDrawn_24 : decode cX11_isDrawn 24 = .ok (.dup, 1) := by decide +kernel
theorem dX11_isDrawn_25 : decode cX11_isDrawn 25 = .ok (.ldc 206, 2) := by decide +kernel
theorem dX11_isDrawn_27 : decode cX11_isDrawn 27 = .ok (.invokespecial 208, 3) := by decide +kernel
theorem dX11_isDrawn_30 : decode cX11_isDrawn 30 = .ok (.athrow, 1) := by decide +kernel
theorem dX11_isDrawn_31 : decode cX11_isDrawn 31 = .ok (.aload 5, 2) := by decide +kernel
theorem dX11_isDrawn_33 : decode cX11_isDrawn 33 = .ok (.getfield 114, 3) := by decide +kernel
theorem dX11_isDrawn_36 : decode cX11_isDrawn 36 = .ok (.iload_n 2, 1) := by decide +kernel
theorem dX11_isDrawn_37 : decode cX11_isDrawn 37 = .ok (.iload_n 3, 1) := by decide +kernel
theorem dX11_isDrawn_38 : decode cX11_isDrawn 38 = .ok (.iload 4, 2) := by decide +kernel
theorem dX11_isDrawn_40 : decode cX11_isDrawn 40 = .ok (.invokevirtual 209, 3) := by decide +kernel
theorem dX11_isDrawn_43 : decode cX11_isDrawn 43 = .ok (.ireturn, 1) := by decide +kernel
theorem dX11_areAlike_0 : decode cX11_areAlike 0 = .ok (.aload_n 0, 1) := by decide +kernel
theorem dX11_areAlike_1 : decode cX11_areAlike 1 = .ok (.iload_n 1, 1) := by decide +kernel
theorem dX11_areAlike_2 : decode cX11_areAlike 2 = .ok (.invokevirtual 131, 3) := by decide +kernel
theorem dX11_areAlike_5 : decode cX11_areAlike 5 = .ok (.astore_n 3, 1) := by decide +kernel
theorem dX11_areAlike_6 : decode cX11_areAlike 6 = .ok (.aload_n 0, 1) := by decide +kernel
theorem dX11_areAlike_7 : decode cX11_areAlike 7 = .ok (.iload_n 2, 1) := by decide +kernel
theorem dX11_areAlike_8 : decode cX11_areAlike 8 = .ok (.invokevirtual 131, 3) := by decide +kernel
theorem dX11_areAlike_11 : decode cX11_areAlike 11 = .ok (.astore 4, 2) := by decide +kernel
theorem dX11_areAlike_13 : decode cX11_areAlike 13 = .ok (.aload_n 3, 1) := by decide +kernel
theorem dX11_areAlike_14 : decode cX11_areAlike 14 = .ok (.getfield 114, 3) := by decide +kernel
theorem dX11_areAlike_17 : decode cX11_areAlike 17 = .ok (.aload 4, 2) := by decide +kernel
theorem dX11_areAlike_19 : decode cX11_areAlike 19 = .ok (.getfield 114, 3) := by decide +kernel
theorem dX11_areAlike_22 : decode cX11_areAlike 22 = .ok (.invokevirtual 213, 3) := by decide +kernel
theorem dX11_areAlike_25 : decode cX11_areAlike 25 = .ok (.ireturn, 1) := by decide +kernel
theorem dX11_haveOneForm_0 : decode cX11_haveOneForm 0 = .ok (.aload_n 0, 1) := by decide +kernel
theorem dX11_haveOneForm_1 : decode cX11_haveOneForm 1 = .ok (.iload_n 1, 1) := by decide +kernel
theorem dX11_haveOneForm_2 : decode cX11_haveOneForm 2 = .ok (.invokevirtual 131, 3) := by decide +kernel
theorem dX11_haveOneForm_5 : decode cX11_haveOneForm 5 = .ok (.astore_n 3, 1) := by decide +kernel
theorem dX11_haveOneForm_6 : decode cX11_haveOneForm 6 = .ok (.aload_n 0, 1) := by decide +kernel
theorem dX11_haveOneForm_7 : decode cX11_haveOneForm 7 = .ok (.iload_n 2, 1) := by decide +kernel
theorem dX11_haveOneForm_8 : decode cX11_haveOneForm 8 = .ok (.invokevirtual 131, 3) := by decide +kernel
theorem dX11_haveOneForm_11 : decode cX11_haveOneForm 11 = .ok (.astore 4, 2) := by decide +kernel
theorem dX11_haveOneForm_13 : decode cX11_haveOneForm 13 = .ok (.aload_n 3, 1) := by decide +kernel
theorem dX11_haveOneForm_14 : decode cX11_haveOneForm 14 = .ok (.aload 4, 2) := by decide +kernel
theorem dX11_haveOneForm_16 : decode cX11_haveOneForm 16 = .ok (.invokevirtual 217, 3) := by decide +kernel
theorem dX11_haveOneForm_19 : decode cX11_haveOneForm 19 = .ok (.ireturn, 1) := by decide +kernel
theorem dX11_likeness_0 : decode cX11_likeness 0 = .ok (.aload_n 0, 1) := by decide +kernel
theorem dX11_likeness_1 : decode cX11_likeness 1 = .ok (.iload_n 1, 1) := by decide +kernel
theorem dX11_likeness_2 : decode cX11_likeness 2 = .ok (.invokevirtual 131, 3) := by decide +kernel
theorem dX11_likeness_5 : decode cX11_likeness 5 = .ok (.astore_n 3, 1) := by decide +kernel
theorem dX11_likeness_6 : decode cX11_likeness 6 = .ok (.aload_n 0, 1) := by decide +kernel
theorem dX11_likeness_7 : decode cX11_likeness 7 = .ok (.iload_n 2, 1) := by decide +kernel
theorem dX11_likeness_8 : decode cX11_likeness 8 = .ok (.invokevirtual 131, 3) := by decide +kernel
theorem dX11_likeness_11 : decode cX11_likeness 11 = .ok (.astore 4, 2) := by decide +kernel
theorem dX11_likeness_13 : decode cX11_likeness 13 = .ok (.aload_n 3, 1) := by decide +kernel
theorem dX11_likeness_14 : decode cX11_likeness 14 = .ok (.invokevirtual 221, 3) := by decide +kernel
theorem dX11_likeness_17 : decode cX11_likeness 17 = .ok (.aload 4, 2) := by decide +kernel
theorem dX11_likeness_19 : decode cX11_likeness 19 = .ok (.invokevirtual 221, 3) := by decide +kernel
theorem dX11_likeness_22 : decode cX11_likeness 22 = .ok (.iadd, 1) := by decide +kernel
theorem dX11_likeness_23 : decode cX11_likeness 23 = .ok (.istore 5, 2) := by decide +kernel
theorem dX11_likeness_25 : decode cX11_likeness 25 = .ok (.iload 5, 2) := by decide +kernel
theorem dX11_likeness_27 : decode cX11_likeness 27 = .ok (.ifCond .gt 5, 3) := by decide +kernel
theorem dX11_likeness_30 : decode cX11_likeness 30 = .ok (.iconst 0, 1) := by decide +kernel
theorem dX11_likeness_31 : decode cX11_likeness 31 = .ok (.ireturn, 1) := by decide +kernel
theorem dX11_likeness_32 : decode cX11_likeness 32 = .ok (.sipush 200, 3) := by decide +kernel
theorem dX11_likeness_35 : decode cX11_likeness 35 = .ok (.aload_n 0, 1) := by decide +kernel
theorem dX11_likeness_36 : decode cX11_likeness 36 = .ok (.getfield 33, 3) := by decide +kernel
theorem dX11_likeness_39 : decode cX11_likeness 39 = .ok (.aload_n 3, 1) := by decide +kernel
theorem dX11_likeness_40 : decode cX11_likeness 40 = .ok (.getfield 222, 3) := by decide +kernel
theorem dX11_likeness_43 : decode cX11_likeness 43 = .ok (.aload 4, 2) := by decide +kernel
theorem dX11_likeness_45 : decode cX11_likeness 45 = .ok (.getfield 222, 3) := by decide +kernel
theorem dX11_likeness_48 : decode cX11_likeness 48 = .ok (.invokevirtual 226, 3) := by decide +kernel
theorem dX11_likeness_51 : decode cX11_likeness 51 = .ok (.imul, 1) := by decide +kernel
theorem dX11_likeness_52 : decode cX11_likeness 52 = .ok (.iload 5, 2) := by decide +kernel
theorem dX11_likeness_54 : decode cX11_likeness 54 = .ok (.idiv, 1) := by decide +kernel
theorem dX11_likeness_55 : decode cX11_likeness 55 = .ok (.ireturn, 1) := by decide +kernel
theorem dX11_works_0 : decode cX11_works 0 = .ok (.aload_n 0, 1) := by decide +kernel
theorem dX11_works_1 : decode cX11_works 1 = .ok (.getfield 160, 3) := by decide +kernel
theorem dX11_works_4 : decode cX11_works 4 = .ok (.ireturn, 1) := by decide +kernel
theorem dX11_meets_0 : decode cX11_meets 0 = .ok (.aload_n 0, 1) := by decide +kernel
theorem dX11_meets_1 : decode cX11_meets 1 = .ok (.iload_n 1, 1) := by decide +kernel
theorem dX11_meets_2 : decode cX11_meets 2 = .ok (.invokevirtual 172, 3) := by decide +kernel
theorem dX11_meets_5 : decode cX11_meets 5 = .ok (.invokevirtual 230, 3) := by decide +kernel
theorem dX11_meets_8 : decode cX11_meets 8 = .ok (.ireturn, 1) := by decide +kernel
theorem dX11_copyOf_0 : decode cX11_copyOf 0 = .ok (.aload_n 0, 1) := by decide +kernel
theorem dX11_copyOf_1 : decode cX11_copyOf 1 = .ok (.iload_n 1, 1) := by decide +kernel
theorem dX11_copyOf_2 : decode cX11_copyOf 2 = .ok (.invokevirtual 172, 3) := by decide +kernel
theorem dX11_copyOf_5 : decode cX11_copyOf 5 = .ok (.getfield 234, 3) := by decide +kernel
theorem dX11_copyOf_8 : decode cX11_copyOf 8 = .ok (.ireturn, 1) := by decide +kernel
theorem dX11_hangs_0 : decode cX11_hangs 0 = .ok (.aload_n 0, 1) := by decide +kernel
theorem dX11_hangs_1 : decode cX11_hangs 1 = .ok (.iload_n 1, 1) := by decide +kernel
theorem dX11_hangs_2 : decode cX11_hangs 2 = .ok (.invokevirtual 172, 3) := by decide +kernel
theorem dX11_hangs_5 : decode cX11_hangs 5 = .ok (.astore_n 2, 1) := by decide +kernel
theorem dX11_hangs_6 : decode cX11_hangs 6 = .ok (.aload_n 2, 1) := by decide +kernel
theorem dX11_hangs_7 : decode cX11_hangs 7 = .ok (.getfield 237, 3) := by decide +kernel
theorem dX11_hangs_10 : decode cX11_hangs 10 = .ok (.ifCond .eq 18, 3) := by decide +kernel
theorem dX11_hangs_13 : decode cX11_hangs 13 = .ok (.bipush 100, 2) := by decide +kernel
theorem dX11_hangs_15 : decode cX11_hangs 15 = .ok (.aload_n 2, 1) := by decide +kernel
theorem dX11_hangs_16 : decode cX11_hangs 16 = .ok (.getfield 240, 3) := by decide +kernel
theorem dX11_hangs_19 : decode cX11_hangs 19 = .ok (.imul, 1) := by decide +kernel
theorem dX11_hangs_20 : decode cX11_hangs 20 = .ok (.aload_n 2, 1) := by decide +kernel
theorem dX11_hangs_21 : decode cX11_hangs 21 = .ok (.getfield 243, 3) := by decide +kernel
theorem dX11_hangs_24 : decode cX11_hangs 24 = .ok (.iadd, 1) := by decide +kernel
theorem dX11_hangs_25 : decode cX11_hangs 25 = .ok (.goto 4, 3) := by decide +kernel
theorem dX11_hangs_28 : decode cX11_hangs 28 = .ok (.iconst (-1), 1) := by decide +kernel
theorem dX11_hangs_29 : decode cX11_hangs 29 = .ok (.ireturn, 1) := by decide +kernel
theorem dX11_onWall_0 : decode cX11_onWall 0 = .ok (.aload_n 0, 1) := by decide +kernel
theorem dX11_onWall_1 : decode cX11_onWall 1 = .ok (.getfield 40, 3) := by decide +kernel
theorem dX11_onWall_4 : decode cX11_onWall 4 = .ok (.iload_n 1, 1) := by decide +kernel
theorem dX11_onWall_5 : decode cX11_onWall 5 = .ok (.iload_n 2, 1) := by decide +kernel
theorem dX11_onWall_6 : decode cX11_onWall 6 = .ok (.invokevirtual 246, 3) := by decide +kernel
theorem dX11_onWall_9 : decode cX11_onWall 9 = .ok (.ifCond .ne 13, 3) := by decide +kernel
theorem dX11_onWall_12 : decode cX11_onWall 12 = .ok (.new 204, 3) := by decide +kernel
theorem dX11_onWall_15 : decode cX11_onWall 15 = .ok (.dup, 1) := by decide +kernel
theorem dX11_onWall_16 : decode cX11_onWall 16 = .ok (.ldc 250, 2) := by decide +kernel
theorem dX11_onWall_18 : decode cX11_onWall 18 = .ok (.invokespecial 208, 3) := by decide +kernel
theorem dX11_onWall_21 : decode cX11_onWall 21 = .ok (.athrow, 1) := by decide +kernel
theorem dX11_onWall_22 : decode cX11_onWall 22 = .ok (.iconst 0, 1) := by decide +kernel
theorem dX11_onWall_23 : decode cX11_onWall 23 = .ok (.istore_n 3, 1) := by decide +kernel
theorem dX11_onWall_24 : decode cX11_onWall 24 = .ok (.iload_n 3, 1) := by decide +kernel
theorem dX11_onWall_25 : decode cX11_onWall 25 = .ok (.aload_n 0, 1) := by decide +kernel
theorem dX11_onWall_26 : decode cX11_onWall 26 = .ok (.getfield 160, 3) := by decide +kernel
theorem dX11_onWall_29 : decode cX11_onWall 29 = .ok (.if_icmp .ge 43, 3) := by decide +kernel
theorem dX11_onWall_32 : decode cX11_onWall 32 = .ok (.iload_n 3, 1) := by decide +kernel
theorem dX11_onWall_33 : decode cX11_onWall 33 = .ok (.aload_n 0, 1) := by decide +kernel
theorem dX11_onWall_34 : decode cX11_onWall 34 = .ok (.getfield 58, 3) := by decide +kernel
theorem dX11_onWall_37 : decode cX11_onWall 37 = .ok (.arraylength, 1) := by decide +kernel
theorem dX11_onWall_38 : decode cX11_onWall 38 = .ok (.if_icmp .ge 34, 3) := by decide +kernel
theorem dX11_onWall_41 : decode cX11_onWall 41 = .ok (.aload_n 0, 1) := by decide +kernel
theorem dX11_onWall_42 : decode cX11_onWall 42 = .ok (.getfield 58, 3) := by decide +kernel
theorem dX11_onWall_45 : decode cX11_onWall 45 = .ok (.iload_n 3, 1) := by decide +kernel
theorem dX11_onWall_46 : decode cX11_onWall 46 = .ok (.aaload, 1) := by decide +kernel
theorem dX11_onWall_47 : decode cX11_onWall 47 = .ok (.astore 4, 2) := by decide +kernel
theorem dX11_onWall_49 : decode cX11_onWall 49 = .ok (.aload 4, 2) := by decide +kernel
theorem dX11_onWall_51 : decode cX11_onWall 51 = .ok (.ifnull 15, 3) := by decide +kernel
theorem dX11_onWall_54 : decode cX11_onWall 54 = .ok (.aload 4, 2) := by decide +kernel
theorem dX11_onWall_56 : decode cX11_onWall 56 = .ok (.iload_n 1, 1) := by decide +kernel
theorem dX11_onWall_57 : decode cX11_onWall 57 = .ok (.iload_n 2, 1) := by decide +kernel
theorem dX11_onWall_58 : decode cX11_onWall 58 = .ok (.invokevirtual 252, 3) := by decide +kernel
theorem dX11_onWall_61 : decode cX11_onWall 61 = .ok (.ifCond .eq 5, 3) := by decide +kernel
theorem dX11_onWall_64 : decode cX11_onWall 64 = .ok (.iload_n 3, 1) := by decide +kernel
theorem dX11_onWall_65 : decode cX11_onWall 65 = .ok (.ireturn, 1) := by decide +kernel
theorem dX11_onWall_66 : decode cX11_onWall 66 = .ok (.iinc 3 1, 3) := by decide +kernel
theorem dX11_onWall_69 : decode cX11_onWall 69 = .ok (.goto (-45), 3) := by decide +kernel
theorem dX11_onWall_72 : decode cX11_onWall 72 = .ok (.iconst (-1), 1) := by decide +kernel
theorem dX11_onWall_73 : decode cX11_onWall 73 = .ok (.ireturn, 1) := by decide +kernel
theorem dX11_hung_0 : decode cX11_hung 0 = .ok (.iload_n 1, 1) := by decide +kernel
theorem dX11_hung_1 : decode cX11_hung 1 = .ok (.invokestatic 100, 3) := by decide +kernel
theorem dX11_hung_4 : decode cX11_hung 4 = .ok (.iconst 0, 1) := by decide +kernel
theorem dX11_hung_5 : decode cX11_hung 5 = .ok (.istore_n 2, 1) := by decide +kernel
theorem dX11_hung_6 : decode cX11_hung 6 = .ok (.iconst 0, 1) := by decide +kernel
theorem dX11_hung_7 : decode cX11_hung 7 = .ok (.istore_n 3, 1) := by decide +kernel
theorem dX11_hung_8 : decode cX11_hung 8 = .ok (.iload_n 3, 1) := by decide +kernel
theorem dX11_hung_9 : decode cX11_hung 9 = .ok (.aload_n 0, 1) := by decide +kernel
theorem dX11_hung_10 : decode cX11_hung 10 = .ok (.getfield 160, 3) := by decide +kernel
theorem dX11_hung_13 : decode cX11_hung 13 = .ok (.if_icmp .ge 54, 3) := by decide +kernel
theorem dX11_hung_16 : decode cX11_hung 16 = .ok (.iload_n 3, 1) := by decide +kernel
theorem dX11_hung_17 : decode cX11_hung 17 = .ok (.aload_n 0, 1) := by decide +kernel
theorem dX11_hung_18 : decode cX11_hung 18 = .ok (.getfield 58, 3) := by decide +kernel
theorem dX11_hung_21 : decode cX11_hung 21 = .ok (.arraylength, 1) := by decide +kernel
theorem dX11_hung_22 : decode cX11_hung 22 = .ok (.if_icmp .ge 45, 3) := by decide +kernel
theorem dX11_hung_25 : decode cX11_hung 25 = .ok (.aload_n 0, 1) := by decide +kernel
theorem dX11_hung_26 : decode cX11_hung 26 = .ok (.getfield 58, 3) := by decide +kernel
theorem dX11_hung_29 : decode cX11_hung 29 = .ok (.iload_n 3, 1) := by decide +kernel
theorem dX11_hung_30 : decode cX11_hung 30 = .ok (.aaload, 1) := by decide +kernel
theorem dX11_hung_31 : decode cX11_hung 31 = .ok (.astore 4, 2) := by decide +kernel
theorem dX11_hung_33 : decode cX11_hung 33 = .ok (.aload 4, 2) := by decide +kernel
theorem dX11_hung_35 : decode cX11_hung 35 = .ok (.ifnull 26, 3) := by decide +kernel
theorem dX11_hung_38 : decode cX11_hung 38 = .ok (.aload 4, 2) := by decide +kernel
theorem dX11_hung_40 : decode cX11_hung 40 = .ok (.getfield 237, 3) := by decide +kernel
theorem dX11_hung_43 : decode cX11_hung 43 = .ok (.ifCond .eq 18, 3) := by decide +kernel
theorem dX11_hung_46 : decode cX11_hung 46 = .ok (.aload 4, 2) := by decide +kernel
theorem dX11_hung_48 : decode cX11_hung 48 = .ok (.getfield 255, 3) := by decide +kernel
theorem dX11_hung_51 : decode cX11_hung 51 = .ok (.getfield 259, 3) := by decide +kernel
theorem dX11_hung_54 : decode cX11_hung 54 = .ok (.iload_n 1, 1) := by decide +kernel
theorem dX11_hung_55 : decode cX11_hung 55 = .ok (.if_icmp .ne 6, 3) := by decide +kernel
theorem dX11_hung_58 : decode cX11_hung 58 = .ok (.iinc 2 1, 3) := by decide +kernel
theorem dX11_hung_61 : decode cX11_hung 61 = .ok (.iinc 3 1, 3) := by decide +kernel
theorem dX11_hung_64 : decode cX11_hung 64 = .ok (.goto (-56), 3) := by decide +kernel
theorem dX11_hung_67 : decode cX11_hung 67 = .ok (.iload_n 2, 1) := by decide +kernel
theorem dX11_hung_68 : decode cX11_hung 68 = .ok (.ireturn, 1) := by decide +kernel
theorem dX11_checkName_0 : decode cX11_checkName 0 = .ok (.iload_n 0, 1) := by decide +kernel
theorem dX11_checkName_1 : decode cX11_checkName 1 = .ok (.ifCond .lt 8, 3) := by decide +kernel
theorem dX11_checkName_4 : decode cX11_checkName 4 = .ok (.iload_n 0, 1) := by decide +kernel
theorem dX11_checkName_5 : decode cX11_checkName 5 = .ok (.iconst 4, 1) := by decide +kernel
theorem dX11_checkName_6 : decode cX11_checkName 6 = .ok (.if_icmp .lt 14, 3) := by decide +kernel
theorem dX11_checkName_9 : decode cX11_checkName 9 = .ok (.new 204, 3) := by decide +kernel
theorem dX11_checkName_12 : decode cX11_checkName 12 = .ok (.dup, 1) := by decide +kernel
theorem dX11_checkName_13 : decode cX11_checkName 13 = .ok (.ldc_w 262, 3) := by decide +kernel
theorem dX11_checkName_16 : decode cX11_checkName 16 = .ok (.invokespecial 208, 3) := by decide +kernel
theorem dX11_checkName_19 : decode cX11_checkName 19 = .ok (.athrow, 1) := by decide +kernel
theorem dX11_checkName_20 : decode cX11_checkName 20 = .ok (.return_, 1) := by decide +kernel
theorem dX11_checkWord_0 : decode cX11_checkWord 0 = .ok (.iload_n 0, 1) := by decide +kernel
theorem dX11_checkWord_1 : decode cX11_checkWord 1 = .ok (.ifCond .lt 8, 3) := by decide +kernel
theorem dX11_checkWord_4 : decode cX11_checkWord 4 = .ok (.iload_n 0, 1) := by decide +kernel
theorem dX11_checkWord_5 : decode cX11_checkWord 5 = .ok (.iconst 4, 1) := by decide +kernel
theorem dX11_checkWord_6 : decode cX11_checkWord 6 = .ok (.if_icmp .lt 14, 3) := by decide +kernel
theorem dX11_checkWord_9 : decode cX11_checkWord 9 = .ok (.new 204, 3) := by decide +kernel
theorem dX11_checkWord_12 : decode cX11_checkWord 12 = .ok (.dup, 1) := by decide +kernel
theorem dX11_checkWord_13 : decode cX11_checkWord 13 = .ok (.ldc_w 264, 3) := by decide +kernel
theorem dX11_checkWord_16 : decode cX11_checkWord 16 = .ok (.invokespecial 208, 3) := by decide +kernel
theorem dX11_checkWord_19 : decode cX11_checkWord 19 = .ok (.athrow, 1) := by decide +kernel
theorem dX11_checkWord_20 : decode cX11_checkWord 20 = .ok (.return_, 1) := by decide +kernel
theorem dX11_checkPupil_0 : decode cX11_checkPupil 0 = .ok (.iload_n 0, 1) := by decide +kernel
theorem dX11_checkPupil_1 : decode cX11_checkPupil 1 = .ok (.ifCond .lt 9, 3) := by decide +kernel
theorem dX11_checkPupil_4 : decode cX11_checkPupil 4 = .ok (.iload_n 0, 1) := by decide +kernel
theorem dX11_checkPupil_5 : decode cX11_checkPupil 5 = .ok (.bipush 6, 2) := by decide +kernel
theorem dX11_checkPupil_7 : decode cX11_checkPupil 7 = .ok (.if_icmp .lt 14, 3) := by decide +kernel
theorem dX11_checkPupil_10 : decode cX11_checkPupil 10 = .ok (.new 204, 3) := by decide +kernel
theorem dX11_checkPupil_13 : decode cX11_checkPupil 13 = .ok (.dup, 1) := by decide +kernel
theorem dX11_checkPupil_14 : decode cX11_checkPupil 14 = .ok (.ldc_w 266, 3) := by decide +kernel
theorem dX11_checkPupil_17 : decode cX11_checkPupil 17 = .ok (.invokespecial 208, 3) := by decide +kernel
theorem dX11_checkPupil_20 : decode cX11_checkPupil 20 = .ok (.athrow, 1) := by decide +kernel
theorem dX11_checkPupil_21 : decode cX11_checkPupil 21 = .ok (.return_, 1) := by decide +kernel
theorem dX11_checkValue_0 : decode cX11_checkValue 0 = .ok (.iload_n 1, 1) := by decide +kernel
theorem dX11_checkValue_1 : decode cX11_checkValue 1 = .ok (.ifCond .eq 10, 3) := by decide +kernel
theorem dX11_checkValue_4 : decode cX11_checkValue 4 = .ok (.iload_n 0, 1) := by decide +kernel
theorem dX11_checkValue_5 : decode cX11_checkValue 5 = .ok (.invokestatic 70, 3) := by decide +kernel
theorem dX11_checkValue_8 : decode cX11_checkValue 8 = .ok (.goto 25, 3) := by decide +kernel
theorem dX11_checkValue_11 : decode cX11_checkValue 11 = .ok (.iload_n 0, 1) := by decide +kernel
theorem dX11_checkValue_12 : decode cX11_checkValue 12 = .ok (.iload_n 2, 1) := by decide +kernel
theorem dX11_checkValue_13 : decode cX11_checkValue 13 = .ok (.if_icmp .lt 9, 3) := by decide +kernel
theorem dX11_checkValue_16 : decode cX11_checkValue 16 = .ok (.iload_n 0, 1) := by decide +kernel
theorem dX11_checkValue_17 : decode cX11_checkValue 17 = .ok (.bipush 99, 2) := by decide +kernel
theorem dX11_checkValue_19 : decode cX11_checkValue 19 = .ok (.if_icmp .le 14, 3) := by decide +kernel
theorem dX11_checkValue_22 : decode cX11_checkValue 22 = .ok (.new 180, 3) := by decide +kernel
theorem dX11_checkValue_25 : decode cX11_checkValue 25 = .ok (.dup, 1) := by decide +kernel
theorem dX11_checkValue_26 : decode cX11_checkValue 26 = .ok (.ldc_w 268, 3) := by decide +kernel
theorem dX11_checkValue_29 : decode cX11_checkValue 29 = .ok (.invokespecial 184, 3) := by decide +kernel
theorem dX11_checkValue_32 : decode cX11_checkValue 32 = .ok (.athrow, 1) := by decide +kernel
theorem dX11_checkValue_33 : decode cX11_checkValue 33 = .ok (.return_, 1) := by decide +kernel
theorem dX11_checkAllowance_0 : decode cX11_checkAllowance 0 = .ok (.iload_n 0, 1) := by decide +kernel
theorem dX11_checkAllowance_1 : decode cX11_checkAllowance 1 = .ok (.iconst 1, 1) := by decide +kernel
theorem dX11_checkAllowance_2 : decode cX11_checkAllowance 2 = .ok (.if_icmp .lt 20, 3) := by decide +kernel
theorem dX11_checkAllowance_5 : decode cX11_checkAllowance 5 = .ok (.iload_n 0, 1) := by decide +kernel
theorem dX11_checkAllowance_6 : decode cX11_checkAllowance 6 = .ok (.bipush 30, 2) := by decide +kernel
theorem dX11_checkAllowance_8 : decode cX11_checkAllowance 8 = .ok (.if_icmp .gt 14, 3) := by decide +kernel
theorem dX11_checkAllowance_11 : decode cX11_checkAllowance 11 = .ok (.iload_n 1, 1) := by decide +kernel
theorem dX11_checkAllowance_12 : decode cX11_checkAllowance 12 = .ok (.ifCond .lt 10, 3) := by decide +kernel
theorem dX11_checkAllowance_15 : decode cX11_checkAllowance 15 = .ok (.iload_n 1, 1) := by decide +kernel
theorem dX11_checkAllowance_16 : decode cX11_checkAllowance 16 = .ok (.sipush 600, 3) := by decide +kernel
theorem dX11_checkAllowance_19 : decode cX11_checkAllowance 19 = .ok (.if_icmp .le 14, 3) := by decide +kernel
theorem dX11_checkAllowance_22 : decode cX11_checkAllowance 22 = .ok (.new 180, 3) := by decide +kernel
theorem dX11_checkAllowance_25 : decode cX11_checkAllowance 25 = .ok (.dup, 1) := by decide +kernel
theorem dX11_checkAllowance_26 : decode cX11_checkAllowance 26 = .ok (.ldc_w 270, 3) := by decide +kernel
theorem dX11_checkAllowance_29 : decode cX11_checkAllowance 29 = .ok (.invokespecial 184, 3) := by decide +kernel
theorem dX11_checkAllowance_32 : decode cX11_checkAllowance 32 = .ok (.athrow, 1) := by decide +kernel
theorem dX11_checkAllowance_33 : decode cX11_checkAllowance 33 = .ok (.return_, 1) := by decide +kernel
theorem dX11_isOnGround_0 : decode cX11_isOnGround 0 = .ok (.iload_n 0, 1) := by decide +kernel
theorem dX11_isOnGround_1 : decode cX11_isOnGround 1 = .ok (.ifCond .lt 13, 3) := by decide +kernel
theorem dX11_isOnGround_4 : decode cX11_isOnGround 4 = .ok (.iload_n 0, 1) := by decide +kernel
theorem dX11_isOnGround_5 : decode cX11_isOnGround 5 = .ok (.bipush 16, 2) := by decide +kernel
theorem dX11_isOnGround_7 : decode cX11_isOnGround 7 = .ok (.if_icmp .ge 7, 3) := by decide +kernel
theorem dX11_isOnGround_10 : decode cX11_isOnGround 10 = .ok (.iconst 1, 1) := by decide +kernel
theorem dX11_isOnGround_11 : decode cX11_isOnGround 11 = .ok (.goto 4, 3) := by decide +kernel
theorem dX11_isOnGround_14 : decode cX11_isOnGround 14 = .ok (.iconst 0, 1) := by decide +kernel
theorem dX11_isOnGround_15 : decode cX11_isOnGround 15 = .ok (.ireturn, 1) := by decide +kernel
theorem dX11_addOrder_0 : decode cX11_addOrder 0 = .ok (.aload_n 0, 1) := by decide +kernel
theorem dX11_addOrder_1 : decode cX11_addOrder 1 = .ok (.getfield 10, 3) := by decide +kernel
theorem dX11_addOrder_4 : decode cX11_addOrder 4 = .ok (.invokevirtual 94, 3) := by decide +kernel
theorem dX11_addOrder_7 : decode cX11_addOrder 7 = .ok (.bipush 30, 2) := by decide +kernel
theorem dX11_addOrder_9 : decode cX11_addOrder 9 = .ok (.if_icmp .lt 14, 3) := by decide +kernel
theorem dX11_addOrder_12 : decode cX11_addOrder 12 = .ok (.new 85, 3) := by decide +kernel
theorem dX11_addOrder_15 : decode cX11_addOrder 15 = .ok (.dup, 1) := by decide +kernel
theorem dX11_addOrder_16 : decode cX11_addOrder 16 = .ok (.ldc_w 272, 3) := by decide +kernel
theorem dX11_addOrder_19 : decode cX11_addOrder 19 = .ok (.invokespecial 89, 3) := by decide +kernel
theorem dX11_addOrder_22 : decode cX11_addOrder 22 = .ok (.athrow, 1) := by decide +kernel
theorem dX11_addOrder_23 : decode cX11_addOrder 23 = .ok (.aload_n 0, 1) := by decide +kernel
theorem dX11_addOrder_24 : decode cX11_addOrder 24 = .ok (.getfield 10, 3) := by decide +kernel
theorem dX11_addOrder_27 : decode cX11_addOrder 27 = .ok (.new 274, 3) := by decide +kernel
theorem dX11_addOrder_30 : decode cX11_addOrder 30 = .ok (.dup, 1) := by decide +kernel
theorem dX11_addOrder_31 : decode cX11_addOrder 31 = .ok (.iload_n 1, 1) := by decide +kernel
theorem dX11_addOrder_32 : decode cX11_addOrder 32 = .ok (.iload_n 2, 1) := by decide +kernel
theorem dX11_addOrder_33 : decode cX11_addOrder 33 = .ok (.iload_n 3, 1) := by decide +kernel
theorem dX11_addOrder_34 : decode cX11_addOrder 34 = .ok (.iload 4, 2) := by decide +kernel
theorem dX11_addOrder_36 : decode cX11_addOrder 36 = .ok (.invokespecial 276, 3) := by decide +kernel
theorem dX11_addOrder_39 : decode cX11_addOrder 39 = .ok (.invokevirtual 279, 3) := by decide +kernel
theorem dX11_addOrder_42 : decode cX11_addOrder 42 = .ok (.aload_n 0, 1) := by decide +kernel
theorem dX11_addOrder_43 : decode cX11_addOrder 43 = .ok (.getfield 10, 3) := by decide +kernel
theorem dX11_addOrder_46 : decode cX11_addOrder 46 = .ok (.invokevirtual 94, 3) := by decide +kernel
theorem dX11_addOrder_49 : decode cX11_addOrder 49 = .ok (.ireturn, 1) := by decide +kernel
theorem dX11_programAt_0 : decode cX11_programAt 0 = .ok (.aconst_null, 1) := by decide +kernel
theorem dX11_programAt_1 : decode cX11_programAt 1 = .ok (.astore_n 2, 1) := by decide +kernel
theorem dX11_programAt_2 : decode cX11_programAt 2 = .ok (.iload_n 1, 1) := by decide +kernel
theorem dX11_programAt_3 : decode cX11_programAt 3 = .ok (.ifCond .lt 27, 3) := by decide +kernel
theorem dX11_programAt_6 : decode cX11_programAt 6 = .ok (.iload_n 1, 1) := by decide +kernel
theorem dX11_programAt_7 : decode cX11_programAt 7 = .ok (.aload_n 0, 1) := by decide +kernel
theorem dX11_programAt_8 : decode cX11_programAt 8 = .ok (.getfield 105, 3) := by decide +kernel
theorem dX11_programAt_11 : decode cX11_programAt 11 = .ok (.if_icmp .ge 19, 3) := by decide +kernel
theorem dX11_programAt_14 : decode cX11_programAt 14 = .ok (.iload_n 1, 1) := by decide +kernel
theorem dX11_programAt_15 : decode cX11_programAt 15 = .ok (.aload_n 0, 1) := by decide +kernel
theorem dX11_programAt_16 : decode cX11_programAt 16 = .ok (.getfield 46, 3) := by decide +kernel
theorem dX11_programAt_19 : decode cX11_programAt 19 = .ok (.arraylength, 1) := by decide +kernel
theorem dX11_programAt_20 : decode cX11_programAt 20 = .ok (.if_icmp .ge 10, 3) := by decide +kernel
theorem dX11_programAt_23 : decode cX11_programAt 23 = .ok (.aload_n 0, 1) := by decide +kernel
theorem dX11_programAt_24 : decode cX11_programAt 24 = .ok (.getfield 46, 3) := by decide +kernel
theorem dX11_programAt_27 : decode cX11_programAt 27 = .ok (.iload_n 1, 1) := by decide +kernel
theorem dX11_programAt_28 : decode cX11_programAt 28 = .ok (.aaload, 1) := by decide +kernel
theorem dX11_programAt_29 : decode cX11_programAt 29 = .ok (.astore_n 2, 1) := by decide +kernel
theorem dX11_programAt_30 : decode cX11_programAt 30 = .ok (.aload_n 2, 1) := by decide +kernel
theorem dX11_programAt_31 : decode cX11_programAt 31 = .ok (.ifnonnull 14, 3) := by decide +kernel
theorem dX11_programAt_34 : decode cX11_programAt 34 = .ok (.new 204, 3) := by decide +kernel
theorem dX11_programAt_37 : decode cX11_programAt 37 = .ok (.dup, 1) := by decide +kernel
theorem dX11_programAt_38 : decode cX11_programAt 38 = .ok (.ldc_w 283, 3) := by decide +kernel
theorem dX11_programAt_41 : decode cX11_programAt 41 = .ok (.invokespecial 208, 3) := by decide +kernel
theorem dX11_programAt_44 : decode cX11_programAt 44 = .ok (.athrow, 1) := by decide +kernel
theorem dX11_programAt_45 : decode cX11_programAt 45 = .ok (.aload_n 2, 1) := by decide +kernel
theorem dX11_programAt_46 : decode cX11_programAt 46 = .ok (.areturn, 1) := by decide +kernel
theorem dX11_exerciseAt_0 : decode cX11_exerciseAt 0 = .ok (.aconst_null, 1) := by decide +kernel
theorem dX11_exerciseAt_1 : decode cX11_exerciseAt 1 = .ok (.astore_n 2, 1) := by decide +kernel
theorem dX11_exerciseAt_2 : decode cX11_exerciseAt 2 = .ok (.iload_n 1, 1) := by decide +kernel
theorem dX11_exerciseAt_3 : decode cX11_exerciseAt 3 = .ok (.ifCond .lt 27, 3) := by decide +kernel
theorem dX11_exerciseAt_6 : decode cX11_exerciseAt 6 = .ok (.iload_n 1, 1) := by decide +kernel
theorem dX11_exerciseAt_7 : decode cX11_exerciseAt 7 = .ok (.aload_n 0, 1) := by decide +kernel
theorem dX11_exerciseAt_8 : decode cX11_exerciseAt 8 = .ok (.getfield 138, 3) := by decide +kernel
theorem dX11_exerciseAt_11 : decode cX11_exerciseAt 11 = .ok (.if_icmp .ge 19, 3) := by decide +kernel
theorem dX11_exerciseAt_14 : decode cX11_exerciseAt 14 = .ok (.iload_n 1, 1) := by decide +kernel
theorem dX11_exerciseAt_15 : decode cX11_exerciseAt 15 = .ok (.aload_n 0, 1) := by decide +kernel
theorem dX11_exerciseAt_16 : decode cX11_exerciseAt 16 = .ok (.getfield 52, 3) := by decide +kernel
theorem dX11_exerciseAt_19 : decode cX11_exerciseAt 19 = .ok (.arraylength, 1) := by decide +kernel
theorem dX11_exerciseAt_20 : decode cX11_exerciseAt 20 = .ok (.if_icmp .ge 10, 3) := by decide +kernel
theorem dX11_exerciseAt_23 : decode cX11_exerciseAt 23 = .ok (.aload_n 0, 1) := by decide +kernel
theorem dX11_exerciseAt_24 : decode cX11_exerciseAt 24 = .ok (.getfield 52, 3) := by decide +kernel
theorem dX11_exerciseAt_27 : decode cX11_exerciseAt 27 = .ok (.iload_n 1, 1) := by decide +kernel
theorem dX11_exerciseAt_28 : decode cX11_exerciseAt 28 = .ok (.aaload, 1) := by decide +kernel
theorem dX11_exerciseAt_29 : decode cX11_exerciseAt 29 = .ok (.astore_n 2, 1) := by decide +kernel
theorem dX11_exerciseAt_30 : decode cX11_exerciseAt 30 = .ok (.aload_n 2, 1) := by decide +kernel
theorem dX11_exerciseAt_31 : decode cX11_exerciseAt 31 = .ok (.ifnonnull 14, 3) := by decide +kernel
theorem dX11_exerciseAt_34 : decode cX11_exerciseAt 34 = .ok (.new 204, 3) := by decide +kernel
theorem dX11_exerciseAt_37 : decode cX11_exerciseAt 37 = .ok (.dup, 1) := by decide +kernel
theorem dX11_exerciseAt_38 : decode cX11_exerciseAt 38 = .ok (.ldc_w 285, 3) := by decide +kernel
theorem dX11_exerciseAt_41 : decode cX11_exerciseAt 41 = .ok (.invokespecial 208, 3) := by decide +kernel
theorem dX11_exerciseAt_44 : decode cX11_exerciseAt 44 = .ok (.athrow, 1) := by decide +kernel
theorem dX11_exerciseAt_45 : decode cX11_exerciseAt 45 = .ok (.aload_n 2, 1) := by decide +kernel
theorem dX11_exerciseAt_46 : decode cX11_exerciseAt 46 = .ok (.areturn, 1) := by decide +kernel
theorem dX11_workAt_0 : decode cX11_workAt 0 = .ok (.aconst_null, 1) := by decide +kernel
theorem dX11_workAt_1 : decode cX11_workAt 1 = .ok (.astore_n 2, 1) := by decide +kernel
theorem dX11_workAt_2 : decode cX11_workAt 2 = .ok (.iload_n 1, 1) := by decide +kernel
theorem dX11_workAt_3 : decode cX11_workAt 3 = .ok (.ifCond .lt 27, 3) := by decide +kernel
theorem dX11_workAt_6 : decode cX11_workAt 6 = .ok (.iload_n 1, 1) := by decide +kernel
theorem dX11_workAt_7 : decode cX11_workAt 7 = .ok (.aload_n 0, 1) := by decide +kernel
theorem dX11_workAt_8 : decode cX11_workAt 8 = .ok (.getfield 160, 3) := by decide +kernel
theorem dX11_workAt_11 : decode cX11_workAt 11 = .ok (.if_icmp .ge 19, 3) := by decide +kernel
theorem dX11_workAt_14 : decode cX11_workAt 14 = .ok (.iload_n 1, 1) := by decide +kernel
theorem dX11_workAt_15 : decode cX11_workAt 15 = .ok (.aload_n 0, 1) := by decide +kernel
theorem dX11_workAt_16 : decode cX11_workAt 16 = .ok (.getfield 58, 3) := by decide +kernel
theorem dX11_workAt_19 : decode cX11_workAt 19 = .ok (.arraylength, 1) := by decide +kernel
theorem dX11_workAt_20 : decode cX11_workAt 20 = .ok (.if_icmp .ge 10, 3) := by decide +kernel
theorem dX11_workAt_23 : decode cX11_workAt 23 = .ok (.aload_n 0, 1) := by decide +kernel
theorem dX11_workAt_24 : decode cX11_workAt 24 = .ok (.getfield 58, 3) := by decide +kernel
theorem dX11_workAt_27 : decode cX11_workAt 27 = .ok (.iload_n 1, 1) := by decide +kernel
theorem dX11_workAt_28 : decode cX11_workAt 28 = .ok (.aaload, 1) := by decide +kernel
theorem dX11_workAt_29 : decode cX11_workAt 29 = .ok (.astore_n 2, 1) := by decide +kernel
theorem dX11_workAt_30 : decode cX11_workAt 30 = .ok (.aload_n 2, 1) := by decide +kernel
theorem dX11_workAt_31 : decode cX11_workAt 31 = .ok (.ifnonnull 14, 3) := by decide +kernel
theorem dX11_workAt_34 : decode cX11_workAt 34 = .ok (.new 204, 3) := by decide +kernel
theorem dX11_workAt_37 : decode cX11_workAt 37 = .ok (.dup, 1) := by decide +kernel
theorem dX11_workAt_38 : decode cX11_workAt 38 = .ok (.ldc_w 287, 3) := by decide +kernel
theorem dX11_workAt_41 : decode cX11_workAt 41 = .ok (.invokespecial 208, 3) := by decide +kernel
theorem dX11_workAt_44 : decode cX11_workAt 44 = .ok (.athrow, 1) := by decide +kernel
theorem dX11_workAt_45 : decode cX11_workAt 45 = .ok (.aload_n 2, 1) := by decide +kernel
theorem dX11_workAt_46 : decode cX11_workAt 46 = .ok (.areturn, 1) := by decide +kernel
theorem dX11_findOriginal_0 : decode cX11_findOriginal 0 = .ok (.iconst 0, 1) := by decide +kernel
theorem dX11_findOriginal_1 : decode cX11_findOriginal 1 = .ok (.istore_n 3, 1) := by decide +kernel
theorem dX11_findOriginal_2 : decode cX11_findOriginal 2 = .ok (.iload_n 3, 1) := by decide +kernel
theorem dX11_findOriginal_3 : decode cX11_findOriginal 3 = .ok (.aload_n 0, 1) := by decide +kernel
theorem dX11_findOriginal_4 : decode cX11_findOriginal 4 = .ok (.getfield 160, 3) := by decide +kernel
theorem dX11_findOriginal_7 : decode cX11_findOriginal 7 = .ok (.if_icmp .ge 69, 3) := by decide +kernel
theorem dX11_findOriginal_10 : decode cX11_findOriginal 10 = .ok (.iload_n 3, 1) := by decide +kernel
theorem dX11_findOriginal_11 : decode cX11_findOriginal 11 = .ok (.aload_n 0, 1) := by decide +kernel
theorem dX11_findOriginal_12 : decode cX11_findOriginal 12 = .ok (.getfield 58, 3) := by decide +kernel
theorem dX11_findOriginal_15 : decode cX11_findOriginal 15 = .ok (.arraylength, 1) := by decide +kernel
theorem dX11_findOriginal_16 : decode cX11_findOriginal 16 = .ok (.if_icmp .ge 60, 3) := by decide +kernel
theorem dX11_findOriginal_19 : decode cX11_findOriginal 19 = .ok (.aload_n 0, 1) := by decide +kernel
theorem dX11_findOriginal_20 : decode cX11_findOriginal 20 = .ok (.getfield 58, 3) := by decide +kernel
theorem dX11_findOriginal_23 : decode cX11_findOriginal 23 = .ok (.iload_n 3, 1) := by decide +kernel
theorem dX11_findOriginal_24 : decode cX11_findOriginal 24 = .ok (.aaload, 1) := by decide +kernel
theorem dX11_findOriginal_25 : decode cX11_findOriginal 25 = .ok (.astore 4, 2) := by decide +kernel
theorem dX11_findOriginal_27 : decode cX11_findOriginal 27 = .ok (.aload 4, 2) := by decide +kernel
theorem dX11_findOriginal_29 : decode cX11_findOriginal 29 = .ok (.ifnull 41, 3) := by decide +kernel
theorem dX11_findOriginal_32 : decode cX11_findOriginal 32 = .ok (.aload 4, 2) := by decide +kernel
theorem dX11_findOriginal_34 : decode cX11_findOriginal 34 = .ok (.getfield 289, 3) := by decide +kernel
theorem dX11_findOriginal_37 : decode cX11_findOriginal 37 = .ok (.aload_n 2, 1) := by decide +kernel
theorem dX11_findOriginal_38 : decode cX11_findOriginal 38 = .ok (.if_acmp .ne 32, 3) := by decide +kernel
theorem dX11_findOriginal_41 : decode cX11_findOriginal 41 = .ok (.aload 4, 2) := by decide +kernel
theorem dX11_findOriginal_43 : decode cX11_findOriginal 43 = .ok (.getfield 255, 3) := by decide +kernel
theorem dX11_findOriginal_46 : decode cX11_findOriginal 46 = .ok (.getfield 259, 3) := by decide +kernel
theorem dX11_findOriginal_49 : decode cX11_findOriginal 49 = .ok (.aload_n 1, 1) := by decide +kernel
theorem dX11_findOriginal_50 : decode cX11_findOriginal 50 = .ok (.getfield 259, 3) := by decide +kernel
theorem dX11_findOriginal_53 : decode cX11_findOriginal 53 = .ok (.if_icmp .eq 17, 3) := by decide +kernel
theorem dX11_findOriginal_56 : decode cX11_findOriginal 56 = .ok (.aload 4, 2) := by decide +kernel
theorem dX11_findOriginal_58 : decode cX11_findOriginal 58 = .ok (.getfield 255, 3) := by decide +kernel
theorem dX11_findOriginal_61 : decode cX11_findOriginal 61 = .ok (.aload_n 1, 1) := by decide +kernel
theorem dX11_findOriginal_62 : decode cX11_findOriginal 62 = .ok (.invokevirtual 217, 3) := by decide +kernel
theorem dX11_findOriginal_65 : decode cX11_findOriginal 65 = .ok (.ifCond .eq 5, 3) := by decide +kernel
theorem dX11_findOriginal_68 : decode cX11_findOriginal 68 = .ok (.iload_n 3, 1) := by decide +kernel
theorem dX11_findOriginal_69 : decode cX11_findOriginal 69 = .ok (.ireturn, 1) := by decide +kernel
theorem dX11_findOriginal_70 : decode cX11_findOriginal 70 = .ok (.iinc 3 1, 3) := by decide +kernel
theorem dX11_findOriginal_73 : decode cX11_findOriginal 73 = .ok (.goto (-71), 3) := by decide +kernel
theorem dX11_findOriginal_76 : decode cX11_findOriginal 76 = .ok (.iconst (-1), 1) := by decide +kernel
theorem dX11_findOriginal_77 : decode cX11_findOriginal 77 = .ok (.ireturn, 1) := by decide +kernel
theorem dX11_countMeeting_0 : decode cX11_countMeeting 0 = .ok (.iconst 0, 1) := by decide +kernel
theorem dX11_countMeeting_1 : decode cX11_countMeeting 1 = .ok (.istore_n 2, 1) := by decide +kernel
theorem dX11_countMeeting_2 : decode cX11_countMeeting 2 = .ok (.iconst 0, 1) := by decide +kernel
theorem dX11_countMeeting_3 : decode cX11_countMeeting 3 = .ok (.istore_n 3, 1) := by decide +kernel
theorem dX11_countMeeting_4 : decode cX11_countMeeting 4 = .ok (.iload_n 3, 1) := by decide +kernel
theorem dX11_countMeeting_5 : decode cX11_countMeeting 5 = .ok (.aload_n 0, 1) := by decide +kernel
theorem dX11_countMeeting_6 : decode cX11_countMeeting 6 = .ok (.getfield 160, 3) := by decide +kernel
theorem dX11_countMeeting_9 : decode cX11_countMeeting 9 = .ok (.if_icmp .ge 51, 3) := by decide +kernel
theorem dX11_countMeeting_12 : decode cX11_countMeeting 12 = .ok (.iload_n 3, 1) := by decide +kernel
theorem dX11_countMeeting_13 : decode cX11_countMeeting 13 = .ok (.aload_n 0, 1) := by decide +kernel
theorem dX11_countMeeting_14 : decode cX11_countMeeting 14 = .ok (.getfield 58, 3) := by decide +kernel
theorem dX11_countMeeting_17 : decode cX11_countMeeting 17 = .ok (.arraylength, 1) := by decide +kernel
theorem dX11_countMeeting_18 : decode cX11_countMeeting 18 = .ok (.if_icmp .ge 42, 3) := by decide +kernel
theorem dX11_countMeeting_21 : decode cX11_countMeeting 21 = .ok (.aload_n 0, 1) := by decide +kernel
theorem dX11_countMeeting_22 : decode cX11_countMeeting 22 = .ok (.getfield 58, 3) := by decide +kernel
theorem dX11_countMeeting_25 : decode cX11_countMeeting 25 = .ok (.iload_n 3, 1) := by decide +kernel
theorem dX11_countMeeting_26 : decode cX11_countMeeting 26 = .ok (.aaload, 1) := by decide +kernel
theorem dX11_countMeeting_27 : decode cX11_countMeeting 27 = .ok (.astore 4, 2) := by decide +kernel
theorem dX11_countMeeting_29 : decode cX11_countMeeting 29 = .ok (.aload 4, 2) := by decide +kernel
theorem dX11_countMeeting_31 : decode cX11_countMeeting 31 = .ok (.ifnull 23, 3) := by decide +kernel
theorem dX11_countMeeting_34 : decode cX11_countMeeting 34 = .ok (.aload 4, 2) := by decide +kernel
theorem dX11_countMeeting_36 : decode cX11_countMeeting 36 = .ok (.getfield 289, 3) := by decide +kernel
theorem dX11_countMeeting_39 : decode cX11_countMeeting 39 = .ok (.aload_n 1, 1) := by decide +kernel
theorem dX11_countMeeting_40 : decode cX11_countMeeting 40 = .ok (.if_acmp .ne 14, 3) := by decide +kernel
theorem dX11_countMeeting_43 : decode cX11_countMeeting 43 = .ok (.aload 4, 2) := by decide +kernel
theorem dX11_countMeeting_45 : decode cX11_countMeeting 45 = .ok (.invokevirtual 230, 3) := by decide +kernel
theorem dX11_countMeeting_48 : decode cX11_countMeeting 48 = .ok (.ifCond .eq 6, 3) := by decide +kernel
theorem dX11_countMeeting_51 : decode cX11_countMeeting 51 = .ok (.iinc 2 1, 3) := by decide +kernel
theorem dX11_countMeeting_54 : decode cX11_countMeeting 54 = .ok (.iinc 3 1, 3) := by decide +kernel
theorem dX11_countMeeting_57 : decode cX11_countMeeting 57 = .ok (.goto (-53), 3) := by decide +kernel
theorem dX11_countMeeting_60 : decode cX11_countMeeting 60 = .ok (.iload_n 2, 1) := by decide +kernel
theorem dX11_countMeeting_61 : decode cX11_countMeeting 61 = .ok (.ireturn, 1) := by decide +kernel
theorem dX11_countHanging_0 : decode cX11_countHanging 0 = .ok (.iconst 0, 1) := by decide +kernel
theorem dX11_countHanging_1 : decode cX11_countHanging 1 = .ok (.istore_n 1, 1) := by decide +kernel
theorem dX11_countHanging_2 : decode cX11_countHanging 2 = .ok (.iconst 0, 1) := by decide +kernel
theorem dX11_countHanging_3 : decode cX11_countHanging 3 = .ok (.istore_n 2, 1) := by decide +kernel
theorem dX11_countHanging_4 : decode cX11_countHanging 4 = .ok (.iload_n 2, 1) := by decide +kernel
theorem dX11_countHanging_5 : decode cX11_countHanging 5 = .ok (.aload_n 0, 1) := by decide +kernel
theorem dX11_countHanging_6 : decode cX11_countHanging 6 = .ok (.getfield 160, 3) := by decide +kernel
theorem dX11_countHanging_9 : decode cX11_countHanging 9 = .ok (.if_icmp .ge 39, 3) := by decide +kernel
theorem dX11_countHanging_12 : decode cX11_countHanging 12 = .ok (.iload_n 2, 1) := by decide +kernel
theorem dX11_countHanging_13 : decode cX11_countHanging 13 = .ok (.aload_n 0, 1) := by decide +kernel
theorem dX11_countHanging_14 : decode cX11_countHanging 14 = .ok (.getfield 58, 3) := by decide +kernel
theorem dX11_countHanging_17 : decode cX11_countHanging 17 = .ok (.arraylength, 1) := by decide +kernel
theorem dX11_countHanging_18 : decode cX11_countHanging 18 = .ok (.if_icmp .ge 30, 3) := by decide +kernel
theorem dX11_countHanging_21 : decode cX11_countHanging 21 = .ok (.aload_n 0, 1) := by decide +kernel
theorem dX11_countHanging_22 : decode cX11_countHanging 22 = .ok (.getfield 58, 3) := by decide +kernel
theorem dX11_countHanging_25 : decode cX11_countHanging 25 = .ok (.iload_n 2, 1) := by decide +kernel
theorem dX11_countHanging_26 : decode cX11_countHanging 26 = .ok (.aaload, 1) := by decide +kernel
theorem dX11_countHanging_27 : decode cX11_countHanging 27 = .ok (.astore_n 3, 1) := by decide +kernel
theorem dX11_countHanging_28 : decode cX11_countHanging 28 = .ok (.aload_n 3, 1) := by decide +kernel
theorem dX11_countHanging_29 : decode cX11_countHanging 29 = .ok (.ifnull 13, 3) := by decide +kernel
theorem dX11_countHanging_32 : decode cX11_countHanging 32 = .ok (.aload_n 3, 1) := by decide +kernel
theorem dX11_countHanging_33 : decode cX11_countHanging 33 = .ok (.getfield 237, 3) := by decide +kernel
theorem dX11_countHanging_36 : decode cX11_countHanging 36 = .ok (.ifCond .eq 6, 3) := by decide +kernel
theorem dX11_countHanging_39 : decode cX11_countHanging 39 = .ok (.iinc 1 1, 3) := by decide +kernel
theorem dX11_countHanging_42 : decode cX11_countHanging 42 = .ok (.iinc 2 1, 3) := by decide +kernel
theorem dX11_countHanging_45 : decode cX11_countHanging 45 = .ok (.goto (-41), 3) := by decide +kernel
theorem dX11_countHanging_48 : decode cX11_countHanging 48 = .ok (.iload_n 1, 1) := by decide +kernel
theorem dX11_countHanging_49 : decode cX11_countHanging 49 = .ok (.ireturn, 1) := by decide +kernel
theorem dX11_layWall_0 : decode cX11_layWall 0 = .ok (.aload_n 0, 1) := by decide +kernel
theorem dX11_layWall_1 : decode cX11_layWall 1 = .ok (.getfield 40, 3) := by decide +kernel
theorem dX11_layWall_4 : decode cX11_layWall 4 = .ok (.invokevirtual 293, 3) := by decide +kernel
theorem dX11_layWall_7 : decode cX11_layWall 7 = .ok (.iconst 0, 1) := by decide +kernel
theorem dX11_layWall_8 : decode cX11_layWall 8 = .ok (.istore_n 1, 1) := by decide +kernel
theorem dX11_layWall_9 : decode cX11_layWall 9 = .ok (.iload_n 1, 1) := by decide +kernel
theorem dX11_layWall_10 : decode cX11_layWall 10 = .ok (.aload_n 0, 1) := by decide +kernel
theorem dX11_layWall_11 : decode cX11_layWall 11 = .ok (.getfield 160, 3) := by decide +kernel
theorem dX11_layWall_14 : decode cX11_layWall 14 = .ok (.if_icmp .ge 56, 3) := by decide +kernel
theorem dX11_layWall_17 : decode cX11_layWall 17 = .ok (.iload_n 1, 1) := by decide +kernel
theorem dX11_layWall_18 : decode cX11_layWall 18 = .ok (.aload_n 0, 1) := by decide +kernel
theorem dX11_layWall_19 : decode cX11_layWall 19 = .ok (.getfield 58, 3) := by decide +kernel
theorem dX11_layWall_22 : decode cX11_layWall 22 = .ok (.arraylength, 1) := by decide +kernel
theorem dX11_layWall_23 : decode cX11_layWall 23 = .ok (.if_icmp .ge 47, 3) := by decide +kernel
theorem dX11_layWall_26 : decode cX11_layWall 26 = .ok (.aload_n 0, 1) := by decide +kernel
theorem dX11_layWall_27 : decode cX11_layWall 27 = .ok (.getfield 58, 3) := by decide +kernel
theorem dX11_layWall_30 : decode cX11_layWall 30 = .ok (.iload_n 1, 1) := by decide +kernel
theorem dX11_layWall_31 : decode cX11_layWall 31 = .ok (.aaload, 1) := by decide +kernel
theorem dX11_layWall_32 : decode cX11_layWall 32 = .ok (.astore_n 2, 1) := by decide +kernel
theorem dX11_layWall_33 : decode cX11_layWall 33 = .ok (.aload_n 2, 1) := by decide +kernel
theorem dX11_layWall_34 : decode cX11_layWall 34 = .ok (.ifnull 30, 3) := by decide +kernel
theorem dX11_layWall_37 : decode cX11_layWall 37 = .ok (.aload_n 2, 1) := by decide +kernel
theorem dX11_layWall_38 : decode cX11_layWall 38 = .ok (.iconst 0, 1) := by decide +kernel
theorem dX11_layWall_39 : decode cX11_layWall 39 = .ok (.putfield 237, 3) := by decide +kernel
theorem dX11_layWall_42 : decode cX11_layWall 42 = .ok (.aload_n 2, 1) := by decide +kernel
theorem dX11_layWall_43 : decode cX11_layWall 43 = .ok (.invokevirtual 230, 3) := by decide +kernel
theorem dX11_layWall_46 : decode cX11_layWall 46 = .ok (.ifCond .eq 18, 3) := by decide +kernel
theorem dX11_layWall_49 : decode cX11_layWall 49 = .ok (.aload_n 2, 1) := by decide +kernel
theorem dX11_layWall_50 : decode cX11_layWall 50 = .ok (.invokevirtual 294, 3) := by decide +kernel
theorem dX11_layWall_53 : decode cX11_layWall 53 = .ok (.ifCond .ne 11, 3) := by decide +kernel
theorem dX11_layWall_56 : decode cX11_layWall 56 = .ok (.aload_n 0, 1) := by decide +kernel
theorem dX11_layWall_57 : decode cX11_layWall 57 = .ok (.getfield 40, 3) := by decide +kernel
theorem dX11_layWall_60 : decode cX11_layWall 60 = .ok (.aload_n 2, 1) := by decide +kernel
theorem dX11_layWall_61 : decode cX11_layWall 61 = .ok (.invokevirtual 297, 3) := by decide +kernel
theorem dX11_layWall_64 : decode cX11_layWall 64 = .ok (.iinc 1 1, 3) := by decide +kernel
theorem dX11_layWall_67 : decode cX11_layWall 67 = .ok (.goto (-58), 3) := by decide +kernel
theorem dX11_layWall_70 : decode cX11_layWall 70 = .ok (.return_, 1) := by decide +kernel
theorem dX12_init_0 : decode cX12_init 0 = .ok (.aload_n 0, 1) := by decide +kernel
theorem dX12_init_1 : decode cX12_init 1 = .ok (.invokespecial 1, 3) := by decide +kernel
theorem dX12_init_4 : decode cX12_init 4 = .ok (.aload_n 0, 1) := by decide +kernel
theorem dX12_init_5 : decode cX12_init 5 = .ok (.bipush 30, 2) := by decide +kernel
theorem dX12_init_7 : decode cX12_init 7 = .ok (.newarray .int, 2) := by decide +kernel
theorem dX12_init_9 : decode cX12_init 9 = .ok (.putfield 7, 3) := by decide +kernel
theorem dX12_init_12 : decode cX12_init 12 = .ok (.aload_n 0, 1) := by decide +kernel
theorem dX12_init_13 : decode cX12_init 13 = .ok (.bipush 30, 2) := by decide +kernel
theorem dX12_init_15 : decode cX12_init 15 = .ok (.newarray .int, 2) := by decide +kernel
theorem dX12_init_17 : decode cX12_init 17 = .ok (.putfield 13, 3) := by decide +kernel
theorem dX12_init_20 : decode cX12_init 20 = .ok (.aload_n 0, 1) := by decide +kernel
theorem dX12_init_21 : decode cX12_init 21 = .ok (.bipush 30, 2) := by decide +kernel
theorem dX12_init_23 : decode cX12_init 23 = .ok (.newarray .int, 2) := by decide +kernel
theorem dX12_init_25 : decode cX12_init 25 = .ok (.putfield 16, 3) := by decide +kernel
theorem dX12_init_28 : decode cX12_init 28 = .ok (.aload_n 0, 1) := by decide +kernel
theorem dX12_init_29 : decode cX12_init 29 = .ok (.bipush 30, 2) := by decide +kernel
theorem dX12_init_31 : decode cX12_init 31 = .ok (.newarray .boolean, 2) := by decide +kernel
theorem dX12_init_33 : decode cX12_init 33 = .ok (.putfield 19, 3) := by decide +kernel
theorem dX12_init_36 : decode cX12_init 36 = .ok (.aload_n 0, 1) := by decide +kernel
theorem dX12_init_37 : decode cX12_init 37 = .ok (.bipush 30, 2) := by decide +kernel
theorem dX12_init_39 : decode cX12_init 39 = .ok (.newarray .int, 2) := by decide +kernel
theorem dX12_init_41 : decode cX12_init 41 = .ok (.putfield 23, 3) := by decide +kernel
theorem dX12_init_44 : decode cX12_init 44 = .ok (.aload_n 0, 1) := by decide +kernel
theorem dX12_init_45 : decode cX12_init 45 = .ok (.bipush 30, 2) := by decide +kernel
theorem dX12_init_47 : decode cX12_init 47 = .ok (.newarray .int, 2) := by decide +kernel
theorem dX12_init_49 : decode cX12_init 49 = .ok (.putfield 26, 3) := by decide +kernel
theorem dX12_init_52 : decode cX12_init 52 = .ok (.aload_n 0, 1) := by decide +kernel
theorem dX12_init_53 : decode cX12_init 53 = .ok (.sipush 900, 3) := by decide +kernel
theorem dX12_init_56 : decode cX12_init 56 = .ok (.newarray .int, 2) := by decide +kernel
theorem dX12_init_58 : decode cX12_init 58 = .ok (.putfield 29, 3) := by decide +kernel
theorem dX12_init_61 : decode cX12_init 61 = .ok (.aload_n 0, 1) := by decide +kernel
theorem dX12_init_62 : decode cX12_init 62 = .ok (.sipush 900, 3) := by decide +kernel
theorem dX12_init_65 : decode cX12_init 65 = .ok (.newarray .int, 2) := by decide +kernel
theorem dX12_init_67 : decode cX12_init 67 = .ok (.putfield 32, 3) := by decide +kernel
theorem dX12_init_70 : decode cX12_init 70 = .ok (.aload_n 0, 1) := by decide +kernel
theorem dX12_init_71 : decode cX12_init 71 = .ok (.sipush 900, 3) := by decide +kernel
theorem dX12_init_74 : decode cX12_init 74 = .ok (.newarray .int, 2) := by decide +kernel
theorem dX12_init_76 : decode cX12_init 76 = .ok (.putfield 35, 3) := by decide +kernel
theorem dX12_init_79 : decode cX12_init 79 = .ok (.aload_n 0, 1) := by decide +kernel
theorem dX12_init_80 : decode cX12_init 80 = .ok (.sipush 900, 3) := by decide +kernel
theorem dX12_init_83 : decode cX12_init 83 = .ok (.newarray .boolean, 2) := by decide +kernel
theorem dX12_init_85 : decode cX12_init 85 = .ok (.putfield 38, 3) := by decide +kernel
theorem dX12_init_88 : decode cX12_init 88 = .ok (.aload_n 0, 1) := by decide +kernel
theorem dX12_init_89 : decode cX12_init 89 = .ok (.bipush 30, 2) := by decide +kernel
theorem dX12_init_91 : decode cX12_init 91 = .ok (.newarray .int, 2) := by decide +kernel
theorem dX12_init_93 : decode cX12_init 93 = .ok (.putfield 41, 3) := by decide +kernel
theorem dX12_init_96 : decode cX12_init 96 = .ok (.aload_n 0, 1) := by decide +kernel
theorem dX12_init_97 : decode cX12_init 97 = .ok (.bipush 30, 2) := by decide +kernel
theorem dX12_init_99 : decode cX12_init 99 = .ok (.newarray .int, 2) := by decide +kernel
theorem dX12_init_101 : decode cX12_init 101 = .ok (.putfield 44, 3) := by decide +kernel
theorem dX12_init_104 : decode cX12_init 104 = .ok (.aload_n 0, 1) := by decide +kernel
theorem dX12_init_105 : decode cX12_init 105 = .ok (.bipush 30, 2) := by decide +kernel
theorem dX12_init_107 : decode cX12_init 107 = .ok (.newarray .int, 2) := by decide +kernel
theorem dX12_init_109 : decode cX12_init 109 = .ok (.putfield 47, 3) := by decide +kernel
theorem dX12_init_112 : decode cX12_init 112 = .ok (.aload_n 0, 1) := by decide +kernel
theorem dX12_init_113 : decode cX12_init 113 = .ok (.sipush 480, 3) := by decide +kernel
theorem dX12_init_116 : decode cX12_init 116 = .ok (.newarray .int, 2) := by decide +kernel
theorem dX12_init_118 : decode cX12_init 118 = .ok (.putfield 50, 3) := by decide +kernel
theorem dX12_init_121 : decode cX12_init 121 = .ok (.aload_n 0, 1) := by decide +kernel
theorem dX12_init_122 : decode cX12_init 122 = .ok (.sipush 480, 3) := by decide +kernel
theorem dX12_init_125 : decode cX12_init 125 = .ok (.newarray .int, 2) := by decide +kernel
theorem dX12_init_127 : decode cX12_init 127 = .ok (.putfield 53, 3) := by decide +kernel
theorem dX12_init_130 : decode cX12_init 130 = .ok (.aload_n 0, 1) := by decide +kernel
theorem dX12_init_131 : decode cX12_init 131 = .ok (.iconst 4, 1) := by decide +kernel
theorem dX12_init_132 : decode cX12_init 132 = .ok (.newarray .int, 2) := by decide +kernel
theorem dX12_init_134 : decode cX12_init 134 = .ok (.putfield 56, 3) := by decide +kernel
theorem dX12_init_137 : decode cX12_init 137 = .ok (.aload_n 0, 1) := by decide +kernel
theorem dX12_init_138 : decode cX12_init 138 = .ok (.sipush 300, 3) := by decide +kernel
theorem dX12_init_141 : decode cX12_init 141 = .ok (.newarray .int, 2) := by decide +kernel
theorem dX12_init_143 : decode cX12_init 143 = .ok (.putfield 59, 3) := by decide +kernel
theorem dX12_init_146 : decode cX12_init 146 = .ok (.aload_n 0, 1) := by decide +kernel
theorem dX12_init_147 : decode cX12_init 147 = .ok (.sipush 300, 3) := by decide +kernel
theorem dX12_init_150 : decode cX12_init 150 = .ok (.newarray .int, 2) := by decide +kernel
theorem dX12_init_152 : decode cX12_init 152 = .ok (.putfield 62, 3) := by decide +kernel
theorem dX12_init_155 : decode cX12_init 155 = .ok (.aload_n 0, 1) := by decide +kernel
theorem dX12_init_156 : decode cX12_init 156 = .ok (.sipush 601, 3) := by decide +kernel
theorem dX12_init_159 : decode cX12_init 159 = .ok (.newarray .int, 2) := by decide +kernel
theorem dX12_init_161 : decode cX12_init 161 = .ok (.putfield 65, 3) := by decide +kernel
theorem dX12_init_164 : decode cX12_init 164 = .ok (.aload_n 0, 1) := by decide +kernel
theorem dX12_init_165 : decode cX12_init 165 = .ok (.bipush 60, 2) := by decide +kernel
theorem dX12_init_167 : decode cX12_init 167 = .ok (.newarray .int, 2) := by decide +kernel
theorem dX12_init_169 : decode cX12_init 169 = .ok (.putfield 68, 3) := by decide +kernel
theorem dX12_init_172 : decode cX12_init 172 = .ok (.aload_n 0, 1) := by decide +kernel
theorem dX12_init_173 : decode cX12_init 173 = .ok (.iconst 4, 1) := by decide +kernel
theorem dX12_init_174 : decode cX12_init 174 = .ok (.newarray .int, 2) := by decide +kernel
theorem dX12_init_176 : decode cX12_init 176 = .ok (.putfield 71, 3) := by decide +kernel
theorem dX12_init_179 : decode cX12_init 179 = .ok (.aload_n 0, 1) := by decide +kernel
theorem dX12_init_180 : decode cX12_init 180 = .ok (.iconst 4, 1) := by decide +kernel
theorem dX12_init_181 : decode cX12_init 181 = .ok (.newarray .int, 2) := by decide +kernel
theorem dX12_init_183 : decode cX12_init 183 = .ok (.putfield 74, 3) := by decide +kernel
theorem dX12_init_186 : decode cX12_init 186 = .ok (.aload_n 0, 1) := by decide +kernel
theorem dX12_init_187 : decode cX12_init 187 = .ok (.sipush 961, 3) := by decide +kernel
theorem dX12_init_190 : decode cX12_init 190 = .ok (.newarray .int, 2) := by decide +kernel
theorem dX12_init_192 : decode cX12_init 192 = .ok (.putfield 77, 3) := by decide +kernel
theorem dX12_init_195 : decode cX12_init 195 = .ok (.aload_n 0, 1) := by decide +kernel
theorem dX12_init_196 : decode cX12_init 196 = .ok (.bipush 6, 2) := by decide +kernel
theorem dX12_init_198 : decode cX12_init 198 = .ok (.newarray .int, 2) := by decide +kernel
theorem dX12_init_200 : decode cX12_init 200 = .ok (.putfield 80, 3) := by decide +kernel
theorem dX12_init_203 : decode cX12_init 203 = .ok (.aload_n 0, 1) := by decide +kernel
theorem dX12_init_204 : decode cX12_init 204 = .ok (.bipush 6, 2) := by decide +kernel
theorem dX12_init_206 : decode cX12_init 206 = .ok (.newarray .int, 2) := by decide +kernel
theorem dX12_init_208 : decode cX12_init 208 = .ok (.putfield 83, 3) := by decide +kernel
theorem dX12_init_211 : decode cX12_init 211 = .ok (.aload_n 0, 1) := by decide +kernel
theorem dX12_init_212 : decode cX12_init 212 = .ok (.bipush 6, 2) := by decide +kernel
theorem dX12_init_214 : decode cX12_init 214 = .ok (.newarray .int, 2) := by decide +kernel
theorem dX12_init_216 : decode cX12_init 216 = .ok (.putfield 86, 3) := by decide +kernel
theorem dX12_init_219 : decode cX12_init 219 = .ok (.aload_n 0, 1) := by decide +kernel
theorem dX12_init_220 : decode cX12_init 220 = .ok (.bipush 24, 2) := by decide +kernel
theorem dX12_init_222 : decode cX12_init 222 = .ok (.newarray .int, 2) := by decide +kernel
theorem dX12_init_224 : decode cX12_init 224 = .ok (.putfield 89, 3) := by decide +kernel
theorem dX12_init_227 : decode cX12_init 227 = .ok (.aload_n 0, 1) := by decide +kernel
theorem dX12_init_228 : decode cX12_init 228 = .ok (.bipush 24, 2) := by decide +kernel
theorem dX12_init_230 : decode cX12_init 230 = .ok (.newarray .int, 2) := by decide +kernel
theorem dX12_init_232 : decode cX12_init 232 = .ok (.putfield 92, 3) := by decide +kernel
theorem dX12_init_235 : decode cX12_init 235 = .ok (.aload_n 0, 1) := by decide +kernel
theorem dX12_init_236 : decode cX12_init 236 = .ok (.bipush 24, 2) := by decide +kernel
theorem dX12_init_238 : decode cX12_init 238 = .ok (.newarray .boolean, 2) := by decide +kernel
theorem dX12_init_240 : decode cX12_init 240 = .ok (.putfield 95, 3) := by decide +kernel
theorem dX12_init_243 : decode cX12_init 243 = .ok (.aload_n 0, 1) := by decide +kernel
theorem dX12_init_244 : decode cX12_init 244 = .ok (.bipush 20, 2) := by decide +kernel
theorem dX12_init_246 : decode cX12_init 246 = .ok (.putfield 98, 3) := by decide +kernel
theorem dX12_init_249 : decode cX12_init 249 = .ok (.aload_n 0, 1) := by decide +kernel
theorem dX12_init_250 : decode cX12_init 250 = .ok (.bipush 20, 2) := by decide +kernel
theorem dX12_init_252 : decode cX12_init 252 = .ok (.putfield 102, 3) := by decide +kernel
theorem dX12_init_255 : decode cX12_init 255 = .ok (.aload_n 0, 1) := by decide +kernel
theorem dX12_init_256 : decode cX12_init 256 = .ok (.bipush 40, 2) := by decide +kernel
theorem dX12_init_258 : decode cX12_init 258 = .ok (.newarray .long, 2) := by decide +kernel
theorem dX12_init_260 : decode cX12_init 260 = .ok (.putfield 105, 3) := by decide +kernel
theorem dX12_init_263 : decode cX12_init 263 = .ok (.aload_n 0, 1) := by decide +kernel
theorem dX12_init_264 : decode cX12_init 264 = .ok (.bipush 24, 2) := by decide +kernel
theorem dX12_init_266 : decode cX12_init 266 = .ok (.newarray .int, 2) := by decide +kernel
theorem dX12_init_268 : decode cX12_init 268 = .ok (.putfield 109, 3) := by decide +kernel
theorem dX12_init_271 : decode cX12_init 271 = .ok (.return_, 1) := by decide +kernel
theorem dX12_thrown_0 : decode cX12_thrown 0 = .ok (.aload_n 0, 1) := by decide +kernel
theorem dX12_thrown_1 : decode cX12_thrown 1 = .ok (.getfield 112, 3) := by decide +kernel
theorem dX12_thrown_4 : decode cX12_thrown 4 = .ok (.ireturn, 1) := by decide +kernel
theorem dX12_holds_0 : decode cX12_holds 0 = .ok (.aload_n 0, 1) := by decide +kernel
theorem dX12_holds_1 : decode cX12_holds 1 = .ok (.iload_n 1, 1) := by decide +kernel
theorem dX12_holds_2 : decode cX12_holds 2 = .ok (.putfield 112, 3) := by decide +kernel
theorem dX12_holds_5 : decode cX12_holds 5 = .ok (.iload_n 1, 1) := by decide +kernel
theorem dX12_holds_6 : decode cX12_holds 6 = .ok (.ifCond .ne 7, 3) := by decide +kernel
theorem dX12_holds_9 : decode cX12_holds 9 = .ok (.iconst 1, 1) := by decide +kernel
theorem dX12_holds_10 : decode cX12_holds 10 = .ok (.goto 4, 3) := by decide +kernel
theorem dX12_holds_13 : decode cX12_holds 13 = .ok (.iconst 0, 1) := by decide +kernel
theorem dX12_holds_14 : decode cX12_holds 14 = .ok (.ireturn, 1) := by decide +kernel
theorem dX12_isIn_0 : decode cX12_isIn 0 = .ok (.iload_n 0, 1) := by decide +kernel
theorem dX12_isIn_1 : decode cX12_isIn 1 = .ok (.iload_n 1, 1) := by decide +kernel
theorem dX12_isIn_2 : decode cX12_isIn 2 = .ok (.if_icmp .lt 12, 3) := by decide +kernel
theorem dX12_isIn_5 : decode cX12_isIn 5 = .ok (.iload_n 0, 1) := by decide +kernel
theorem dX12_isIn_6 : decode cX12_isIn 6 = .ok (.iload_n 2, 1) := by decide +kernel
theorem dX12_isIn_7 : decode cX12_isIn 7 = .ok (.if_icmp .gt 7, 3) := by decide +kernel
theorem dX12_isIn_10 : decode cX12_isIn 10 = .ok (.iconst 1, 1) := by decide +kernel
theorem dX12_isIn_11 : decode cX12_isIn 11 = .ok (.goto 4, 3) := by decide +kernel
theorem dX12_isIn_14 : decode cX12_isIn 14 = .ok (.iconst 0, 1) := by decide +kernel
theorem dX12_isIn_15 : decode cX12_isIn 15 = .ok (.ireturn, 1) := by decide +kernel
theorem dX12_isName_0 : decode cX12_isName 0 = .ok (.iload_n 0, 1) := by decide +kernel
theorem dX12_isName_1 : decode cX12_isName 1 = .ok (.iconst 0, 1) := by decide +kernel
theorem dX12_isName_2 : decode cX12_isName 2 = .ok (.iconst 3, 1) := by decide +kernel
theorem dX12_isName_3 : decode cX12_isName 3 = .ok (.invokestatic 115, 3) := by decide +kernel
theorem dX12_isName_6 : decode cX12_isName 6 = .ok (.ireturn, 1) := by decide +kernel
theorem dX12_drafts_0 : decode cX12_drafts 0 = .ok (.aload_n 0, 1) := by decide +kernel
theorem dX12_drafts_1 : decode cX12_drafts 1 = .ok (.getfield 7, 3) := by decide +kernel
theorem dX12_drafts_4 : decode cX12_drafts 4 = .ok (.aload_n 0, 1) := by decide +kernel
theorem dX12_drafts_5 : decode cX12_drafts 5 = .ok (.getfield 119, 3) := by decide +kernel
theorem dX12_drafts_8 : decode cX12_drafts 8 = .ok (.iload_n 1, 1) := by decide +kernel
theorem dX12_drafts_9 : decode cX12_drafts 9 = .ok (.iastore, 1) := by decide +kernel
theorem dX12_drafts_10 : decode cX12_drafts 10 = .ok (.aload_n 0, 1) := by decide +kernel
theorem dX12_drafts_11 : decode cX12_drafts 11 = .ok (.getfield 13, 3) := by decide +kernel
theorem dX12_drafts_14 : decode cX12_drafts 14 = .ok (.aload_n 0, 1) := by decide +kernel
theorem dX12_drafts_15 : decode cX12_drafts 15 = .ok (.getfield 119, 3) := by decide +kernel
theorem dX12_drafts_18 : decode cX12_drafts 18 = .ok (.iload_n 2, 1) := by decide +kernel
theorem dX12_drafts_19 : decode cX12_drafts 19 = .ok (.iastore, 1) := by decide +kernel
theorem dX12_drafts_20 : decode cX12_drafts 20 = .ok (.aload_n 0, 1) := by decide +kernel
theorem dX12_drafts_21 : decode cX12_drafts 21 = .ok (.getfield 16, 3) := by decide +kernel
theorem dX12_drafts_24 : decode cX12_drafts 24 = .ok (.aload_n 0, 1) := by decide +kernel
theorem dX12_drafts_25 : decode cX12_drafts 25 = .ok (.getfield 119, 3) := by decide +kernel
theorem dX12_drafts_28 : decode cX12_drafts 28 = .ok (.iload_n 3, 1) := by decide +kernel
theorem dX12_drafts_29 : decode cX12_drafts 29 = .ok (.iastore, 1) := by decide +kernel
theorem dX12_drafts_30 : decode cX12_drafts 30 = .ok (.aload_n 0, 1) := by decide +kernel
theorem dX12_drafts_31 : decode cX12_drafts 31 = .ok (.getfield 19, 3) := by decide +kernel
theorem dX12_drafts_34 : decode cX12_drafts 34 = .ok (.aload_n 0, 1) := by decide +kernel
theorem dX12_drafts_35 : decode cX12_drafts 35 = .ok (.getfield 119, 3) := by decide +kernel
theorem dX12_drafts_38 : decode cX12_drafts 38 = .ok (.iload 4, 2) := by decide +kernel
theorem dX12_drafts_40 : decode cX12_drafts 40 = .ok (.bastore, 1) := by decide +kernel
theorem dX12_drafts_41 : decode cX12_drafts 41 = .ok (.aload_n 0, 1) := by decide +kernel
theorem dX12_drafts_42 : decode cX12_drafts 42 = .ok (.dup, 1) := by decide +kernel
theorem dX12_drafts_43 : decode cX12_drafts 43 = .ok (.getfield 119, 3) := by decide +kernel
theorem dX12_drafts_46 : decode cX12_drafts 46 = .ok (.iconst 1, 1) := by decide +kernel
theorem dX12_drafts_47 : decode cX12_drafts 47 = .ok (.iadd, 1) := by decide +kernel
theorem dX12_drafts_48 : decode cX12_drafts 48 = .ok (.putfield 119, 3) := by decide +kernel
theorem dX12_drafts_51 : decode cX12_drafts 51 = .ok (.aload_n 0, 1) := by decide +kernel
theorem dX12_drafts_52 : decode cX12_drafts 52 = .ok (.getfield 119, 3) := by decide +kernel
theorem dX12_drafts_55 : decode cX12_drafts 55 = .ok (.ireturn, 1) := by decide +kernel
theorem dX12_isValue_0 : decode cX12_isValue 0 = .ok (.iload_n 1, 1) := by decide +kernel
theorem dX12_isValue_1 : decode cX12_isValue 1 = .ok (.invokestatic 122, 3) := by decide +kernel
theorem dX12_isValue_4 : decode cX12_isValue 4 = .ok (.ifCond .eq 18, 3) := by decide +kernel
theorem dX12_isValue_7 : decode cX12_isValue 7 = .ok (.iload_n 3, 1) := by decide +kernel
theorem dX12_isValue_8 : decode cX12_isValue 8 = .ok (.ifCond .eq 10, 3) := by decide +kernel
theorem dX12_isValue_11 : decode cX12_isValue 11 = .ok (.iload_n 2, 1) := by decide +kernel
theorem dX12_isValue_12 : decode cX12_isValue 12 = .ok (.invokestatic 122, 3) := by decide +kernel
theorem dX12_isValue_15 : decode cX12_isValue 15 = .ok (.ifCond .eq 7, 3) := by decide +kernel
theorem dX12_isValue_18 : decode cX12_isValue 18 = .ok (.iconst 1, 1) := by decide +kernel
theorem dX12_isValue_19 : decode cX12_isValue 19 = .ok (.goto 4, 3) := by decide +kernel
theorem dX12_isValue_22 : decode cX12_isValue 22 = .ok (.iconst 0, 1) := by decide +kernel
theorem dX12_isValue_23 : decode cX12_isValue 23 = .ok (.istore 5, 2) := by decide +kernel
theorem dX12_isValue_25 : decode cX12_isValue 25 = .ok (.aload_n 0, 1) := by decide +kernel
theorem dX12_isValue_26 : decode cX12_isValue 26 = .ok (.iload 5, 2) := by decide +kernel
theorem dX12_isValue_28 : decode cX12_isValue 28 = .ok (.ifCond .ne 7, 3) := by decide +kernel
theorem dX12_isValue_31 : decode cX12_isValue 31 = .ok (.iconst 1, 1) := by decide +kernel
theorem dX12_isValue_32 : decode cX12_isValue 32 = .ok (.goto 36, 3) := by decide +kernel
theorem dX12_isValue_35 : decode cX12_isValue 35 = .ok (.iload_n 3, 1) := by decide +kernel
theorem dX12_isValue_36 : decode cX12_isValue 36 = .ok (.ifCond .ne 18, 3) := by decide +kernel
theorem dX12_isValue_39 : decode cX12_isValue 39 = .ok (.iload_n 2, 1) := by decide +kernel
theorem dX12_isValue_40 : decode cX12_isValue 40 = .ok (.iload 4, 2) := by decide +kernel
theorem dX12_isValue_42 : decode cX12_isValue 42 = .ok (.bipush 99, 2) := by decide +kernel
theorem dX12_isValue_44 : decode cX12_isValue 44 = .ok (.invokestatic 115, 3) := by decide +kernel
theorem dX12_isValue_47 : decode cX12_isValue 47 = .ok (.ifCond .ne 7, 3) := by decide +kernel
theorem dX12_isValue_50 : decode cX12_isValue 50 = .ok (.iconst 2, 1) := by decide +kernel
theorem dX12_isValue_51 : decode cX12_isValue 51 = .ok (.goto 17, 3) := by decide +kernel
theorem dX12_isValue_54 : decode cX12_isValue 54 = .ok (.aload_n 0, 1) := by decide +kernel
theorem dX12_isValue_55 : decode cX12_isValue 55 = .ok (.getfield 119, 3) := by decide +kernel
theorem dX12_isValue_58 : decode cX12_isValue 58 = .ok (.bipush 30, 2) := by decide +kernel
theorem dX12_isValue_60 : decode cX12_isValue 60 = .ok (.if_icmp .ne 7, 3) := by decide +kernel
theorem dX12_isValue_63 : decode cX12_isValue 63 = .ok (.iconst 3, 1) := by decide +kernel
theorem dX12_isValue_64 : decode cX12_isValue 64 = .ok (.goto 4, 3) := by decide +kernel
theorem dX12_isValue_67 : decode cX12_isValue 67 = .ok (.iconst 0, 1) := by decide +kernel
theorem dX12_isValue_68 : decode cX12_isValue 68 = .ok (.invokevirtual 126, 3) := by decide +kernel
theorem dX12_isValue_71 : decode cX12_isValue 71 = .ok (.ireturn, 1) := by decide +kernel
theorem dX12_forward_0 : decode cX12_forward 0 = .ok (.aload_n 0, 1) := by decide +kernel
theorem dX12_forward_1 : decode cX12_forward 1 = .ok (.iconst 0, 1) := by decide +kernel
theorem dX12_forward_2 : decode cX12_forward 2 = .ok (.iload_n 1, 1) := by decide +kernel
theorem dX12_forward_3 : decode cX12_forward 3 = .ok (.iload_n 2, 1) := by decide +kernel
theorem dX12_forward_4 : decode cX12_forward 4 = .ok (.iconst 0, 1) := by decide +kernel
theorem dX12_forward_5 : decode cX12_forward 5 = .ok (.invokevirtual 129, 3) := by decide +kernel
theorem dX12_forward_8 : decode cX12_forward 8 = .ok (.ifCond .eq 14, 3) := by decide +kernel
theorem dX12_forward_11 : decode cX12_forward 11 = .ok (.aload_n 0, 1) := by decide +kernel
theorem dX12_forward_12 : decode cX12_forward 12 = .ok (.iconst 0, 1) := by decide +kernel
theorem dX12_forward_13 : decode cX12_forward 13 = .ok (.iconst 0, 1) := by decide +kernel
theorem dX12_forward_14 : decode cX12_forward 14 = .ok (.iload_n 1, 1) := by decide +kernel
theorem dX12_forward_15 : decode cX12_forward 15 = .ok (.iload_n 2, 1) := by decide +kernel
theorem dX12_forward_16 : decode cX12_forward 16 = .ok (.invokevirtual 133, 3) := by decide +kernel
theorem dX12_forward_19 : decode cX12_forward 19 = .ok (.goto 4, 3) := by decide +kernel
theorem dX12_forward_22 : decode cX12_forward 22 = .ok (.iconst 0, 1) := by decide +kernel
theorem dX12_forward_23 : decode cX12_forward 23 = .ok (.ireturn, 1) := by decide +kernel
theorem dX12_turn_0 : decode cX12_turn 0 = .ok (.aload_n 0, 1) := by decide +kernel
theorem dX12_turn_1 : decode cX12_turn 1 = .ok (.iconst 0, 1) := by decide +kernel
theorem dX12_turn_2 : decode cX12_turn 2 = .ok (.iload_n 1, 1) := by decide +kernel
theorem dX12_turn_3 : decode cX12_turn 3 = .ok (.iload_n 2, 1) := by decide +kernel
theorem dX12_turn_4 : decode cX12_turn 4 = .ok (.iconst 0, 1) := by decide +kernel
theorem dX12_turn_5 : decode cX12_turn 5 = .ok (.invokevirtual 129, 3) := by decide +kernel
theorem dX12_turn_8 : decode cX12_turn 8 = .ok (.ifCond .eq 14, 3) := by decide +kernel
theorem dX12_turn_11 : decode cX12_turn 11 = .ok (.aload_n 0, 1) := by decide +kernel
theorem dX12_turn_12 : decode cX12_turn 12 = .ok (.iconst 1, 1) := by decide +kernel
theorem dX12_turn_13 : decode cX12_turn 13 = .ok (.iconst 0, 1) := by decide +kernel
theorem dX12_turn_14 : decode cX12_turn 14 = .ok (.iload_n 1, 1) := by decide +kernel
theorem dX12_turn_15 : decode cX12_turn 15 = .ok (.iload_n 2, 1) := by decide +kernel
theorem dX12_turn_16 : decode cX12_turn 16 = .ok (.invokevirtual 133, 3) := by decide +kernel
theorem dX12_turn_19 : decode cX12_turn 19 = .ok (.goto 4, 3) := by decide +kernel
theorem dX12_turn_22 : decode cX12_turn 22 = .ok (.iconst 0, 1) := by decide +kernel
theorem dX12_turn_23 : decode cX12_turn 23 = .ok (.ireturn, 1) := by decide +kernel
theorem dX12_pen_0 : decode cX12_pen 0 = .ok (.aload_n 0, 1) := by decide +kernel
theorem dX12_pen_1 : decode cX12_pen 1 = .ok (.aload_n 0, 1) := by decide +kernel
theorem dX12_pen_2 : decode cX12_pen 2 = .ok (.getfield 119, 3) := by decide +kernel
theorem dX12_pen_5 : decode cX12_pen 5 = .ok (.bipush 30, 2) := by decide +kernel
theorem dX12_pen_7 : decode cX12_pen 7 = .ok (.if_icmp .ne 7, 3) := by decide +kernel
theorem dX12_pen_10 : decode cX12_pen 10 = .ok (.iconst 1, 1) := by decide +kernel
theorem dX12_pen_11 : decode cX12_pen 11 = .ok (.goto 4, 3) := by decide +kernel
theorem dX12_pen_14 : decode cX12_pen 14 = .ok (.iconst 0, 1) := by decide +kernel
theorem dX12_pen_15 : decode cX12_pen 15 = .ok (.invokevirtual 126, 3) := by decide +kernel
theorem dX12_pen_18 : decode cX12_pen 18 = .ok (.ifCond .eq 22, 3) := by decide +kernel
theorem dX12_pen_21 : decode cX12_pen 21 = .ok (.aload_n 0, 1) := by decide +kernel
theorem dX12_pen_22 : decode cX12_pen 22 = .ok (.iconst 2, 1) := by decide +kernel
theorem dX12_pen_23 : decode cX12_pen 23 = .ok (.iconst 0, 1) := by decide +kernel
theorem dX12_pen_24 : decode cX12_pen 24 = .ok (.iload_n 1, 1) := by decide +kernel
theorem dX12_pen_25 : decode cX12_pen 25 = .ok (.ifCond .eq 7, 3) := by decide +kernel
theorem dX12_pen_28 : decode cX12_pen 28 = .ok (.iconst 1, 1) := by decide +kernel
theorem dX12_pen_29 : decode cX12_pen 29 = .ok (.goto 4, 3) := by decide +kernel
theorem dX12_pen_32 : decode cX12_pen 32 = .ok (.iconst 0, 1) := by decide +kernel
theorem dX12_pen_33 : decode cX12_pen 33 = .ok (.iconst 0, 1) := by decide +kernel
theorem dX12_pen_34 : decode cX12_pen 34 = .ok (.invokevirtual 133, 3) := by decide +kernel
theorem dX12_pen_37 : decode cX12_pen 37 = .ok (.goto 4, 3) := by decide +kernel
theorem dX12_pen_40 : decode cX12_pen 40 = .ok (.iconst 0, 1) := by decide +kernel
theorem dX12_pen_41 : decode cX12_pen 41 = .ok (.ireturn, 1) := by decide +kernel
theorem dX12_set_0 : decode cX12_set 0 = .ok (.aload_n 0, 1) := by decide +kernel
theorem dX12_set_1 : decode cX12_set 1 = .ok (.iload_n 1, 1) := by decide +kernel
theorem dX12_set_2 : decode cX12_set 2 = .ok (.iload_n 2, 1) := by decide +kernel
theorem dX12_set_3 : decode cX12_set 3 = .ok (.iload_n 3, 1) := by decide +kernel
theorem dX12_set_4 : decode cX12_set 4 = .ok (.bipush (-99), 2) := by decide +kernel
theorem dX12_set_6 : decode cX12_set 6 = .ok (.invokevirtual 129, 3) := by decide +kernel
theorem dX12_set_9 : decode cX12_set 9 = .ok (.ifCond .eq 14, 3) := by decide +kernel
theorem dX12_set_12 : decode cX12_set 12 = .ok (.aload_n 0, 1) := by decide +kernel
theorem dX12_set_13 : decode cX12_set 13 = .ok (.iconst 3, 1) := by decide +kernel
theorem dX12_set_14 : decode cX12_set 14 = .ok (.iload_n 1, 1) := by decide +kernel
theorem dX12_set_15 : decode cX12_set 15 = .ok (.iload_n 2, 1) := by decide +kernel
theorem dX12_set_16 : decode cX12_set 16 = .ok (.iload_n 3, 1) := by decide +kernel
theorem dX12_set_17 : decode cX12_set 17 = .ok (.invokevirtual 133, 3) := by decide +kernel
theorem dX12_set_20 : decode cX12_set 20 = .ok (.goto 4, 3) := by decide +kernel
theorem dX12_set_23 : decode cX12_set 23 = .ok (.iconst 0, 1) := by decide +kernel
theorem dX12_set_24 : decode cX12_set 24 = .ok (.ireturn, 1) := by decide +kernel
theorem dX12_add_0 : decode cX12_add 0 = .ok (.aload_n 0, 1) := by decide +kernel
theorem dX12_add_1 : decode cX12_add 1 = .ok (.iload_n 1, 1) := by decide +kernel
theorem dX12_add_2 : decode cX12_add 2 = .ok (.iload_n 2, 1) := by decide +kernel
theorem dX12_add_3 : decode cX12_add 3 = .ok (.iload_n 3, 1) := by decide +kernel
theorem dX12_add_4 : decode cX12_add 4 = .ok (.bipush (-99), 2) := by decide +kernel
theorem dX12_add_6 : decode cX12_add 6 = .ok (.invokevirtual 129, 3) := by decide +kernel
theorem dX12_add_9 : decode cX12_add 9 = .ok (.ifCond .eq 14, 3) := by decide +kernel
theorem dX12_add_12 : decode cX12_add 12 = .ok (.aload_n 0, 1) := by decide +kernel
theorem dX12_add_13 : decode cX12_add 13 = .ok (.iconst 4, 1) := by decide +kernel
theorem dX12_add_14 : decode cX12_add 14 = .ok (.iload_n 1, 1) := by decide +kernel
theorem dX12_add_15 : decode cX12_add 15 = .ok (.iload_n 2, 1) := by decide +kernel
theorem dX12_add_16 : decode cX12_add 16 = .ok (.iload_n 3, 1) := by decide +kernel
theorem dX12_add_17 : decode cX12_add 17 = .ok (.invokevirtual 133, 3) := by decide +kernel
theorem dX12_add_20 : decode cX12_add 20 = .ok (.goto 4, 3) := by decide +kernel
theorem dX12_add_23 : decode cX12_add 23 = .ok (.iconst 0, 1) := by decide +kernel
theorem dX12_add_24 : decode cX12_add 24 = .ok (.ireturn, 1) := by decide +kernel
theorem dX12_repeat_0 : decode cX12_repeat 0 = .ok (.aload_n 0, 1) := by decide +kernel
theorem dX12_repeat_1 : decode cX12_repeat 1 = .ok (.iconst 0, 1) := by decide +kernel
theorem dX12_repeat_2 : decode cX12_repeat 2 = .ok (.iload_n 1, 1) := by decide +kernel
theorem dX12_repeat_3 : decode cX12_repeat 3 = .ok (.iload_n 2, 1) := by decide +kernel
theorem dX12_repeat_4 : decode cX12_repeat 4 = .ok (.iconst 0, 1) := by decide +kernel
theorem dX12_repeat_5 : decode cX12_repeat 5 = .ok (.invokevirtual 129, 3) := by decide +kernel
theorem dX12_repeat_8 : decode cX12_repeat 8 = .ok (.ifCond .ne 5, 3) := by decide +kernel
theorem dX12_repeat_11 : decode cX12_repeat 11 = .ok (.iconst 0, 1) := by decide +kernel
theorem dX12_repeat_12 : decode cX12_repeat 12 = .ok (.ireturn, 1) := by decide +kernel
theorem dX12_repeat_13 : decode cX12_repeat 13 = .ok (.aload_n 0, 1) := by decide +kernel
theorem dX12_repeat_14 : decode cX12_repeat 14 = .ok (.dup, 1) := by decide +kernel
theorem dX12_repeat_15 : decode cX12_repeat 15 = .ok (.getfield 137, 3) := by decide +kernel
theorem dX12_repeat_18 : decode cX12_repeat 18 = .ok (.iconst 1, 1) := by decide +kernel
theorem dX12_repeat_19 : decode cX12_repeat 19 = .ok (.iadd, 1) := by decide +kernel
theorem dX12_repeat_20 : decode cX12_repeat 20 = .ok (.putfield 137, 3) := by decide +kernel
theorem dX12_repeat_23 : decode cX12_repeat 23 = .ok (.aload_n 0, 1) := by decide +kernel
theorem dX12_repeat_24 : decode cX12_repeat 24 = .ok (.iconst 5, 1) := by decide +kernel
theorem dX12_repeat_25 : decode cX12_repeat 25 = .ok (.iconst 0, 1) := by decide +kernel
theorem dX12_repeat_26 : decode cX12_repeat 26 = .ok (.iload_n 1, 1) := by decide +kernel
theorem dX12_repeat_27 : decode cX12_repeat 27 = .ok (.iload_n 2, 1) := by decide +kernel
theorem dX12_repeat_28 : decode cX12_repeat 28 = .ok (.invokevirtual 133, 3) := by decide +kernel
theorem dX12_repeat_31 : decode cX12_repeat 31 = .ok (.ireturn, 1) := by decide +kernel
theorem dX12_word_0 : decode cX12_word 0 = .ok (.iload_n 1, 1) := by decide +kernel
theorem dX12_word_1 : decode cX12_word 1 = .ok (.invokestatic 122, 3) := by decide +kernel
theorem dX12_word_4 : decode cX12_word 4 = .ok (.istore_n 2, 1) := by decide +kernel
theorem dX12_word_5 : decode cX12_word 5 = .ok (.aload_n 0, 1) := by decide +kernel
theorem dX12_word_6 : decode cX12_word 6 = .ok (.iload_n 2, 1) := by decide +kernel
theorem dX12_word_7 : decode cX12_word 7 = .ok (.ifCond .ne 7, 3) := by decide +kernel
theorem dX12_word_10 : decode cX12_word 10 = .ok (.iconst 1, 1) := by decide +kernel
theorem dX12_word_11 : decode cX12_word 11 = .ok (.goto 36, 3) := by decide +kernel
theorem dX12_word_14 : decode cX12_word 14 = .ok (.aload_n 0, 1) := by decide +kernel
theorem dX12_word_15 : decode cX12_word 15 = .ok (.getfield 119, 3) := by decide +kernel
theorem dX12_word_18 : decode cX12_word 18 = .ok (.bipush 30, 2) := by decide +kernel
theorem dX12_word_20 : decode cX12_word 20 = .ok (.if_icmp .eq 22, 3) := by decide +kernel
theorem dX12_word_23 : decode cX12_word 23 = .ok (.aload_n 0, 1) := by decide +kernel
theorem dX12_word_24 : decode cX12_word 24 = .ok (.getfield 137, 3) := by decide +kernel
theorem dX12_word_27 : decode cX12_word 27 = .ok (.ifCond .gt 15, 3) := by decide +kernel
theorem dX12_word_30 : decode cX12_word 30 = .ok (.aload_n 0, 1) := by decide +kernel
theorem dX12_word_31 : decode cX12_word 31 = .ok (.getfield 140, 3) := by decide +kernel
theorem dX12_word_34 : decode cX12_word 34 = .ok (.iload_n 1, 1) := by decide +kernel
theorem dX12_word_35 : decode cX12_word 35 = .ok (.ishr, 1) := by decide +kernel
theorem dX12_word_36 : decode cX12_word 36 = .ok (.iconst 1, 1) := by decide +kernel
theorem dX12_word_37 : decode cX12_word 37 = .ok (.iand, 1) := by decide +kernel
theorem dX12_word_38 : decode cX12_word 38 = .ok (.iconst 1, 1) := by decide +kernel
theorem dX12_word_39 : decode cX12_word 39 = .ok (.if_icmp .ne 7, 3) := by decide +kernel
theorem dX12_word_42 : decode cX12_word 42 = .ok (.iconst 2, 1) := by decide +kernel
theorem dX12_word_43 : decode cX12_word 43 = .ok (.goto 4, 3) := by decide +kernel
theorem dX12_word_46 : decode cX12_word 46 = .ok (.iconst 0, 1) := by decide +kernel
theorem dX12_word_47 : decode cX12_word 47 = .ok (.invokevirtual 126, 3) := by decide +kernel
theorem dX12_word_50 : decode cX12_word 50 = .ok (.ifCond .ne 5, 3) := by decide +kernel
theorem dX12_word_53 : decode cX12_word 53 = .ok (.iconst 0, 1) := by decide +kernel
theorem dX12_word_54 : decode cX12_word 54 = .ok (.ireturn, 1) := by decide +kernel
theorem dX12_word_55 : decode cX12_word 55 = .ok (.aload_n 0, 1) := by decide +kernel
theorem dX12_word_56 : decode cX12_word 56 = .ok (.dup, 1) := by decide +kernel
theorem dX12_word_57 : decode cX12_word 57 = .ok (.getfield 137, 3) := by decide +kernel
theorem dX12_word_60 : decode cX12_word 60 = .ok (.iconst 1, 1) := by decide +kernel
theorem dX12_word_61 : decode cX12_word 61 = .ok (.iadd, 1) := by decide +kernel
theorem dX12_word_62 : decode cX12_word 62 = .ok (.putfield 137, 3) := by decide +kernel
theorem dX12_word_65 : decode cX12_word 65 = .ok (.aload_n 0, 1) := by decide +kernel
theorem dX12_word_66 : decode cX12_word 66 = .ok (.dup, 1) := by decide +kernel
theorem dX12_word_67 : decode cX12_word 67 = .ok (.getfield 140, 3) := by decide +kernel
theorem dX12_word_70 : decode cX12_word 70 = .ok (.iconst 1, 1) := by decide +kernel
theorem dX12_word_71 : decode cX12_word 71 = .ok (.iload_n 1, 1) := by decide +kernel
theorem dX12_word_72 : decode cX12_word 72 = .ok (.ishl, 1) := by decide +kernel
theorem dX12_word_73 : decode cX12_word 73 = .ok (.ior, 1) := by decide +kernel
theorem dX12_word_74 : decode cX12_word 74 = .ok (.putfield 140, 3) := by decide +kernel
theorem dX12_word_77 : decode cX12_word 77 = .ok (.aload_n 0, 1) := by decide +kernel
theorem dX12_word_78 : decode cX12_word 78 = .ok (.bipush 6, 2) := by decide +kernel
theorem dX12_word_80 : decode cX12_word 80 = .ok (.iload_n 1, 1) := by decide +kernel
theorem dX12_word_81 : decode cX12_word 81 = .ok (.iconst 0, 1) := by decide +kernel
theorem dX12_word_82 : decode cX12_word 82 = .ok (.iconst 0, 1) := by decide +kernel
theorem dX12_word_83 : decode cX12_word 83 = .ok (.invokevirtual 133, 3) := by decide +kernel
theorem dX12_word_86 : decode cX12_word 86 = .ok (.ireturn, 1) := by decide +kernel
theorem dX12_call_0 : decode cX12_call 0 = .ok (.aload_n 0, 1) := by decide +kernel
theorem dX12_call_1 : decode cX12_call 1 = .ok (.iload_n 1, 1) := by decide +kernel
theorem dX12_call_2 : decode cX12_call 2 = .ok (.invokestatic 122, 3) := by decide +kernel
theorem dX12_call_5 : decode cX12_call 5 = .ok (.ifCond .ne 7, 3) := by decide +kernel
theorem dX12_call_8 : decode cX12_call 8 = .ok (.iconst 1, 1) := by decide +kernel
theorem dX12_call_9 : decode cX12_call 9 = .ok (.goto 17, 3) := by decide +kernel
theorem dX12_call_12 : decode cX12_call 12 = .ok (.aload_n 0, 1) := by decide +kernel
theorem dX12_call_13 : decode cX12_call 13 = .ok (.getfield 119, 3) := by decide +kernel
theorem dX12_call_16 : decode cX12_call 16 = .ok (.bipush 30, 2) := by decide +kernel
theorem dX12_call_18 : decode cX12_call 18 = .ok (.if_icmp .ne 7, 3) := by decide +kernel
theorem dX12_call_21 : decode cX12_call 21 = .ok (.iconst 2, 1) := by decide +kernel
theorem dX12_call_22 : decode cX12_call 22 = .ok (.goto 4, 3) := by decide +kernel
theorem dX12_call_25 : decode cX12_call 25 = .ok (.iconst 0, 1) := by decide +kernel
theorem dX12_call_26 : decode cX12_call 26 = .ok (.invokevirtual 126, 3) := by decide +kernel
theorem dX12_call_29 : decode cX12_call 29 = .ok (.ifCond .eq 15, 3) := by decide +kernel
theorem dX12_call_32 : decode cX12_call 32 = .ok (.aload_n 0, 1) := by decide +kernel
theorem dX12_call_33 : decode cX12_call 33 = .ok (.bipush 7, 2) := by decide +kernel
theorem dX12_call_35 : decode cX12_call 35 = .ok (.iload_n 1, 1) := by decide +kernel
theorem dX12_call_36 : decode cX12_call 36 = .ok (.iconst 0, 1) := by decide +kernel
theorem dX12_call_37 : decode cX12_call 37 = .ok (.iconst 0, 1) := by decide +kernel
theorem dX12_call_38 : decode cX12_call 38 = .ok (.invokevirtual 133, 3) := by decide +kernel
theorem dX12_call_41 : decode cX12_call 41 = .ok (.goto 4, 3) := by decide +kernel
theorem dX12_call_44 : decode cX12_call 44 = .ok (.iconst 0, 1) := by decide +kernel
theorem dX12_call_45 : decode cX12_call 45 = .ok (.ireturn, 1) := by decide +kernel
theorem dX12_end_0 : decode cX12_end 0 = .ok (.aload_n 0, 1) := by decide +kernel
theorem dX12_end_1 : decode cX12_end 1 = .ok (.aload_n 0, 1) := by decide +kernel
theorem dX12_end_2 : decode cX12_end 2 = .ok (.getfield 137, 3) := by decide +kernel
theorem dX12_end_5 : decode cX12_end 5 = .ok (.ifCond .eq 12, 3) := by decide +kernel
theorem dX12_end_8 : decode cX12_end 8 = .ok (.aload_n 0, 1) := by decide +kernel
theorem dX12_end_9 : decode cX12_end 9 = .ok (.getfield 119, 3) := by decide +kernel
theorem dX12_end_12 : decode cX12_end 12 = .ok (.bipush 30, 2) := by decide +kernel
theorem dX12_end_14 : decode cX12_end 14 = .ok (.if_icmp .ne 7, 3) := by decide +kernel
theorem dX12_end_17 : decode cX12_end 17 = .ok (.iconst 1, 1) := by decide +kernel
theorem dX12_end_18 : decode cX12_end 18 = .ok (.goto 4, 3) := by decide +kernel
theorem dX12_end_21 : decode cX12_end 21 = .ok (.iconst 0, 1) := by decide +kernel
theorem dX12_end_22 : decode cX12_end 22 = .ok (.invokevirtual 126, 3) := by decide +kernel
theorem dX12_end_25 : decode cX12_end 25 = .ok (.ifCond .ne 5, 3) := by decide +kernel
theorem dX12_end_28 : decode cX12_end 28 = .ok (.iconst 0, 1) := by decide +kernel
theorem dX12_end_29 : decode cX12_end 29 = .ok (.ireturn, 1) := by decide +kernel
theorem dX12_end_30 : decode cX12_end 30 = .ok (.aload_n 0, 1) := by decide +kernel
theorem dX12_end_31 : decode cX12_end 31 = .ok (.dup, 1) := by decide +kernel
theorem dX12_end_32 : decode cX12_end 32 = .ok (.getfield 137, 3) := by decide +kernel
theorem dX12_end_35 : decode cX12_end 35 = .ok (.iconst 1, 1) := by decide +kernel
theorem dX12_end_36 : decode cX12_end 36 = .ok (.isub, 1) := by decide +kernel
theorem dX12_end_37 : decode cX12_end 37 = .ok (.putfield 137, 3) := by decide +kernel
theorem dX12_end_40 : decode cX12_end 40 = .ok (.aload_n 0, 1) := by decide +kernel
theorem dX12_end_41 : decode cX12_end 41 = .ok (.bipush 8, 2) := by decide +kernel
theorem dX12_end_43 : decode cX12_end 43 = .ok (.iconst 0, 1) := by decide +kernel
theorem dX12_end_44 : decode cX12_end 44 = .ok (.iconst 0, 1) := by decide +kernel
theorem dX12_end_45 : decode cX12_end 45 = .ok (.iconst 0, 1) := by decide +kernel
theorem dX12_end_46 : decode cX12_end 46 = .ok (.invokevirtual 133, 3) := by decide +kernel
theorem dX12_end_49 : decode cX12_end 49 = .ok (.istore_n 1, 1) := by decide +kernel
theorem dX12_end_50 : decode cX12_end 50 = .ok (.aload_n 0, 1) := by decide +kernel
theorem dX12_end_51 : decode cX12_end 51 = .ok (.getfield 137, 3) := by decide +kernel
theorem dX12_end_54 : decode cX12_end 54 = .ok (.ireturn, 1) := by decide +kernel
theorem dX12_wipes_0 : decode cX12_wipes 0 = .ok (.aload_n 0, 1) := by decide +kernel
theorem dX12_wipes_1 : decode cX12_wipes 1 = .ok (.getfield 119, 3) := by decide +kernel
theorem dX12_wipes_4 : decode cX12_wipes 4 = .ok (.istore_n 1, 1) := by decide +kernel
theorem dX12_wipes_5 : decode cX12_wipes 5 = .ok (.aload_n 0, 1) := by decide +kernel
theorem dX12_wipes_6 : decode cX12_wipes 6 = .ok (.iconst 0, 1) := by decide +kernel
theorem dX12_wipes_7 : decode cX12_wipes 7 = .ok (.putfield 119, 3) := by decide +kernel
theorem dX12_wipes_10 : decode cX12_wipes 10 = .ok (.aload_n 0, 1) := by decide +kernel
theorem dX12_wipes_11 : decode cX12_wipes 11 = .ok (.iconst 0, 1) := by decide +kernel
theorem dX12_wipes_12 : decode cX12_wipes 12 = .ok (.putfield 137, 3) := by decide +kernel
theorem dX12_wipes_15 : decode cX12_wipes 15 = .ok (.aload_n 0, 1) := by decide +kernel
theorem dX12_wipes_16 : decode cX12_wipes 16 = .ok (.iconst 0, 1) := by decide +kernel
theorem dX12_wipes_17 : decode cX12_wipes 17 = .ok (.putfield 140, 3) := by decide +kernel
theorem dX12_wipes_20 : decode cX12_wipes 20 = .ok (.iload_n 1, 1) := by decide +kernel
theorem dX12_wipes_21 : decode cX12_wipes 21 = .ok (.ireturn, 1) := by decide +kernel
theorem dX12_wipe_0 : decode cX12_wipe 0 = .ok (.aload_n 0, 1) := by decide +kernel
theorem dX12_wipe_1 : decode cX12_wipe 1 = .ok (.iconst 0, 1) := by decide +kernel
theorem dX12_wipe_2 : decode cX12_wipe 2 = .ok (.putfield 112, 3) := by decide +kernel
theorem dX12_wipe_5 : decode cX12_wipe 5 = .ok (.aload_n 0, 1) := by decide +kernel
theorem dX12_wipe_6 : decode cX12_wipe 6 = .ok (.invokevirtual 143, 3) := by decide +kernel
theorem dX12_wipe_9 : decode cX12_wipe 9 = .ok (.ireturn, 1) := by decide +kernel
theorem dX12_write_0 : decode cX12_write 0 = .ok (.iload_n 1, 1) := by decide +kernel
theorem dX12_write_1 : decode cX12_write 1 = .ok (.iconst 0, 1) := by decide +kernel
theorem dX12_write_2 : decode cX12_write 2 = .ok (.iconst 5, 1) := by decide +kernel
theorem dX12_write_3 : decode cX12_write 3 = .ok (.invokestatic 115, 3) := by decide +kernel
theorem dX12_write_6 : decode cX12_write 6 = .ok (.istore_n 2, 1) := by decide +kernel
theorem dX12_write_7 : decode cX12_write 7 = .ok (.aload_n 0, 1) := by decide +kernel
theorem dX12_write_8 : decode cX12_write 8 = .ok (.iload_n 2, 1) := by decide +kernel
theorem dX12_write_9 : decode cX12_write 9 = .ok (.ifCond .ne 7, 3) := by decide +kernel
theorem dX12_write_12 : decode cX12_write 12 = .ok (.iconst 1, 1) := by decide +kernel
theorem dX12_write_13 : decode cX12_write 13 = .ok (.goto 31, 3) := by decide +kernel
theorem dX12_write_16 : decode cX12_write 16 = .ok (.aload_n 0, 1) := by decide +kernel
theorem dX12_write_17 : decode cX12_write 17 = .ok (.getfield 119, 3) := by decide +kernel
theorem dX12_write_20 : decode cX12_write 20 = .ok (.ifCond .eq 19, 3) := by decide +kernel
theorem dX12_write_23 : decode cX12_write 23 = .ok (.aload_n 0, 1) := by decide +kernel
theorem dX12_write_24 : decode cX12_write 24 = .ok (.getfield 137, 3) := by decide +kernel
theorem dX12_write_27 : decode cX12_write 27 = .ok (.ifCond .gt 12, 3) := by decide +kernel
theorem dX12_write_30 : decode cX12_write 30 = .ok (.aload_n 0, 1) := by decide +kernel
theorem dX12_write_31 : decode cX12_write 31 = .ok (.getfield 147, 3) := by decide +kernel
theorem dX12_write_34 : decode cX12_write 34 = .ok (.bipush 30, 2) := by decide +kernel
theorem dX12_write_36 : decode cX12_write 36 = .ok (.if_icmp .ne 7, 3) := by decide +kernel
theorem dX12_write_39 : decode cX12_write 39 = .ok (.iconst 2, 1) := by decide +kernel
theorem dX12_write_40 : decode cX12_write 40 = .ok (.goto 4, 3) := by decide +kernel
theorem dX12_write_43 : decode cX12_write 43 = .ok (.iconst 0, 1) := by decide +kernel
theorem dX12_write_44 : decode cX12_write 44 = .ok (.invokevirtual 126, 3) := by decide +kernel
theorem dX12_write_47 : decode cX12_write 47 = .ok (.ifCond .ne 5, 3) := by decide +kernel
theorem dX12_write_50 : decode cX12_write 50 = .ok (.iconst 0, 1) := by decide +kernel
theorem dX12_write_51 : decode cX12_write 51 = .ok (.ireturn, 1) := by decide +kernel
theorem dX12_write_52 : decode cX12_write 52 = .ok (.iconst 0, 1) := by decide +kernel
theorem dX12_write_53 : decode cX12_write 53 = .ok (.istore_n 3, 1) := by decide +kernel
theorem dX12_write_54 : decode cX12_write 54 = .ok (.iload_n 3, 1) := by decide +kernel
theorem dX12_write_55 : decode cX12_write 55 = .ok (.aload_n 0, 1) := by decide +kernel
theorem dX12_write_56 : decode cX12_write 56 = .ok (.getfield 119, 3) := by decide +kernel
theorem dX12_write_59 : decode cX12_write 59 = .ok (.if_icmp .ge 72, 3) := by decide +kernel
theorem dX12_write_62 : decode cX12_write 62 = .ok (.bipush 30, 2) := by decide +kernel
theorem dX12_write_64 : decode cX12_write 64 = .ok (.aload_n 0, 1) := by decide +kernel
theorem dX12_write_65 : decode cX12_write 65 = .ok (.getfield 147, 3) := by decide +kernel
theorem dX12_write_68 : decode cX12_write 68 = .ok (.imul, 1) := by decide +kernel
theorem dX12_write_69 : decode cX12_write 69 = .ok (.iload_n 3, 1) := by decide +kernel
theorem dX12_write_70 : decode cX12_write 70 = .ok (.iadd, 1) := by decide +kernel
theorem dX12_write_71 : decode cX12_write 71 = .ok (.istore 4, 2) := by decide +kernel
theorem dX12_write_73 : decode cX12_write 73 = .ok (.aload_n 0, 1) := by decide +kernel
theorem dX12_write_74 : decode cX12_write 74 = .ok (.getfield 29, 3) := by decide +kernel
theorem dX12_write_77 : decode cX12_write 77 = .ok (.iload 4, 2) := by decide +kernel
theorem dX12_write_79 : decode cX12_write 79 = .ok (.aload_n 0, 1) := by decide +kernel
theorem dX12_write_80 : decode cX12_write 80 = .ok (.getfield 7, 3) := by decide +kernel
theorem dX12_write_83 : decode cX12_write 83 = .ok (.iload_n 3, 1) := by decide +kernel
theorem dX12_write_84 : decode cX12_write 84 = .ok (.iaload, 1) := by decide +kernel
theorem dX12_write_85 : decode cX12_write 85 = .ok (.iastore, 1) := by decide +kernel
theorem dX12_write_86 : decode cX12_write 86 = .ok (.aload_n 0, 1) := by decide +kernel
theorem dX12_write_87 : decode cX12_write 87 = .ok (.getfield 32, 3) := by decide +kernel
theorem dX12_write_90 : decode cX12_write 90 = .ok (.iload 4, 2) := by decide +kernel
theorem dX12_write_92 : decode cX12_write 92 = .ok (.aload_n 0, 1) := by decide +kernel
theorem dX12_write_93 : decode cX12_write 93 = .ok (.getfield 13, 3) := by decide +kernel
theorem dX12_write_96 : decode cX12_write 96 = .ok (.iload_n 3, 1) := by decide +kernel
theorem dX12_write_97 : decode cX12_write 97 = .ok (.iaload, 1) := by decide +kernel
theorem dX12_write_98 : decode cX12_write 98 = .ok (.iastore, 1) := by decide +kernel
theorem dX12_write_99 : decode cX12_write 99 = .ok (.aload_n 0, 1) := by decide +kernel
theorem dX12_write_100 : decode cX12_write 100 = .ok (.getfield 35, 3) := by decide +kernel
theorem dX12_write_103 : decode cX12_write 103 = .ok (.iload 4, 2) := by decide +kernel
theorem dX12_write_105 : decode cX12_write 105 = .ok (.aload_n 0, 1) := by decide +kernel
theorem dX12_write_106 : decode cX12_write 106 = .ok (.getfield 16, 3) := by decide +kernel
theorem dX12_write_109 : decode cX12_write 109 = .ok (.iload_n 3, 1) := by decide +kernel
theorem dX12_write_110 : decode cX12_write 110 = .ok (.iaload, 1) := by decide +kernel
theorem dX12_write_111 : decode cX12_write 111 = .ok (.iastore, 1) := by decide +kernel
theorem dX12_write_112 : decode cX12_write 112 = .ok (.aload_n 0, 1) := by decide +kernel
theorem dX12_write_113 : decode cX12_write 113 = .ok (.getfield 38, 3) := by decide +kernel
theorem dX12_write_116 : decode cX12_write 116 = .ok (.iload 4, 2) := by decide +kernel
theorem dX12_write_118 : decode cX12_write 118 = .ok (.aload_n 0, 1) := by decide +kernel
theorem dX12_write_119 : decode cX12_write 119 = .ok (.getfield 19, 3) := by decide +kernel
theorem dX12_write_122 : decode cX12_write 122 = .ok (.iload_n 3, 1) := by decide +kernel
theorem dX12_write_123 : decode cX12_write 123 = .ok (.baload, 1) := by decide +kernel
theorem dX12_write_124 : decode cX12_write 124 = .ok (.bastore, 1) := by decide +kernel
theorem dX12_write_125 : decode cX12_write 125 = .ok (.iinc 3 1, 3) := by decide +kernel
theorem dX12_write_128 : decode cX12_write 128 = .ok (.goto (-74), 3) := by decide +kernel
theorem dX12_write_131 : decode cX12_write 131 = .ok (.aload_n 0, 1) := by decide +kernel
theorem dX12_write_132 : decode cX12_write 132 = .ok (.getfield 23, 3) := by decide +kernel
theorem dX12_write_135 : decode cX12_write 135 = .ok (.aload_n 0, 1) := by decide +kernel
theorem dX12_write_136 : decode cX12_write 136 = .ok (.getfield 147, 3) := by decide +kernel
theorem dX12_write_139 : decode cX12_write 139 = .ok (.iload_n 1, 1) := by decide +kernel
theorem dX12_write_140 : decode cX12_write 140 = .ok (.iastore, 1) := by decide +kernel
theorem dX12_write_141 : decode cX12_write 141 = .ok (.aload_n 0, 1) := by decide +kernel
theorem dX12_write_142 : decode cX12_write 142 = .ok (.getfield 26, 3) := by decide +kernel
theorem dX12_write_145 : decode cX12_write 145 = .ok (.aload_n 0, 1) := by decide +kernel
theorem dX12_write_146 : decode cX12_write 146 = .ok (.getfield 147, 3) := by decide +kernel
theorem dX12_write_149 : decode cX12_write 149 = .ok (.aload_n 0, 1) := by decide +kernel
theorem dX12_write_150 : decode cX12_write 150 = .ok (.getfield 119, 3) := by decide +kernel
theorem dX12_write_153 : decode cX12_write 153 = .ok (.iastore, 1) := by decide +kernel
theorem dX12_write_154 : decode cX12_write 154 = .ok (.aload_n 0, 1) := by decide +kernel
theorem dX12_write_155 : decode cX12_write 155 = .ok (.invokevirtual 143, 3) := by decide +kernel
theorem dX12_write_158 : decode cX12_write 158 = .ok (.istore_n 3, 1) := by decide +kernel
theorem dX12_write_159 : decode cX12_write 159 = .ok (.aload_n 0, 1) := by decide +kernel
theorem dX12_write_160 : decode cX12_write 160 = .ok (.dup, 1) := by decide +kernel
theorem dX12_write_161 : decode cX12_write 161 = .ok (.getfield 147, 3) := by decide +kernel
theorem dX12_write_164 : decode cX12_write 164 = .ok (.iconst 1, 1) := by decide +kernel
theorem dX12_write_165 : decode cX12_write 165 = .ok (.iadd, 1) := by decide +kernel
theorem dX12_write_166 : decode cX12_write 166 = .ok (.putfield 147, 3) := by decide +kernel
theorem dX12_write_169 : decode cX12_write 169 = .ok (.aload_n 0, 1) := by decide +kernel
theorem dX12_write_170 : decode cX12_write 170 = .ok (.aload_n 0, 1) := by decide +kernel
theorem dX12_write_171 : decode cX12_write 171 = .ok (.getfield 147, 3) := by decide +kernel
theorem dX12_write_174 : decode cX12_write 174 = .ok (.iconst 1, 1) := by decide +kernel
theorem dX12_write_175 : decode cX12_write 175 = .ok (.isub, 1) := by decide +kernel
theorem dX12_write_176 : decode cX12_write 176 = .ok (.invokevirtual 150, 3) := by decide +kernel
theorem dX12_write_179 : decode cX12_write 179 = .ok (.aload_n 0, 1) := by decide +kernel
theorem dX12_write_180 : decode cX12_write 180 = .ok (.getfield 41, 3) := by decide +kernel
theorem dX12_write_183 : decode cX12_write 183 = .ok (.aload_n 0, 1) := by decide +kernel
theorem dX12_write_184 : decode cX12_write 184 = .ok (.getfield 147, 3) := by decide +kernel
theorem dX12_write_187 : decode cX12_write 187 = .ok (.iconst 1, 1) := by decide +kernel
theorem dX12_write_188 : decode cX12_write 188 = .ok (.isub, 1) := by decide +kernel
theorem dX12_write_189 : decode cX12_write 189 = .ok (.aload_n 0, 1) := by decide +kernel
theorem dX12_write_190 : decode cX12_write 190 = .ok (.getfield 154, 3) := by decide +kernel
theorem dX12_write_193 : decode cX12_write 193 = .ok (.iastore, 1) := by decide +kernel
theorem dX12_write_194 : decode cX12_write 194 = .ok (.aload_n 0, 1) := by decide +kernel
theorem dX12_write_195 : decode cX12_write 195 = .ok (.getfield 44, 3) := by decide +kernel
theorem dX12_write_198 : decode cX12_write 198 = .ok (.aload_n 0, 1) := by decide +kernel
theorem dX12_write_199 : decode cX12_write 199 = .ok (.getfield 147, 3) := by decide +kernel
theorem dX12_write_202 : decode cX12_write 202 = .ok (.iconst 1, 1) := by decide +kernel
theorem dX12_write_203 : decode cX12_write 203 = .ok (.isub, 1) := by decide +kernel
theorem dX12_write_204 : decode cX12_write 204 = .ok (.aload_n 0, 1) := by decide +kernel
theorem dX12_write_205 : decode cX12_write 205 = .ok (.getfield 157, 3) := by decide +kernel
theorem dX12_write_208 : decode cX12_write 208 = .ok (.iastore, 1) := by decide +kernel
theorem dX12_write_209 : decode cX12_write 209 = .ok (.aload_n 0, 1) := by decide +kernel
theorem dX12_write_210 : decode cX12_write 210 = .ok (.getfield 47, 3) := by decide +kernel
theorem dX12_write_213 : decode cX12_write 213 = .ok (.aload_n 0, 1) := by decide +kernel
theorem dX12_write_214 : decode cX12_write 214 = .ok (.getfield 147, 3) := by decide +kernel
theorem dX12_write_217 : decode cX12_write 217 = .ok (.iconst 1, 1) := by decide +kernel
theorem dX12_write_218 : decode cX12_write 218 = .ok (.isub, 1) := by decide +kernel
theorem dX12_write_219 : decode cX12_write 219 = .ok (.aload_n 0, 1) := by decide +kernel
theorem dX12_write_220 : decode cX12_write 220 = .ok (.getfield 65, 3) := by decide +kernel
theorem dX12_write_223 : decode cX12_write 223 = .ok (.aload_n 0, 1) := by decide +kernel
theorem dX12_write_224 : decode cX12_write 224 = .ok (.getfield 157, 3) := by decide +kernel
theorem dX12_write_227 : decode cX12_write 227 = .ok (.iaload, 1) := by decide +kernel
theorem dX12_write_228 : decode cX12_write 228 = .ok (.iastore, 1) := by decide +kernel
theorem dX12_write_229 : decode cX12_write 229 = .ok (.aload_n 0, 1) := by decide +kernel
theorem dX12_write_230 : decode cX12_write 230 = .ok (.getfield 147, 3) := by decide +kernel
theorem dX12_write_233 : decode cX12_write 233 = .ok (.iconst 1, 1) := by decide +kernel
theorem dX12_write_234 : decode cX12_write 234 = .ok (.isub, 1) := by decide +kernel
theorem dX12_write_235 : decode cX12_write 235 = .ok (.ireturn, 1) := by decide +kernel
theorem dX12_isProgram_0 : decode cX12_isProgram 0 = .ok (.iload_n 1, 1) := by decide +kernel
theorem dX12_isProgram_1 : decode cX12_isProgram 1 = .ok (.iconst 0, 1) := by decide +kernel
theorem dX12_isProgram_2 : decode cX12_isProgram 2 = .ok (.aload_n 0, 1) := by decide +kernel
theorem dX12_isProgram_3 : decode cX12_isProgram 3 = .ok (.getfield 147, 3) := by decide +kernel
theorem dX12_isProgram_6 : decode cX12_isProgram 6 = .ok (.iconst 1, 1) := by decide +kernel
theorem dX12_isProgram_7 : decode cX12_isProgram 7 = .ok (.isub, 1) := by decide +kernel
theorem dX12_isProgram_8 : decode cX12_isProgram 8 = .ok (.invokestatic 115, 3) := by decide +kernel
theorem dX12_isProgram_11 : decode cX12_isProgram 11 = .ok (.ireturn, 1) := by decide +kernel
theorem dX12_counts_0 : decode cX12_counts 0 = .ok (.aload_n 0, 1) := by decide +kernel
theorem dX12_counts_1 : decode cX12_counts 1 = .ok (.getfield 157, 3) := by decide +kernel
theorem dX12_counts_4 : decode cX12_counts 4 = .ok (.sipush 600, 3) := by decide +kernel
theorem dX12_counts_7 : decode cX12_counts 7 = .ok (.if_icmp .ne 10, 3) := by decide +kernel
theorem dX12_counts_10 : decode cX12_counts 10 = .ok (.aload_n 0, 1) := by decide +kernel
theorem dX12_counts_11 : decode cX12_counts 11 = .ok (.iconst 1, 1) := by decide +kernel
theorem dX12_counts_12 : decode cX12_counts 12 = .ok (.putfield 154, 3) := by decide +kernel
theorem dX12_counts_15 : decode cX12_counts 15 = .ok (.iconst 0, 1) := by decide +kernel
theorem dX12_counts_16 : decode cX12_counts 16 = .ok (.ireturn, 1) := by decide +kernel
theorem dX12_counts_17 : decode cX12_counts 17 = .ok (.aload_n 0, 1) := by decide +kernel
theorem dX12_counts_18 : decode cX12_counts 18 = .ok (.dup, 1) := by decide +kernel
theorem dX12_counts_19 : decode cX12_counts 19 = .ok (.getfield 157, 3) := by decide +kernel
theorem dX12_counts_22 : decode cX12_counts 22 = .ok (.iconst 1, 1) := by decide +kernel
theorem dX12_counts_23 : decode cX12_counts 23 = .ok (.iadd, 1) := by decide +kernel
theorem dX12_counts_24 : decode cX12_counts 24 = .ok (.putfield 157, 3) := by decide +kernel
theorem dX12_counts_27 : decode cX12_counts 27 = .ok (.aload_n 0, 1) := by decide +kernel
theorem dX12_counts_28 : decode cX12_counts 28 = .ok (.getfield 65, 3) := by decide +kernel
theorem dX12_counts_31 : decode cX12_counts 31 = .ok (.aload_n 0, 1) := by decide +kernel
theorem dX12_counts_32 : decode cX12_counts 32 = .ok (.getfield 157, 3) := by decide +kernel
theorem dX12_counts_35 : decode cX12_counts 35 = .ok (.aload_n 0, 1) := by decide +kernel
theorem dX12_counts_36 : decode cX12_counts 36 = .ok (.getfield 65, 3) := by decide +kernel
theorem dX12_counts_39 : decode cX12_counts 39 = .ok (.aload_n 0, 1) := by decide +kernel
theorem dX12_counts_40 : decode cX12_counts 40 = .ok (.getfield 157, 3) := by decide +kernel
theorem dX12_counts_43 : decode cX12_counts 43 = .ok (.iconst 1, 1) := by decide +kernel
theorem dX12_counts_44 : decode cX12_counts 44 = .ok (.isub, 1) := by decide +kernel
theorem dX12_counts_45 : decode cX12_counts 45 = .ok (.iaload, 1) := by decide +kernel
theorem dX12_counts_46 : decode cX12_counts 46 = .ok (.iastore, 1) := by decide +kernel
theorem dX12_counts_47 : decode cX12_counts 47 = .ok (.iconst 1, 1) := by decide +kernel
theorem dX12_counts_48 : decode cX12_counts 48 = .ok (.ireturn, 1) := by decide +kernel
theorem dX12_isOn_0 : decode cX12_isOn 0 = .ok (.iload_n 0, 1) := by decide +kernel
theorem dX12_isOn_1 : decode cX12_isOn 1 = .ok (.iconst 0, 1) := by decide +kernel
theorem dX12_isOn_2 : decode cX12_isOn 2 = .ok (.bipush 15, 2) := by decide +kernel
theorem dX12_isOn_4 : decode cX12_isOn 4 = .ok (.invokestatic 115, 3) := by decide +kernel
theorem dX12_isOn_7 : decode cX12_isOn 7 = .ok (.ifCond .eq 17, 3) := by decide +kernel
theorem dX12_isOn_10 : decode cX12_isOn 10 = .ok (.iload_n 1, 1) := by decide +kernel
theorem dX12_isOn_11 : decode cX12_isOn 11 = .ok (.iconst 0, 1) := by decide +kernel
theorem dX12_isOn_12 : decode cX12_isOn 12 = .ok (.bipush 15, 2) := by decide +kernel
theorem dX12_isOn_14 : decode cX12_isOn 14 = .ok (.invokestatic 115, 3) := by decide +kernel
theorem dX12_isOn_17 : decode cX12_isOn 17 = .ok (.ifCond .eq 7, 3) := by decide +kernel
theorem dX12_isOn_20 : decode cX12_isOn 20 = .ok (.iconst 1, 1) := by decide +kernel
theorem dX12_isOn_21 : decode cX12_isOn 21 = .ok (.goto 4, 3) := by decide +kernel
theorem dX12_isOn_24 : decode cX12_isOn 24 = .ok (.iconst 0, 1) := by decide +kernel
theorem dX12_isOn_25 : decode cX12_isOn 25 = .ok (.ireturn, 1) := by decide +kernel
theorem dX12_draws_0 : decode cX12_draws 0 = .ok (.iload_n 2, 1) := by decide +kernel
theorem dX12_draws_1 : decode cX12_draws 1 = .ok (.aload_n 0, 1) := by decide +kernel
theorem dX12_draws_2 : decode cX12_draws 2 = .ok (.getfield 160, 3) := by decide +kernel
theorem dX12_draws_5 : decode cX12_draws 5 = .ok (.if_icmp .ge 7, 3) := by decide +kernel
theorem dX12_draws_8 : decode cX12_draws 8 = .ok (.iload_n 2, 1) := by decide +kernel
theorem dX12_draws_9 : decode cX12_draws 9 = .ok (.goto 7, 3) := by decide +kernel
theorem dX12_draws_12 : decode cX12_draws 12 = .ok (.aload_n 0, 1) := by decide +kernel
theorem dX12_draws_13 : decode cX12_draws 13 = .ok (.getfield 160, 3) := by decide +kernel
theorem dX12_draws_16 : decode cX12_draws 16 = .ok (.istore 4, 2) := by decide +kernel
theorem dX12_draws_18 : decode cX12_draws 18 = .ok (.iload_n 3, 1) := by decide +kernel
theorem dX12_draws_19 : decode cX12_draws 19 = .ok (.aload_n 0, 1) := by decide +kernel
theorem dX12_draws_20 : decode cX12_draws 20 = .ok (.getfield 163, 3) := by decide +kernel
theorem dX12_draws_23 : decode cX12_draws 23 = .ok (.if_icmp .ge 7, 3) := by decide +kernel
theorem dX12_draws_26 : decode cX12_draws 26 = .ok (.iload_n 3, 1) := by decide +kernel
theorem dX12_draws_27 : decode cX12_draws 27 = .ok (.goto 7, 3) := by decide +kernel
theorem dX12_draws_30 : decode cX12_draws 30 = .ok (.aload_n 0, 1) := by decide +kernel
theorem dX12_draws_31 : decode cX12_draws 31 = .ok (.getfield 163, 3) := by decide +kernel
theorem dX12_draws_34 : decode cX12_draws 34 = .ok (.istore 5, 2) := by decide +kernel
theorem dX12_draws_36 : decode cX12_draws 36 = .ok (.bipush 16, 2) := by decide +kernel
theorem dX12_draws_38 : decode cX12_draws 38 = .ok (.iload_n 1, 1) := by decide +kernel
theorem dX12_draws_39 : decode cX12_draws 39 = .ok (.imul, 1) := by decide +kernel
theorem dX12_draws_40 : decode cX12_draws 40 = .ok (.iload 5, 2) := by decide +kernel
theorem dX12_draws_42 : decode cX12_draws 42 = .ok (.iadd, 1) := by decide +kernel
theorem dX12_draws_43 : decode cX12_draws 43 = .ok (.istore 6, 2) := by decide +kernel
theorem dX12_draws_45 : decode cX12_draws 45 = .ok (.iload_n 2, 1) := by decide +kernel
theorem dX12_draws_46 : decode cX12_draws 46 = .ok (.aload_n 0, 1) := by decide +kernel
theorem dX12_draws_47 : decode cX12_draws 47 = .ok (.getfield 160, 3) := by decide +kernel
theorem dX12_draws_50 : decode cX12_draws 50 = .ok (.if_icmp .eq 7, 3) := by decide +kernel
theorem dX12_draws_53 : decode cX12_draws 53 = .ok (.iconst 1, 1) := by decide +kernel
theorem dX12_draws_54 : decode cX12_draws 54 = .ok (.goto 4, 3) := by decide +kernel
theorem dX12_draws_57 : decode cX12_draws 57 = .ok (.iconst 0, 1) := by decide +kernel
theorem dX12_draws_58 : decode cX12_draws 58 = .ok (.istore 7, 2) := by decide +kernel
theorem dX12_draws_60 : decode cX12_draws 60 = .ok (.iload 7, 2) := by decide +kernel
theorem dX12_draws_62 : decode cX12_draws 62 = .ok (.ifCond .eq 13, 3) := by decide +kernel
theorem dX12_draws_65 : decode cX12_draws 65 = .ok (.aload_n 0, 1) := by decide +kernel
theorem dX12_draws_66 : decode cX12_draws 66 = .ok (.getfield 50, 3) := by decide +kernel
theorem dX12_draws_69 : decode cX12_draws 69 = .ok (.iload 6, 2) := by decide +kernel
theorem dX12_draws_71 : decode cX12_draws 71 = .ok (.iaload, 1) := by decide +kernel
theorem dX12_draws_72 : decode cX12_draws 72 = .ok (.goto 10, 3) := by decide +kernel
theorem dX12_draws_75 : decode cX12_draws 75 = .ok (.aload_n 0, 1) := by decide +kernel
theorem dX12_draws_76 : decode cX12_draws 76 = .ok (.getfield 53, 3) := by decide +kernel
theorem dX12_draws_79 : decode cX12_draws 79 = .ok (.iload 6, 2) := by decide +kernel
theorem dX12_draws_81 : decode cX12_draws 81 = .ok (.iaload, 1) := by decide +kernel
theorem dX12_draws_82 : decode cX12_draws 82 = .ok (.istore 8, 2) := by decide +kernel
theorem dX12_draws_84 : decode cX12_draws 84 = .ok (.iload 8, 2) := by decide +kernel
theorem dX12_draws_86 : decode cX12_draws 86 = .ok (.iload 4, 2) := by decide +kernel
theorem dX12_draws_88 : decode cX12_draws 88 = .ok (.ishr, 1) := by decide +kernel
theorem dX12_draws_89 : decode cX12_draws 89 = .ok (.iconst 1, 1) := by decide +kernel
theorem dX12_draws_90 : decode cX12_draws 90 = .ok (.iand, 1) := by decide +kernel
theorem dX12_draws_91 : decode cX12_draws 91 = .ok (.ifCond .ne 62, 3) := by decide +kernel
theorem dX12_draws_94 : decode cX12_draws 94 = .ok (.aload_n 0, 1) := by decide +kernel
theorem dX12_draws_95 : decode cX12_draws 95 = .ok (.getfield 50, 3) := by decide +kernel
theorem dX12_draws_98 : decode cX12_draws 98 = .ok (.iload 6, 2) := by decide +kernel
theorem dX12_draws_100 : decode cX12_draws 100 = .ok (.dup2, 1) := by decide +kernel
theorem dX12_draws_101 : decode cX12_draws 101 = .ok (.iaload, 1) := by decide +kernel
theorem dX12_draws_102 : decode cX12_draws 102 = .ok (.iload 7, 2) := by decide +kernel
theorem dX12_draws_104 : decode cX12_draws 104 = .ok (.ifCond .eq 10, 3) := by decide +kernel
theorem dX12_draws_107 : decode cX12_draws 107 = .ok (.iconst 1, 1) := by decide +kernel
theorem dX12_draws_108 : decode cX12_draws 108 = .ok (.iload 4, 2) := by decide +kernel
theorem dX12_draws_110 : decode cX12_draws 110 = .ok (.ishl, 1) := by decide +kernel
theorem dX12_draws_111 : decode cX12_draws 111 = .ok (.goto 4, 3) := by decide +kernel
theorem dX12_draws_114 : decode cX12_draws 114 = .ok (.iconst 0, 1) := by decide +kernel
theorem dX12_draws_115 : decode cX12_draws 115 = .ok (.ior, 1) := by decide +kernel
theorem dX12_draws_116 : decode cX12_draws 116 = .ok (.iastore, 1) := by decide +kernel
theorem dX12_draws_117 : decode cX12_draws 117 = .ok (.aload_n 0, 1) := by decide +kernel
theorem dX12_draws_118 : decode cX12_draws 118 = .ok (.getfield 53, 3) := by decide +kernel
theorem dX12_draws_121 : decode cX12_draws 121 = .ok (.iload 6, 2) := by decide +kernel
theorem dX12_draws_123 : decode cX12_draws 123 = .ok (.dup2, 1) := by decide +kernel
theorem dX12_draws_124 : decode cX12_draws 124 = .ok (.iaload, 1) := by decide +kernel
theorem dX12_draws_125 : decode cX12_draws 125 = .ok (.iload 7, 2) := by decide +kernel
theorem dX12_draws_127 : decode cX12_draws 127 = .ok (.ifCond .eq 7, 3) := by decide +kernel
theorem dX12_draws_130 : decode cX12_draws 130 = .ok (.iconst 0, 1) := by decide +kernel
theorem dX12_draws_131 : decode cX12_draws 131 = .ok (.goto 7, 3) := by decide +kernel
theorem dX12_draws_134 : decode cX12_draws 134 = .ok (.iconst 1, 1) := by decide +kernel
theorem dX12_draws_135 : decode cX12_draws 135 = .ok (.iload 4, 2) := by decide +kernel
theorem dX12_draws_137 : decode cX12_draws 137 = .ok (.ishl, 1) := by decide +kernel
theorem dX12_draws_138 : decode cX12_draws 138 = .ok (.ior, 1) := by decide +kernel
theorem dX12_draws_139 : decode cX12_draws 139 = .ok (.iastore, 1) := by decide +kernel
theorem dX12_draws_140 : decode cX12_draws 140 = .ok (.aload_n 0, 1) := by decide +kernel
theorem dX12_draws_141 : decode cX12_draws 141 = .ok (.getfield 65, 3) := by decide +kernel
theorem dX12_draws_144 : decode cX12_draws 144 = .ok (.aload_n 0, 1) := by decide +kernel
theorem dX12_draws_145 : decode cX12_draws 145 = .ok (.getfield 157, 3) := by decide +kernel
theorem dX12_draws_148 : decode cX12_draws 148 = .ok (.dup2, 1) := by decide +kernel
theorem dX12_draws_149 : decode cX12_draws 149 = .ok (.iaload, 1) := by decide +kernel
theorem dX12_draws_150 : decode cX12_draws 150 = .ok (.iconst 1, 1) := by decide +kernel
theorem dX12_draws_151 : decode cX12_draws 151 = .ok (.iadd, 1) := by decide +kernel
theorem dX12_draws_152 : decode cX12_draws 152 = .ok (.iastore, 1) := by decide +kernel
theorem dX12_draws_153 : decode cX12_draws 153 = .ok (.return_, 1) := by decide +kernel
theorem dX12_goes_0 : decode cX12_goes 0 = .ok (.aload_n 0, 1) := by decide +kernel
theorem dX12_goes_1 : decode cX12_goes 1 = .ok (.getfield 160, 3) := by decide +kernel
theorem dX12_goes_4 : decode cX12_goes 4 = .ok (.aload_n 0, 1) := by decide +kernel
theorem dX12_goes_5 : decode cX12_goes 5 = .ok (.getfield 166, 3) := by decide +kernel
theorem dX12_goes_8 : decode cX12_goes 8 = .ok (.iconst 1, 1) := by decide +kernel
theorem dX12_goes_9 : decode cX12_goes 9 = .ok (.if_icmp .ne 7, 3) := by decide +kernel
theorem dX12_goes_12 : decode cX12_goes 12 = .ok (.iconst 1, 1) := by decide +kernel
theorem dX12_goes_13 : decode cX12_goes 13 = .ok (.goto 16, 3) := by decide +kernel
theorem dX12_goes_16 : decode cX12_goes 16 = .ok (.aload_n 0, 1) := by decide +kernel
theorem dX12_goes_17 : decode cX12_goes 17 = .ok (.getfield 166, 3) := by decide +kernel
theorem dX12_goes_20 : decode cX12_goes 20 = .ok (.iconst 3, 1) := by decide +kernel
theorem dX12_goes_21 : decode cX12_goes 21 = .ok (.if_icmp .ne 7, 3) := by decide +kernel
theorem dX12_goes_24 : decode cX12_goes 24 = .ok (.iconst (-1), 1) := by decide +kernel
theorem dX12_goes_25 : decode cX12_goes 25 = .ok (.goto 4, 3) := by decide +kernel
theorem dX12_goes_28 : decode cX12_goes 28 = .ok (.iconst 0, 1) := by decide +kernel
theorem dX12_goes_29 : decode cX12_goes 29 = .ok (.iadd, 1) := by decide +kernel
theorem dX12_goes_30 : decode cX12_goes 30 = .ok (.istore_n 2, 1) := by decide +kernel
theorem dX12_goes_31 : decode cX12_goes 31 = .ok (.aload_n 0, 1) := by decide +kernel
theorem dX12_goes_32 : decode cX12_goes 32 = .ok (.getfield 163, 3) := by decide +kernel
theorem dX12_goes_35 : decode cX12_goes 35 = .ok (.aload_n 0, 1) := by decide +kernel
theorem dX12_goes_36 : decode cX12_goes 36 = .ok (.getfield 166, 3) := by decide +kernel
theorem dX12_goes_39 : decode cX12_goes 39 = .ok (.ifCond .ne 7, 3) := by decide +kernel
theorem dX12_goes_42 : decode cX12_goes 42 = .ok (.iconst 1, 1) := by decide +kernel
theorem dX12_goes_43 : decode cX12_goes 43 = .ok (.goto 16, 3) := by decide +kernel
theorem dX12_goes_46 : decode cX12_goes 46 = .ok (.aload_n 0, 1) := by decide +kernel
theorem dX12_goes_47 : decode cX12_goes 47 = .ok (.getfield 166, 3) := by decide +kernel
theorem dX12_goes_50 : decode cX12_goes 50 = .ok (.iconst 2, 1) := by decide +kernel
theorem dX12_goes_51 : decode cX12_goes 51 = .ok (.if_icmp .ne 7, 3) := by decide +kernel
theorem dX12_goes_54 : decode cX12_goes 54 = .ok (.iconst (-1), 1) := by decide +kernel
theorem dX12_goes_55 : decode cX12_goes 55 = .ok (.goto 4, 3) := by decide +kernel
theorem dX12_goes_58 : decode cX12_goes 58 = .ok (.iconst 0, 1) := by decide +kernel
theorem dX12_goes_59 : decode cX12_goes 59 = .ok (.iadd, 1) := by decide +kernel
theorem dX12_goes_60 : decode cX12_goes 60 = .ok (.istore_n 3, 1) := by decide +kernel
theorem dX12_goes_61 : decode cX12_goes 61 = .ok (.aload_n 0, 1) := by decide +kernel
theorem dX12_goes_62 : decode cX12_goes 62 = .ok (.getfield 157, 3) := by decide +kernel
theorem dX12_goes_65 : decode cX12_goes 65 = .ok (.sipush 600, 3) := by decide +kernel
theorem dX12_goes_68 : decode cX12_goes 68 = .ok (.if_icmp .ge 19, 3) := by decide +kernel
theorem dX12_goes_71 : decode cX12_goes 71 = .ok (.iload_n 2, 1) := by decide +kernel
theorem dX12_goes_72 : decode cX12_goes 72 = .ok (.iload_n 3, 1) := by decide +kernel
theorem dX12_goes_73 : decode cX12_goes 73 = .ok (.invokestatic 169, 3) := by decide +kernel
theorem dX12_goes_76 : decode cX12_goes 76 = .ok (.ifCond .ne 11, 3) := by decide +kernel
theorem dX12_goes_79 : decode cX12_goes 79 = .ok (.aload_n 0, 1) := by decide +kernel
theorem dX12_goes_80 : decode cX12_goes 80 = .ok (.iconst 2, 1) := by decide +kernel
theorem dX12_goes_81 : decode cX12_goes 81 = .ok (.putfield 154, 3) := by decide +kernel
theorem dX12_goes_84 : decode cX12_goes 84 = .ok (.goto 34, 3) := by decide +kernel
theorem dX12_goes_87 : decode cX12_goes 87 = .ok (.aload_n 0, 1) := by decide +kernel
theorem dX12_goes_88 : decode cX12_goes 88 = .ok (.invokevirtual 173, 3) := by decide +kernel
theorem dX12_goes_91 : decode cX12_goes 91 = .ok (.ifCond .eq 27, 3) := by decide +kernel
theorem dX12_goes_94 : decode cX12_goes 94 = .ok (.aload_n 0, 1) := by decide +kernel
theorem dX12_goes_95 : decode cX12_goes 95 = .ok (.getfield 177, 3) := by decide +kernel
theorem dX12_goes_98 : decode cX12_goes 98 = .ok (.ifCond .eq 10, 3) := by decide +kernel
theorem dX12_goes_101 : decode cX12_goes 101 = .ok (.aload_n 0, 1) := by decide +kernel
theorem dX12_goes_102 : decode cX12_goes 102 = .ok (.iload_n 1, 1) := by decide +kernel
theorem dX12_goes_103 : decode cX12_goes 103 = .ok (.iload_n 2, 1) := by decide +kernel
theorem dX12_goes_104 : decode cX12_goes 104 = .ok (.iload_n 3, 1) := by decide +kernel
theorem dX12_goes_105 : decode cX12_goes 105 = .ok (.invokevirtual 181, 3) := by decide +kernel
theorem dX12_goes_108 : decode cX12_goes 108 = .ok (.aload_n 0, 1) := by decide +kernel
theorem dX12_goes_109 : decode cX12_goes 109 = .ok (.iload_n 2, 1) := by decide +kernel
theorem dX12_goes_110 : decode cX12_goes 110 = .ok (.putfield 160, 3) := by decide +kernel
theorem dX12_goes_113 : decode cX12_goes 113 = .ok (.aload_n 0, 1) := by decide +kernel
theorem dX12_goes_114 : decode cX12_goes 114 = .ok (.iload_n 3, 1) := by decide +kernel
theorem dX12_goes_115 : decode cX12_goes 115 = .ok (.putfield 163, 3) := by decide +kernel
theorem dX12_goes_118 : decode cX12_goes 118 = .ok (.return_, 1) := by decide +kernel
theorem dX12_endOf_0 : decode cX12_endOf 0 = .ok (.iload_n 2, 1) := by decide +kernel
theorem dX12_endOf_1 : decode cX12_endOf 1 = .ok (.istore_n 3, 1) := by decide +kernel
theorem dX12_endOf_2 : decode cX12_endOf 2 = .ok (.iconst 1, 1) := by decide +kernel
theorem dX12_endOf_3 : decode cX12_endOf 3 = .ok (.istore 4, 2) := by decide +kernel
theorem dX12_endOf_5 : decode cX12_endOf 5 = .ok (.iload 4, 2) := by decide +kernel
theorem dX12_endOf_7 : decode cX12_endOf 7 = .ok (.ifCond .le 56, 3) := by decide +kernel
theorem dX12_endOf_10 : decode cX12_endOf 10 = .ok (.iinc 3 1, 3) := by decide +kernel
theorem dX12_endOf_13 : decode cX12_endOf 13 = .ok (.aload_n 0, 1) := by decide +kernel
theorem dX12_endOf_14 : decode cX12_endOf 14 = .ok (.getfield 29, 3) := by decide +kernel
theorem dX12_endOf_17 : decode cX12_endOf 17 = .ok (.bipush 30, 2) := by decide +kernel
theorem dX12_endOf_19 : decode cX12_endOf 19 = .ok (.iload_n 1, 1) := by decide +kernel
theorem dX12_endOf_20 : decode cX12_endOf 20 = .ok (.imul, 1) := by decide +kernel
theorem dX12_endOf_21 : decode cX12_endOf 21 = .ok (.iload_n 3, 1) := by decide +kernel
theorem dX12_endOf_22 : decode cX12_endOf 22 = .ok (.iadd, 1) := by decide +kernel
theorem dX12_endOf_23 : decode cX12_endOf 23 = .ok (.iaload, 1) := by decide +kernel
theorem dX12_endOf_24 : decode cX12_endOf 24 = .ok (.istore 5, 2) := by decide +kernel
theorem dX12_endOf_26 : decode cX12_endOf 26 = .ok (.iload 4, 2) := by decide +kernel
theorem dX12_endOf_28 : decode cX12_endOf 28 = .ok (.iload 5, 2) := by decide +kernel
theorem dX12_endOf_30 : decode cX12_endOf 30 = .ok (.iconst 5, 1) := by decide +kernel
theorem dX12_endOf_31 : decode cX12_endOf 31 = .ok (.if_icmp .eq 10, 3) := by decide +kernel
theorem dX12_endOf_34 : decode cX12_endOf 34 = .ok (.iload 5, 2) := by decide +kernel
theorem dX12_endOf_36 : decode cX12_endOf 36 = .ok (.bipush 6, 2) := by decide +kernel
theorem dX12_endOf_38 : decode cX12_endOf 38 = .ok (.if_icmp .ne 7, 3) := by decide +kernel
theorem dX12_endOf_41 : decode cX12_endOf 41 = .ok (.iconst 1, 1) := by decide +kernel
theorem dX12_endOf_42 : decode cX12_endOf 42 = .ok (.goto 15, 3) := by decide +kernel
theorem dX12_endOf_45 : decode cX12_endOf 45 = .ok (.iload 5, 2) := by decide +kernel
theorem dX12_endOf_47 : decode cX12_endOf 47 = .ok (.bipush 8, 2) := by decide +kernel
theorem dX12_endOf_49 : decode cX12_endOf 49 = .ok (.if_icmp .ne 7, 3) := by decide +kernel
theorem dX12_endOf_52 : decode cX12_endOf 52 = .ok (.iconst (-1), 1) := by decide +kernel
theorem dX12_endOf_53 : decode cX12_endOf 53 = .ok (.goto 4, 3) := by decide +kernel
theorem dX12_endOf_56 : decode cX12_endOf 56 = .ok (.iconst 0, 1) := by decide +kernel
theorem dX12_endOf_57 : decode cX12_endOf 57 = .ok (.iadd, 1) := by decide +kernel
theorem dX12_endOf_58 : decode cX12_endOf 58 = .ok (.istore 4, 2) := by decide +kernel
theorem dX12_endOf_60 : decode cX12_endOf 60 = .ok (.goto (-55), 3) := by decide +kernel
theorem dX12_endOf_63 : decode cX12_endOf 63 = .ok (.iload_n 3, 1) := by decide +kernel
theorem dX12_endOf_64 : decode cX12_endOf 64 = .ok (.ireturn, 1) := by decide +kernel
theorem dX12_blockOf_0 : decode cX12_blockOf 0 = .ok (.iconst (-1), 1) := by decide +kernel
theorem dX12_blockOf_1 : decode cX12_blockOf 1 = .ok (.istore_n 3, 1) := by decide +kernel
theorem dX12_blockOf_2 : decode cX12_blockOf 2 = .ok (.iconst 0, 1) := by decide +kernel
theorem dX12_blockOf_3 : decode cX12_blockOf 3 = .ok (.istore 4, 2) := by decide +kernel
theorem dX12_blockOf_5 : decode cX12_blockOf 5 = .ok (.iload 4, 2) := by decide +kernel
theorem dX12_blockOf_7 : decode cX12_blockOf 7 = .ok (.aload_n 0, 1) := by decide +kernel
theorem dX12_blockOf_8 : decode cX12_blockOf 8 = .ok (.getfield 26, 3) := by decide +kernel
theorem dX12_blockOf_11 : decode cX12_blockOf 11 = .ok (.iload_n 1, 1) := by decide +kernel
theorem dX12_blockOf_12 : decode cX12_blockOf 12 = .ok (.iaload, 1) := by decide +kernel
theorem dX12_blockOf_13 : decode cX12_blockOf 13 = .ok (.if_icmp .ge 49, 3) := by decide +kernel
theorem dX12_blockOf_16 : decode cX12_blockOf 16 = .ok (.aload_n 0, 1) := by decide +kernel
theorem dX12_blockOf_17 : decode cX12_blockOf 17 = .ok (.getfield 29, 3) := by decide +kernel
theorem dX12_blockOf_20 : decode cX12_blockOf 20 = .ok (.bipush 30, 2) := by decide +kernel
theorem dX12_blockOf_22 : decode cX12_blockOf 22 = .ok (.iload_n 1, 1) := by decide +kernel
theorem dX12_blockOf_23 : decode cX12_blockOf 23 = .ok (.imul, 1) := by decide +kernel
theorem dX12_blockOf_24 : decode cX12_blockOf 24 = .ok (.iload 4, 2) := by decide +kernel
theorem dX12_blockOf_26 : decode cX12_blockOf 26 = .ok (.iadd, 1) := by decide +kernel
theorem dX12_blockOf_27 : decode cX12_blockOf 27 = .ok (.iaload, 1) := by decide +kernel
theorem dX12_blockOf_28 : decode cX12_blockOf 28 = .ok (.bipush 6, 2) := by decide +kernel
theorem dX12_blockOf_30 : decode cX12_blockOf 30 = .ok (.if_icmp .ne 24, 3) := by decide +kernel
theorem dX12_blockOf_33 : decode cX12_blockOf 33 = .ok (.aload_n 0, 1) := by decide +kernel
theorem dX12_blockOf_34 : decode cX12_blockOf 34 = .ok (.getfield 32, 3) := by decide +kernel
theorem dX12_blockOf_37 : decode cX12_blockOf 37 = .ok (.bipush 30, 2) := by decide +kernel
theorem dX12_blockOf_39 : decode cX12_blockOf 39 = .ok (.iload_n 1, 1) := by decide +kernel
theorem dX12_blockOf_40 : decode cX12_blockOf 40 = .ok (.imul, 1) := by decide +kernel
theorem dX12_blockOf_41 : decode cX12_blockOf 41 = .ok (.iload 4, 2) := by decide +kernel
theorem dX12_blockOf_43 : decode cX12_blockOf 43 = .ok (.iadd, 1) := by decide +kernel
theorem dX12_blockOf_44 : decode cX12_blockOf 44 = .ok (.iaload, 1) := by decide +kernel
theorem dX12_blockOf_45 : decode cX12_blockOf 45 = .ok (.iload_n 2, 1) := by decide +kernel
theorem dX12_blockOf_46 : decode cX12_blockOf 46 = .ok (.if_icmp .ne 8, 3) := by decide +kernel
theorem dX12_blockOf_49 : decode cX12_blockOf 49 = .ok (.iload 4, 2) := by decide +kernel
theorem dX12_blockOf_51 : decode cX12_blockOf 51 = .ok (.goto 4, 3) := by decide +kernel
theorem dX12_blockOf_54 : decode cX12_blockOf 54 = .ok (.iload_n 3, 1) := by decide +kernel
theorem dX12_blockOf_55 : decode cX12_blockOf 55 = .ok (.istore_n 3, 1) := by decide +kernel
theorem dX12_blockOf_56 : decode cX12_blockOf 56 = .ok (.iinc 4 1, 3) := by decide +kernel
theorem dX12_blockOf_59 : decode cX12_blockOf 59 = .ok (.goto (-54), 3) := by decide +kernel
theorem dX12_blockOf_62 : decode cX12_blockOf 62 = .ok (.iload_n 3, 1) := by decide +kernel
theorem dX12_blockOf_63 : decode cX12_blockOf 63 = .ok (.ireturn, 1) := by decide +kernel
theorem dX12_enters_0 : decode cX12_enters 0 = .ok (.aload_n 0, 1) := by decide +kernel
theorem dX12_enters_1 : decode cX12_enters 1 = .ok (.getfield 59, 3) := by decide +kernel
theorem dX12_enters_4 : decode cX12_enters 4 = .ok (.aload_n 0, 1) := by decide +kernel
theorem dX12_enters_5 : decode cX12_enters 5 = .ok (.getfield 185, 3) := by decide +kernel
theorem dX12_enters_8 : decode cX12_enters 8 = .ok (.iload_n 1, 1) := by decide +kernel
theorem dX12_enters_9 : decode cX12_enters 9 = .ok (.iastore, 1) := by decide +kernel
theorem dX12_enters_10 : decode cX12_enters 10 = .ok (.aload_n 0, 1) := by decide +kernel
theorem dX12_enters_11 : decode cX12_enters 11 = .ok (.getfield 62, 3) := by decide +kernel
theorem dX12_enters_14 : decode cX12_enters 14 = .ok (.aload_n 0, 1) := by decide +kernel
theorem dX12_enters_15 : decode cX12_enters 15 = .ok (.getfield 185, 3) := by decide +kernel
theorem dX12_enters_18 : decode cX12_enters 18 = .ok (.iload_n 2, 1) := by decide +kernel
theorem dX12_enters_19 : decode cX12_enters 19 = .ok (.iastore, 1) := by decide +kernel
theorem dX12_enters_20 : decode cX12_enters 20 = .ok (.aload_n 0, 1) := by decide +kernel
theorem dX12_enters_21 : decode cX12_enters 21 = .ok (.dup, 1) := by decide +kernel
theorem dX12_enters_22 : decode cX12_enters 22 = .ok (.getfield 185, 3) := by decide +kernel
theorem dX12_enters_25 : decode cX12_enters 25 = .ok (.iconst 1, 1) := by decide +kernel
theorem dX12_enters_26 : decode cX12_enters 26 = .ok (.iadd, 1) := by decide +kernel
theorem dX12_enters_27 : decode cX12_enters 27 = .ok (.putfield 185, 3) := by decide +kernel
theorem dX12_enters_30 : decode cX12_enters 30 = .ok (.return_, 1) := by decide +kernel
theorem dX12_callsWord_0 : decode cX12_callsWord 0 = .ok (.aload_n 0, 1) := by decide +kernel
theorem dX12_callsWord_1 : decode cX12_callsWord 1 = .ok (.iload_n 1, 1) := by decide +kernel
theorem dX12_callsWord_2 : decode cX12_callsWord 2 = .ok (.iload_n 2, 1) := by decide +kernel
theorem dX12_callsWord_3 : decode cX12_callsWord 3 = .ok (.invokevirtual 188, 3) := by decide +kernel
theorem dX12_callsWord_6 : decode cX12_callsWord 6 = .ok (.istore_n 3, 1) := by decide +kernel
theorem dX12_callsWord_7 : decode cX12_callsWord 7 = .ok (.aload_n 0, 1) := by decide +kernel
theorem dX12_callsWord_8 : decode cX12_callsWord 8 = .ok (.iload_n 3, 1) := by decide +kernel
theorem dX12_callsWord_9 : decode cX12_callsWord 9 = .ok (.iconst (-1), 1) := by decide +kernel
theorem dX12_callsWord_10 : decode cX12_callsWord 10 = .ok (.if_icmp .ne 7, 3) := by decide +kernel
theorem dX12_callsWord_13 : decode cX12_callsWord 13 = .ok (.iconst 5, 1) := by decide +kernel
theorem dX12_callsWord_14 : decode cX12_callsWord 14 = .ok (.goto 17, 3) := by decide +kernel
theorem dX12_callsWord_17 : decode cX12_callsWord 17 = .ok (.aload_n 0, 1) := by decide +kernel
theorem dX12_callsWord_18 : decode cX12_callsWord 18 = .ok (.getfield 192, 3) := by decide +kernel
theorem dX12_callsWord_21 : decode cX12_callsWord 21 = .ok (.bipush 8, 2) := by decide +kernel
theorem dX12_callsWord_23 : decode cX12_callsWord 23 = .ok (.if_icmp .ne 7, 3) := by decide +kernel
theorem dX12_callsWord_26 : decode cX12_callsWord 26 = .ok (.iconst 4, 1) := by decide +kernel
theorem dX12_callsWord_27 : decode cX12_callsWord 27 = .ok (.goto 4, 3) := by decide +kernel
theorem dX12_callsWord_30 : decode cX12_callsWord 30 = .ok (.iconst 0, 1) := by decide +kernel
theorem dX12_callsWord_31 : decode cX12_callsWord 31 = .ok (.putfield 154, 3) := by decide +kernel
theorem dX12_callsWord_34 : decode cX12_callsWord 34 = .ok (.aload_n 0, 1) := by decide +kernel
theorem dX12_callsWord_35 : decode cX12_callsWord 35 = .ok (.getfield 154, 3) := by decide +kernel
theorem dX12_callsWord_38 : decode cX12_callsWord 38 = .ok (.ifCond .ne 27, 3) := by decide +kernel
theorem dX12_callsWord_41 : decode cX12_callsWord 41 = .ok (.aload_n 0, 1) := by decide +kernel
theorem dX12_callsWord_42 : decode cX12_callsWord 42 = .ok (.dup, 1) := by decide +kernel
theorem dX12_callsWord_43 : decode cX12_callsWord 43 = .ok (.getfield 192, 3) := by decide +kernel
theorem dX12_callsWord_46 : decode cX12_callsWord 46 = .ok (.iconst 1, 1) := by decide +kernel
theorem dX12_callsWord_47 : decode cX12_callsWord 47 = .ok (.iadd, 1) := by decide +kernel
theorem dX12_callsWord_48 : decode cX12_callsWord 48 = .ok (.putfield 192, 3) := by decide +kernel
theorem dX12_callsWord_51 : decode cX12_callsWord 51 = .ok (.aload_n 0, 1) := by decide +kernel
theorem dX12_callsWord_52 : decode cX12_callsWord 52 = .ok (.aload_n 0, 1) := by decide +kernel
theorem dX12_callsWord_53 : decode cX12_callsWord 53 = .ok (.getfield 195, 3) := by decide +kernel
theorem dX12_callsWord_56 : decode cX12_callsWord 56 = .ok (.iconst (-1), 1) := by decide +kernel
theorem dX12_callsWord_57 : decode cX12_callsWord 57 = .ok (.invokevirtual 198, 3) := by decide +kernel
theorem dX12_callsWord_60 : decode cX12_callsWord 60 = .ok (.aload_n 0, 1) := by decide +kernel
theorem dX12_callsWord_61 : decode cX12_callsWord 61 = .ok (.iload_n 3, 1) := by decide +kernel
theorem dX12_callsWord_62 : decode cX12_callsWord 62 = .ok (.putfield 195, 3) := by decide +kernel
theorem dX12_callsWord_65 : decode cX12_callsWord 65 = .ok (.return_, 1) := by decide +kernel
theorem dX12_ends_0 : decode cX12_ends 0 = .ok (.aload_n 0, 1) := by decide +kernel
theorem dX12_ends_1 : decode cX12_ends 1 = .ok (.getfield 62, 3) := by decide +kernel
theorem dX12_ends_4 : decode cX12_ends 4 = .ok (.aload_n 0, 1) := by decide +kernel
theorem dX12_ends_5 : decode cX12_ends 5 = .ok (.getfield 185, 3) := by decide +kernel
theorem dX12_ends_8 : decode cX12_ends 8 = .ok (.iconst 1, 1) := by decide +kernel
theorem dX12_ends_9 : decode cX12_ends 9 = .ok (.isub, 1) := by decide +kernel
theorem dX12_ends_10 : decode cX12_ends 10 = .ok (.dup2, 1) := by decide +kernel
theorem dX12_ends_11 : decode cX12_ends 11 = .ok (.iaload, 1) := by decide +kernel
theorem dX12_ends_12 : decode cX12_ends 12 = .ok (.aload_n 0, 1) := by decide +kernel
theorem dX12_ends_13 : decode cX12_ends 13 = .ok (.getfield 62, 3) := by decide +kernel
theorem dX12_ends_16 : decode cX12_ends 16 = .ok (.aload_n 0, 1) := by decide +kernel
theorem dX12_ends_17 : decode cX12_ends 17 = .ok (.getfield 185, 3) := by decide +kernel
theorem dX12_ends_20 : decode cX12_ends 20 = .ok (.iconst 1, 1) := by decide +kernel
theorem dX12_ends_21 : decode cX12_ends 21 = .ok (.isub, 1) := by decide +kernel
theorem dX12_ends_22 : decode cX12_ends 22 = .ok (.iaload, 1) := by decide +kernel
theorem dX12_ends_23 : decode cX12_ends 23 = .ok (.iconst (-1), 1) := by decide +kernel
theorem dX12_ends_24 : decode cX12_ends 24 = .ok (.if_icmp .ne 7, 3) := by decide +kernel
theorem dX12_ends_27 : decode cX12_ends 27 = .ok (.iconst 0, 1) := by decide +kernel
theorem dX12_ends_28 : decode cX12_ends 28 = .ok (.goto 4, 3) := by decide +kernel
theorem dX12_ends_31 : decode cX12_ends 31 = .ok (.iconst 1, 1) := by decide +kernel
theorem dX12_ends_32 : decode cX12_ends 32 = .ok (.isub, 1) := by decide +kernel
theorem dX12_ends_33 : decode cX12_ends 33 = .ok (.iastore, 1) := by decide +kernel
theorem dX12_ends_34 : decode cX12_ends 34 = .ok (.aload_n 0, 1) := by decide +kernel
theorem dX12_ends_35 : decode cX12_ends 35 = .ok (.getfield 62, 3) := by decide +kernel
theorem dX12_ends_38 : decode cX12_ends 38 = .ok (.aload_n 0, 1) := by decide +kernel
theorem dX12_ends_39 : decode cX12_ends 39 = .ok (.getfield 185, 3) := by decide +kernel
theorem dX12_ends_42 : decode cX12_ends 42 = .ok (.iconst 1, 1) := by decide +kernel
theorem dX12_ends_43 : decode cX12_ends 43 = .ok (.isub, 1) := by decide +kernel
theorem dX12_ends_44 : decode cX12_ends 44 = .ok (.iaload, 1) := by decide +kernel
theorem dX12_ends_45 : decode cX12_ends 45 = .ok (.ifCond .le 21, 3) := by decide +kernel
theorem dX12_ends_48 : decode cX12_ends 48 = .ok (.aload_n 0, 1) := by decide +kernel
theorem dX12_ends_49 : decode cX12_ends 49 = .ok (.aload_n 0, 1) := by decide +kernel
theorem dX12_ends_50 : decode cX12_ends 50 = .ok (.getfield 59, 3) := by decide +kernel
theorem dX12_ends_53 : decode cX12_ends 53 = .ok (.aload_n 0, 1) := by decide +kernel
theorem dX12_ends_54 : decode cX12_ends 54 = .ok (.getfield 185, 3) := by decide +kernel
theorem dX12_ends_57 : decode cX12_ends 57 = .ok (.iconst 1, 1) := by decide +kernel
theorem dX12_ends_58 : decode cX12_ends 58 = .ok (.isub, 1) := by decide +kernel
theorem dX12_ends_59 : decode cX12_ends 59 = .ok (.iaload, 1) := by decide +kernel
theorem dX12_ends_60 : decode cX12_ends 60 = .ok (.putfield 195, 3) := by decide +kernel
theorem dX12_ends_63 : decode cX12_ends 63 = .ok (.goto 73, 3) := by decide +kernel
theorem dX12_ends_66 : decode cX12_ends 66 = .ok (.aload_n 0, 1) := by decide +kernel
theorem dX12_ends_67 : decode cX12_ends 67 = .ok (.dup, 1) := by decide +kernel
theorem dX12_ends_68 : decode cX12_ends 68 = .ok (.getfield 185, 3) := by decide +kernel
theorem dX12_ends_71 : decode cX12_ends 71 = .ok (.iconst 1, 1) := by decide +kernel
theorem dX12_ends_72 : decode cX12_ends 72 = .ok (.isub, 1) := by decide +kernel
theorem dX12_ends_73 : decode cX12_ends 73 = .ok (.putfield 185, 3) := by decide +kernel
theorem dX12_ends_76 : decode cX12_ends 76 = .ok (.aload_n 0, 1) := by decide +kernel
theorem dX12_ends_77 : decode cX12_ends 77 = .ok (.dup, 1) := by decide +kernel
theorem dX12_ends_78 : decode cX12_ends 78 = .ok (.getfield 192, 3) := by decide +kernel
theorem dX12_ends_81 : decode cX12_ends 81 = .ok (.aload_n 0, 1) := by decide +kernel
theorem dX12_ends_82 : decode cX12_ends 82 = .ok (.getfield 62, 3) := by decide +kernel
theorem dX12_ends_85 : decode cX12_ends 85 = .ok (.aload_n 0, 1) := by decide +kernel
theorem dX12_ends_86 : decode cX12_ends 86 = .ok (.getfield 185, 3) := by decide +kernel
theorem dX12_ends_89 : decode cX12_ends 89 = .ok (.iaload, 1) := by decide +kernel
theorem dX12_ends_90 : decode cX12_ends 90 = .ok (.iconst (-1), 1) := by decide +kernel
theorem dX12_ends_91 : decode cX12_ends 91 = .ok (.if_icmp .ne 7, 3) := by decide +kernel
theorem dX12_ends_94 : decode cX12_ends 94 = .ok (.iconst 1, 1) := by decide +kernel
theorem dX12_ends_95 : decode cX12_ends 95 = .ok (.goto 4, 3) := by decide +kernel
theorem dX12_ends_98 : decode cX12_ends 98 = .ok (.iconst 0, 1) := by decide +kernel
theorem dX12_ends_99 : decode cX12_ends 99 = .ok (.isub, 1) := by decide +kernel
theorem dX12_ends_100 : decode cX12_ends 100 = .ok (.putfield 192, 3) := by decide +kernel
theorem dX12_ends_103 : decode cX12_ends 103 = .ok (.aload_n 0, 1) := by decide +kernel
theorem dX12_ends_104 : decode cX12_ends 104 = .ok (.aload_n 0, 1) := by decide +kernel
theorem dX12_ends_105 : decode cX12_ends 105 = .ok (.getfield 62, 3) := by decide +kernel
theorem dX12_ends_108 : decode cX12_ends 108 = .ok (.aload_n 0, 1) := by decide +kernel
theorem dX12_ends_109 : decode cX12_ends 109 = .ok (.getfield 185, 3) := by decide +kernel
theorem dX12_ends_112 : decode cX12_ends 112 = .ok (.iaload, 1) := by decide +kernel
theorem dX12_ends_113 : decode cX12_ends 113 = .ok (.iconst (-1), 1) := by decide +kernel
theorem dX12_ends_114 : decode cX12_ends 114 = .ok (.if_icmp .ne 15, 3) := by decide +kernel
theorem dX12_ends_117 : decode cX12_ends 117 = .ok (.aload_n 0, 1) := by decide +kernel
theorem dX12_ends_118 : decode cX12_ends 118 = .ok (.getfield 59, 3) := by decide +kernel
theorem dX12_ends_121 : decode cX12_ends 121 = .ok (.aload_n 0, 1) := by decide +kernel
theorem dX12_ends_122 : decode cX12_ends 122 = .ok (.getfield 185, 3) := by decide +kernel
theorem dX12_ends_125 : decode cX12_ends 125 = .ok (.iaload, 1) := by decide +kernel
theorem dX12_ends_126 : decode cX12_ends 126 = .ok (.goto 7, 3) := by decide +kernel
theorem dX12_ends_129 : decode cX12_ends 129 = .ok (.aload_n 0, 1) := by decide +kernel
theorem dX12_ends_130 : decode cX12_ends 130 = .ok (.getfield 195, 3) := by decide +kernel
theorem dX12_ends_133 : decode cX12_ends 133 = .ok (.putfield 195, 3) := by decide +kernel
theorem dX12_ends_136 : decode cX12_ends 136 = .ok (.return_, 1) := by decide +kernel
theorem dX12_does_0 : decode cX12_does 0 = .ok (.aload_n 0, 1) := by decide +kernel
theorem dX12_does_1 : decode cX12_does 1 = .ok (.getfield 38, 3) := by decide +kernel
theorem dX12_does_4 : decode cX12_does 4 = .ok (.iload_n 2, 1) := by decide +kernel
theorem dX12_does_5 : decode cX12_does 5 = .ok (.baload, 1) := by decide +kernel
theorem dX12_does_6 : decode cX12_does 6 = .ok (.ifCond .eq 17, 3) := by decide +kernel
theorem dX12_does_9 : decode cX12_does 9 = .ok (.aload_n 0, 1) := by decide +kernel
theorem dX12_does_10 : decode cX12_does 10 = .ok (.getfield 56, 3) := by decide +kernel
theorem dX12_does_13 : decode cX12_does 13 = .ok (.aload_n 0, 1) := by decide +kernel
theorem dX12_does_14 : decode cX12_does 14 = .ok (.getfield 35, 3) := by decide +kernel
theorem dX12_does_17 : decode cX12_does 17 = .ok (.iload_n 2, 1) := by decide +kernel
theorem dX12_does_18 : decode cX12_does 18 = .ok (.iaload, 1) := by decide +kernel
theorem dX12_does_19 : decode cX12_does 19 = .ok (.iaload, 1) := by decide +kernel
theorem dX12_does_20 : decode cX12_does 20 = .ok (.goto 9, 3) := by decide +kernel
theorem dX12_does_23 : decode cX12_does 23 = .ok (.aload_n 0, 1) := by decide +kernel
theorem dX12_does_24 : decode cX12_does 24 = .ok (.getfield 35, 3) := by decide +kernel
theorem dX12_does_27 : decode cX12_does 27 = .ok (.iload_n 2, 1) := by decide +kernel
theorem dX12_does_28 : decode cX12_does 28 = .ok (.iaload, 1) := by decide +kernel
theorem dX12_does_29 : decode cX12_does 29 = .ok (.istore_n 3, 1) := by decide +kernel
theorem dX12_does_30 : decode cX12_does 30 = .ok (.aload_n 0, 1) := by decide +kernel
theorem dX12_does_31 : decode cX12_does 31 = .ok (.getfield 29, 3) := by decide +kernel
theorem dX12_does_34 : decode cX12_does 34 = .ok (.iload_n 2, 1) := by decide +kernel
theorem dX12_does_35 : decode cX12_does 35 = .ok (.iaload, 1) := by decide +kernel
theorem dX12_does_36 : decode cX12_does 36 = .ok (.istore 4, 2) := by decide +kernel
theorem dX12_does_38 : decode cX12_does 38 = .ok (.iload 4, 2) := by decide +kernel
theorem dX12_does_40 : decode cX12_does 40 = .ok (.ifCond .ne 46, 3) := by decide +kernel
theorem dX12_does_43 : decode cX12_does 43 = .ok (.aload_n 0, 1) := by decide +kernel
theorem dX12_does_44 : decode cX12_does 44 = .ok (.iload_n 3, 1) := by decide +kernel
theorem dX12_does_45 : decode cX12_does 45 = .ok (.ifCond .ge 7, 3) := by decide +kernel
theorem dX12_does_48 : decode cX12_does 48 = .ok (.iconst 3, 1) := by decide +kernel
theorem dX12_does_49 : decode cX12_does 49 = .ok (.goto 4, 3) := by decide +kernel
theorem dX12_does_52 : decode cX12_does 52 = .ok (.iconst 0, 1) := by decide +kernel
theorem dX12_does_53 : decode cX12_does 53 = .ok (.putfield 154, 3) := by decide +kernel
theorem dX12_does_56 : decode cX12_does 56 = .ok (.iconst 0, 1) := by decide +kernel
theorem dX12_does_57 : decode cX12_does 57 = .ok (.istore 5, 2) := by decide +kernel
theorem dX12_does_59 : decode cX12_does 59 = .ok (.iload 5, 2) := by decide +kernel
theorem dX12_does_61 : decode cX12_does 61 = .ok (.iload_n 3, 1) := by decide +kernel
theorem dX12_does_62 : decode cX12_does 62 = .ok (.if_icmp .ge 21, 3) := by decide +kernel
theorem dX12_does_65 : decode cX12_does 65 = .ok (.aload_n 0, 1) := by decide +kernel
theorem dX12_does_66 : decode cX12_does 66 = .ok (.getfield 154, 3) := by decide +kernel
theorem dX12_does_69 : decode cX12_does 69 = .ok (.ifCond .ne 14, 3) := by decide +kernel
theorem dX12_does_72 : decode cX12_does 72 = .ok (.aload_n 0, 1) := by decide +kernel
theorem dX12_does_73 : decode cX12_does 73 = .ok (.iload_n 1, 1) := by decide +kernel
theorem dX12_does_74 : decode cX12_does 74 = .ok (.invokevirtual 202, 3) := by decide +kernel
theorem dX12_does_77 : decode cX12_does 77 = .ok (.iinc 5 1, 3) := by decide +kernel
theorem dX12_does_80 : decode cX12_does 80 = .ok (.goto (-21), 3) := by decide +kernel
theorem dX12_does_83 : decode cX12_does 83 = .ok (.goto 203, 3) := by decide +kernel
theorem dX12_does_86 : decode cX12_does 86 = .ok (.iload 4, 2) := by decide +kernel
theorem dX12_does_88 : decode cX12_does 88 = .ok (.iconst 1, 1) := by decide +kernel
theorem dX12_does_89 : decode cX12_does 89 = .ok (.if_icmp .ne 22, 3) := by decide +kernel
theorem dX12_does_92 : decode cX12_does 92 = .ok (.aload_n 0, 1) := by decide +kernel
theorem dX12_does_93 : decode cX12_does 93 = .ok (.aload_n 0, 1) := by decide +kernel
theorem dX12_does_94 : decode cX12_does 94 = .ok (.getfield 166, 3) := by decide +kernel
theorem dX12_does_97 : decode cX12_does 97 = .ok (.iload_n 3, 1) := by decide +kernel
theorem dX12_does_98 : decode cX12_does 98 = .ok (.iadd, 1) := by decide +kernel
theorem dX12_does_99 : decode cX12_does 99 = .ok (.iconst 4, 1) := by decide +kernel
theorem dX12_does_100 : decode cX12_does 100 = .ok (.irem, 1) := by decide +kernel
theorem dX12_does_101 : decode cX12_does 101 = .ok (.iconst 4, 1) := by decide +kernel
theorem dX12_does_102 : decode cX12_does 102 = .ok (.iadd, 1) := by decide +kernel
theorem dX12_does_103 : decode cX12_does 103 = .ok (.iconst 4, 1) := by decide +kernel
theorem dX12_does_104 : decode cX12_does 104 = .ok (.irem, 1) := by decide +kernel
theorem dX12_does_105 : decode cX12_does 105 = .ok (.putfield 166, 3) := by decide +kernel
theorem dX12_does_108 : decode cX12_does 108 = .ok (.goto 178, 3) := by decide +kernel
theorem dX12_does_111 : decode cX12_does 111 = .ok (.iload 4, 2) := by decide +kernel
theorem dX12_does_113 : decode cX12_does 113 = .ok (.iconst 2, 1) := by decide +kernel
theorem dX12_does_114 : decode cX12_does 114 = .ok (.if_icmp .ne 20, 3) := by decide +kernel
theorem dX12_does_117 : decode cX12_does 117 = .ok (.aload_n 0, 1) := by decide +kernel
theorem dX12_does_118 : decode cX12_does 118 = .ok (.iload_n 3, 1) := by decide +kernel
theorem dX12_does_119 : decode cX12_does 119 = .ok (.iconst 1, 1) := by decide +kernel
theorem dX12_does_120 : decode cX12_does 120 = .ok (.if_icmp .ne 7, 3) := by decide +kernel
theorem dX12_does_123 : decode cX12_does 123 = .ok (.iconst 1, 1) := by decide +kernel
theorem dX12_does_124 : decode cX12_does 124 = .ok (.goto 4, 3) := by decide +kernel
theorem dX12_does_127 : decode cX12_does 127 = .ok (.iconst 0, 1) := by decide +kernel
theorem dX12_does_128 : decode cX12_does 128 = .ok (.putfield 177, 3) := by decide +kernel
theorem dX12_does_131 : decode cX12_does 131 = .ok (.goto 155, 3) := by decide +kernel
theorem dX12_does_134 : decode cX12_does 134 = .ok (.iload 4, 2) := by decide +kernel
theorem dX12_does_136 : decode cX12_does 136 = .ok (.iconst 3, 1) := by decide +kernel
theorem dX12_does_137 : decode cX12_does 137 = .ok (.if_icmp .eq 9, 3) := by decide +kernel
theorem dX12_does_140 : decode cX12_does 140 = .ok (.iload 4, 2) := by decide +kernel
theorem dX12_does_142 : decode cX12_does 142 = .ok (.iconst 4, 1) := by decide +kernel
theorem dX12_does_143 : decode cX12_does 143 = .ok (.if_icmp .ne 88, 3) := by decide +kernel
theorem dX12_does_146 : decode cX12_does 146 = .ok (.iload 4, 2) := by decide +kernel
theorem dX12_does_148 : decode cX12_does 148 = .ok (.iconst 3, 1) := by decide +kernel
theorem dX12_does_149 : decode cX12_does 149 = .ok (.if_icmp .ne 7, 3) := by decide +kernel
theorem dX12_does_152 : decode cX12_does 152 = .ok (.iload_n 3, 1) := by decide +kernel
theorem dX12_does_153 : decode cX12_does 153 = .ok (.goto 16, 3) := by decide +kernel
theorem dX12_does_156 : decode cX12_does 156 = .ok (.aload_n 0, 1) := by decide +kernel
theorem dX12_does_157 : decode cX12_does 157 = .ok (.getfield 56, 3) := by decide +kernel
theorem dX12_does_160 : decode cX12_does 160 = .ok (.aload_n 0, 1) := by decide +kernel
theorem dX12_does_161 : decode cX12_does 161 = .ok (.getfield 32, 3) := by decide +kernel
theorem dX12_does_164 : decode cX12_does 164 = .ok (.iload_n 2, 1) := by decide +kernel
theorem dX12_does_165 : decode cX12_does 165 = .ok (.iaload, 1) := by decide +kernel
theorem dX12_does_166 : decode cX12_does 166 = .ok (.iaload, 1) := by decide +kernel
theorem dX12_does_167 : decode cX12_does 167 = .ok (.iload_n 3, 1) := by decide +kernel
theorem dX12_does_168 : decode cX12_does 168 = .ok (.iadd, 1) := by decide +kernel
theorem dX12_does_169 : decode cX12_does 169 = .ok (.istore 5, 2) := by decide +kernel
theorem dX12_does_171 : decode cX12_does 171 = .ok (.aload_n 0, 1) := by decide +kernel
theorem dX12_does_172 : decode cX12_does 172 = .ok (.iload 5, 2) := by decide +kernel
theorem dX12_does_174 : decode cX12_does 174 = .ok (.sipush (-999), 3) := by decide +kernel
theorem dX12_does_177 : decode cX12_does 177 = .ok (.sipush 999, 3) := by decide +kernel
theorem dX12_does_180 : decode cX12_does 180 = .ok (.invokestatic 115, 3) := by decide +kernel
theorem dX12_does_183 : decode cX12_does 183 = .ok (.ifCond .eq 7, 3) := by decide +kernel
theorem dX12_does_186 : decode cX12_does 186 = .ok (.iconst 0, 1) := by decide +kernel
theorem dX12_does_187 : decode cX12_does 187 = .ok (.goto 4, 3) := by decide +kernel
theorem dX12_does_190 : decode cX12_does 190 = .ok (.iconst 3, 1) := by decide +kernel
theorem dX12_does_191 : decode cX12_does 191 = .ok (.putfield 154, 3) := by decide +kernel
theorem dX12_does_194 : decode cX12_does 194 = .ok (.aload_n 0, 1) := by decide +kernel
theorem dX12_does_195 : decode cX12_does 195 = .ok (.getfield 56, 3) := by decide +kernel
theorem dX12_does_198 : decode cX12_does 198 = .ok (.aload_n 0, 1) := by decide +kernel
theorem dX12_does_199 : decode cX12_does 199 = .ok (.getfield 32, 3) := by decide +kernel
theorem dX12_does_202 : decode cX12_does 202 = .ok (.iload_n 2, 1) := by decide +kernel
theorem dX12_does_203 : decode cX12_does 203 = .ok (.iaload, 1) := by decide +kernel
theorem dX12_does_204 : decode cX12_does 204 = .ok (.aload_n 0, 1) := by decide +kernel
theorem dX12_does_205 : decode cX12_does 205 = .ok (.getfield 154, 3) := by decide +kernel
theorem dX12_does_208 : decode cX12_does 208 = .ok (.ifCond .ne 8, 3) := by decide +kernel
theorem dX12_does_211 : decode cX12_does 211 = .ok (.iload 5, 2) := by decide +kernel
theorem dX12_does_213 : decode cX12_does 213 = .ok (.goto 14, 3) := by decide +kernel
theorem dX12_does_216 : decode cX12_does 216 = .ok (.aload_n 0, 1) := by decide +kernel
theorem dX12_does_217 : decode cX12_does 217 = .ok (.getfield 56, 3) := by decide +kernel
theorem dX12_does_220 : decode cX12_does 220 = .ok (.aload_n 0, 1) := by decide +kernel
theorem dX12_does_221 : decode cX12_does 221 = .ok (.getfield 32, 3) := by decide +kernel
theorem dX12_does_224 : decode cX12_does 224 = .ok (.iload_n 2, 1) := by decide +kernel
theorem dX12_does_225 : decode cX12_does 225 = .ok (.iaload, 1) := by decide +kernel
theorem dX12_does_226 : decode cX12_does 226 = .ok (.iaload, 1) := by decide +kernel
theorem dX12_does_227 : decode cX12_does 227 = .ok (.iastore, 1) := by decide +kernel
theorem dX12_does_228 : decode cX12_does 228 = .ok (.goto 58, 3) := by decide +kernel
theorem dX12_does_231 : decode cX12_does 231 = .ok (.iload 4, 2) := by decide +kernel
theorem dX12_does_233 : decode cX12_does 233 = .ok (.iconst 5, 1) := by decide +kernel
theorem dX12_does_234 : decode cX12_does 234 = .ok (.if_icmp .ne 23, 3) := by decide +kernel
theorem dX12_does_237 : decode cX12_does 237 = .ok (.iload_n 3, 1) := by decide +kernel
theorem dX12_does_238 : decode cX12_does 238 = .ok (.ifCond .gt 19, 3) := by decide +kernel
theorem dX12_does_241 : decode cX12_does 241 = .ok (.aload_n 0, 1) := by decide +kernel
theorem dX12_does_242 : decode cX12_does 242 = .ok (.aload_n 0, 1) := by decide +kernel
theorem dX12_does_243 : decode cX12_does 243 = .ok (.iload_n 1, 1) := by decide +kernel
theorem dX12_does_244 : decode cX12_does 244 = .ok (.aload_n 0, 1) := by decide +kernel
theorem dX12_does_245 : decode cX12_does 245 = .ok (.getfield 195, 3) := by decide +kernel
theorem dX12_does_248 : decode cX12_does 248 = .ok (.invokevirtual 205, 3) := by decide +kernel
theorem dX12_does_251 : decode cX12_does 251 = .ok (.putfield 195, 3) := by decide +kernel
theorem dX12_does_254 : decode cX12_does 254 = .ok (.goto 32, 3) := by decide +kernel
theorem dX12_does_257 : decode cX12_does 257 = .ok (.iload 4, 2) := by decide +kernel
theorem dX12_does_259 : decode cX12_does 259 = .ok (.iconst 5, 1) := by decide +kernel
theorem dX12_does_260 : decode cX12_does 260 = .ok (.if_icmp .ne 15, 3) := by decide +kernel
theorem dX12_does_263 : decode cX12_does 263 = .ok (.aload_n 0, 1) := by decide +kernel
theorem dX12_does_264 : decode cX12_does 264 = .ok (.aload_n 0, 1) := by decide +kernel
theorem dX12_does_265 : decode cX12_does 265 = .ok (.getfield 195, 3) := by decide +kernel
theorem dX12_does_268 : decode cX12_does 268 = .ok (.iload_n 3, 1) := by decide +kernel
theorem dX12_does_269 : decode cX12_does 269 = .ok (.invokevirtual 198, 3) := by decide +kernel
theorem dX12_does_272 : decode cX12_does 272 = .ok (.goto 14, 3) := by decide +kernel
theorem dX12_does_275 : decode cX12_does 275 = .ok (.aload_n 0, 1) := by decide +kernel
theorem dX12_does_276 : decode cX12_does 276 = .ok (.iload_n 1, 1) := by decide +kernel
theorem dX12_does_277 : decode cX12_does 277 = .ok (.aload_n 0, 1) := by decide +kernel
theorem dX12_does_278 : decode cX12_does 278 = .ok (.getfield 32, 3) := by decide +kernel
theorem dX12_does_281 : decode cX12_does 281 = .ok (.iload_n 2, 1) := by decide +kernel
theorem dX12_does_282 : decode cX12_does 282 = .ok (.iaload, 1) := by decide +kernel
theorem dX12_does_283 : decode cX12_does 283 = .ok (.invokevirtual 208, 3) := by decide +kernel
theorem dX12_does_286 : decode cX12_does 286 = .ok (.return_, 1) := by decide +kernel
theorem dX12_begins_0 : decode cX12_begins 0 = .ok (.iconst 0, 1) := by decide +kernel
theorem dX12_begins_1 : decode cX12_begins 1 = .ok (.istore_n 2, 1) := by decide +kernel
theorem dX12_begins_2 : decode cX12_begins 2 = .ok (.iload_n 2, 1) := by decide +kernel
theorem dX12_begins_3 : decode cX12_begins 3 = .ok (.iconst 4, 1) := by decide +kernel
theorem dX12_begins_4 : decode cX12_begins 4 = .ok (.if_icmp .ge 16, 3) := by decide +kernel
theorem dX12_begins_7 : decode cX12_begins 7 = .ok (.aload_n 0, 1) := by decide +kernel
theorem dX12_begins_8 : decode cX12_begins 8 = .ok (.getfield 56, 3) := by decide +kernel
theorem dX12_begins_11 : decode cX12_begins 11 = .ok (.iload_n 2, 1) := by decide +kernel
theorem dX12_begins_12 : decode cX12_begins 12 = .ok (.iconst 0, 1) := by decide +kernel
theorem dX12_begins_13 : decode cX12_begins 13 = .ok (.iastore, 1) := by decide +kernel
theorem dX12_begins_14 : decode cX12_begins 14 = .ok (.iinc 2 1, 3) := by decide +kernel
theorem dX12_begins_17 : decode cX12_begins 17 = .ok (.goto (-15), 3) := by decide +kernel
theorem dX12_begins_20 : decode cX12_begins 20 = .ok (.iconst 0, 1) := by decide +kernel
theorem dX12_begins_21 : decode cX12_begins 21 = .ok (.istore_n 2, 1) := by decide +kernel
theorem dX12_begins_22 : decode cX12_begins 22 = .ok (.iload_n 2, 1) := by decide +kernel
theorem dX12_begins_23 : decode cX12_begins 23 = .ok (.bipush 16, 2) := by decide +kernel
theorem dX12_begins_25 : decode cX12_begins 25 = .ok (.if_icmp .ge 33, 3) := by decide +kernel
theorem dX12_begins_28 : decode cX12_begins 28 = .ok (.aload_n 0, 1) := by decide +kernel
theorem dX12_begins_29 : decode cX12_begins 29 = .ok (.getfield 50, 3) := by decide +kernel
theorem dX12_begins_32 : decode cX12_begins 32 = .ok (.bipush 16, 2) := by decide +kernel
theorem dX12_begins_34 : decode cX12_begins 34 = .ok (.iload_n 1, 1) := by decide +kernel
theorem dX12_begins_35 : decode cX12_begins 35 = .ok (.imul, 1) := by decide +kernel
theorem dX12_begins_36 : decode cX12_begins 36 = .ok (.iload_n 2, 1) := by decide +kernel
theorem dX12_begins_37 : decode cX12_begins 37 = .ok (.iadd, 1) := by decide +kernel
theorem dX12_begins_38 : decode cX12_begins 38 = .ok (.iconst 0, 1) := by decide +kernel
theorem dX12_begins_39 : decode cX12_begins 39 = .ok (.iastore, 1) := by decide +kernel
theorem dX12_begins_40 : decode cX12_begins 40 = .ok (.aload_n 0, 1) := by decide +kernel
theorem dX12_begins_41 : decode cX12_begins 41 = .ok (.getfield 53, 3) := by decide +kernel
theorem dX12_begins_44 : decode cX12_begins 44 = .ok (.bipush 16, 2) := by decide +kernel
theorem dX12_begins_46 : decode cX12_begins 46 = .ok (.iload_n 1, 1) := by decide +kernel
theorem dX12_begins_47 : decode cX12_begins 47 = .ok (.imul, 1) := by decide +kernel
theorem dX12_begins_48 : decode cX12_begins 48 = .ok (.iload_n 2, 1) := by decide +kernel
theorem dX12_begins_49 : decode cX12_begins 49 = .ok (.iadd, 1) := by decide +kernel
theorem dX12_begins_50 : decode cX12_begins 50 = .ok (.iconst 0, 1) := by decide +kernel
theorem dX12_begins_51 : decode cX12_begins 51 = .ok (.iastore, 1) := by decide +kernel
theorem dX12_begins_52 : decode cX12_begins 52 = .ok (.iinc 2 1, 3) := by decide +kernel
theorem dX12_begins_55 : decode cX12_begins 55 = .ok (.goto (-33), 3) := by decide +kernel
theorem dX12_begins_58 : decode cX12_begins 58 = .ok (.aload_n 0, 1) := by decide +kernel
theorem dX12_begins_59 : decode cX12_begins 59 = .ok (.bipush 8, 2) := by decide +kernel
theorem dX12_begins_61 : decode cX12_begins 61 = .ok (.putfield 160, 3) := by decide +kernel
theorem dX12_begins_64 : decode cX12_begins 64 = .ok (.aload_n 0, 1) := by decide +kernel
theorem dX12_begins_65 : decode cX12_begins 65 = .ok (.bipush 8, 2) := by decide +kernel
theorem dX12_begins_67 : decode cX12_begins 67 = .ok (.putfield 163, 3) := by decide +kernel
theorem dX12_begins_70 : decode cX12_begins 70 = .ok (.aload_n 0, 1) := by decide +kernel
theorem dX12_begins_71 : decode cX12_begins 71 = .ok (.iconst 0, 1) := by decide +kernel
theorem dX12_begins_72 : decode cX12_begins 72 = .ok (.putfield 166, 3) := by decide +kernel
theorem dX12_begins_75 : decode cX12_begins 75 = .ok (.aload_n 0, 1) := by decide +kernel
theorem dX12_begins_76 : decode cX12_begins 76 = .ok (.iconst 1, 1) := by decide +kernel
theorem dX12_begins_77 : decode cX12_begins 77 = .ok (.putfield 177, 3) := by decide +kernel
theorem dX12_begins_80 : decode cX12_begins 80 = .ok (.aload_n 0, 1) := by decide +kernel
theorem dX12_begins_81 : decode cX12_begins 81 = .ok (.iconst 0, 1) := by decide +kernel
theorem dX12_begins_82 : decode cX12_begins 82 = .ok (.putfield 157, 3) := by decide +kernel
theorem dX12_begins_85 : decode cX12_begins 85 = .ok (.aload_n 0, 1) := by decide +kernel
theorem dX12_begins_86 : decode cX12_begins 86 = .ok (.iconst 0, 1) := by decide +kernel
theorem dX12_begins_87 : decode cX12_begins 87 = .ok (.putfield 154, 3) := by decide +kernel
theorem dX12_begins_90 : decode cX12_begins 90 = .ok (.aload_n 0, 1) := by decide +kernel
theorem dX12_begins_91 : decode cX12_begins 91 = .ok (.iconst 0, 1) := by decide +kernel
theorem dX12_begins_92 : decode cX12_begins 92 = .ok (.putfield 195, 3) := by decide +kernel
theorem dX12_begins_95 : decode cX12_begins 95 = .ok (.aload_n 0, 1) := by decide +kernel
theorem dX12_begins_96 : decode cX12_begins 96 = .ok (.iconst 0, 1) := by decide +kernel
theorem dX12_begins_97 : decode cX12_begins 97 = .ok (.putfield 185, 3) := by decide +kernel
theorem dX12_begins_100 : decode cX12_begins 100 = .ok (.aload_n 0, 1) := by decide +kernel
theorem dX12_begins_101 : decode cX12_begins 101 = .ok (.iconst 0, 1) := by decide +kernel
theorem dX12_begins_102 : decode cX12_begins 102 = .ok (.putfield 192, 3) := by decide +kernel
theorem dX12_begins_105 : decode cX12_begins 105 = .ok (.return_, 1) := by decide +kernel
theorem dX12_runs_0 : decode cX12_runs 0 = .ok (.aload_n 0, 1) := by decide +kernel
theorem dX12_runs_1 : decode cX12_runs 1 = .ok (.iload_n 1, 1) := by decide +kernel
theorem dX12_runs_2 : decode cX12_runs 2 = .ok (.invokevirtual 211, 3) := by decide +kernel
theorem dX12_runs_5 : decode cX12_runs 5 = .ok (.aload_n 0, 1) := by decide +kernel
theorem dX12_runs_6 : decode cX12_runs 6 = .ok (.getfield 195, 3) := by decide +kernel
theorem dX12_runs_9 : decode cX12_runs 9 = .ok (.aload_n 0, 1) := by decide +kernel
theorem dX12_runs_10 : decode cX12_runs 10 = .ok (.getfield 26, 3) := by decide +kernel
theorem dX12_runs_13 : decode cX12_runs 13 = .ok (.iload_n 1, 1) := by decide +kernel
theorem dX12_runs_14 : decode cX12_runs 14 = .ok (.iaload, 1) := by decide +kernel
theorem dX12_runs_15 : decode cX12_runs 15 = .ok (.if_icmp .ge 91, 3) := by decide +kernel
theorem dX12_runs_18 : decode cX12_runs 18 = .ok (.aload_n 0, 1) := by decide +kernel
theorem dX12_runs_19 : decode cX12_runs 19 = .ok (.getfield 154, 3) := by decide +kernel
theorem dX12_runs_22 : decode cX12_runs 22 = .ok (.ifCond .ne 84, 3) := by decide +kernel
theorem dX12_runs_25 : decode cX12_runs 25 = .ok (.bipush 30, 2) := by decide +kernel
theorem dX12_runs_27 : decode cX12_runs 27 = .ok (.iload_n 1, 1) := by decide +kernel
theorem dX12_runs_28 : decode cX12_runs 28 = .ok (.imul, 1) := by decide +kernel
theorem dX12_runs_29 : decode cX12_runs 29 = .ok (.aload_n 0, 1) := by decide +kernel
theorem dX12_runs_30 : decode cX12_runs 30 = .ok (.getfield 195, 3) := by decide +kernel
theorem dX12_runs_33 : decode cX12_runs 33 = .ok (.iadd, 1) := by decide +kernel
theorem dX12_runs_34 : decode cX12_runs 34 = .ok (.istore_n 2, 1) := by decide +kernel
theorem dX12_runs_35 : decode cX12_runs 35 = .ok (.aload_n 0, 1) := by decide +kernel
theorem dX12_runs_36 : decode cX12_runs 36 = .ok (.getfield 29, 3) := by decide +kernel
theorem dX12_runs_39 : decode cX12_runs 39 = .ok (.iload_n 2, 1) := by decide +kernel
theorem dX12_runs_40 : decode cX12_runs 40 = .ok (.iaload, 1) := by decide +kernel
theorem dX12_runs_41 : decode cX12_runs 41 = .ok (.bipush 6, 2) := by decide +kernel
theorem dX12_runs_43 : decode cX12_runs 43 = .ok (.if_icmp .ne 19, 3) := by decide +kernel
theorem dX12_runs_46 : decode cX12_runs 46 = .ok (.aload_n 0, 1) := by decide +kernel
theorem dX12_runs_47 : decode cX12_runs 47 = .ok (.aload_n 0, 1) := by decide +kernel
theorem dX12_runs_48 : decode cX12_runs 48 = .ok (.iload_n 1, 1) := by decide +kernel
theorem dX12_runs_49 : decode cX12_runs 49 = .ok (.aload_n 0, 1) := by decide +kernel
theorem dX12_runs_50 : decode cX12_runs 50 = .ok (.getfield 195, 3) := by decide +kernel
theorem dX12_runs_53 : decode cX12_runs 53 = .ok (.invokevirtual 205, 3) := by decide +kernel
theorem dX12_runs_56 : decode cX12_runs 56 = .ok (.putfield 195, 3) := by decide +kernel
theorem dX12_runs_59 : decode cX12_runs 59 = .ok (.goto 34, 3) := by decide +kernel
theorem dX12_runs_62 : decode cX12_runs 62 = .ok (.aload_n 0, 1) := by decide +kernel
theorem dX12_runs_63 : decode cX12_runs 63 = .ok (.getfield 29, 3) := by decide +kernel
theorem dX12_runs_66 : decode cX12_runs 66 = .ok (.iload_n 2, 1) := by decide +kernel
theorem dX12_runs_67 : decode cX12_runs 67 = .ok (.iaload, 1) := by decide +kernel
theorem dX12_runs_68 : decode cX12_runs 68 = .ok (.bipush 8, 2) := by decide +kernel
theorem dX12_runs_70 : decode cX12_runs 70 = .ok (.if_icmp .ne 10, 3) := by decide +kernel
theorem dX12_runs_73 : decode cX12_runs 73 = .ok (.aload_n 0, 1) := by decide +kernel
theorem dX12_runs_74 : decode cX12_runs 74 = .ok (.invokevirtual 214, 3) := by decide +kernel
theorem dX12_runs_77 : decode cX12_runs 77 = .ok (.goto 16, 3) := by decide +kernel
theorem dX12_runs_80 : decode cX12_runs 80 = .ok (.aload_n 0, 1) := by decide +kernel
theorem dX12_runs_81 : decode cX12_runs 81 = .ok (.invokevirtual 173, 3) := by decide +kernel
theorem dX12_runs_84 : decode cX12_runs 84 = .ok (.ifCond .eq 9, 3) := by decide +kernel
theorem dX12_runs_87 : decode cX12_runs 87 = .ok (.aload_n 0, 1) := by decide +kernel
theorem dX12_runs_88 : decode cX12_runs 88 = .ok (.iload_n 1, 1) := by decide +kernel
theorem dX12_runs_89 : decode cX12_runs 89 = .ok (.iload_n 2, 1) := by decide +kernel
theorem dX12_runs_90 : decode cX12_runs 90 = .ok (.invokevirtual 217, 3) := by decide +kernel
theorem dX12_runs_93 : decode cX12_runs 93 = .ok (.aload_n 0, 1) := by decide +kernel
theorem dX12_runs_94 : decode cX12_runs 94 = .ok (.dup, 1) := by decide +kernel
theorem dX12_runs_95 : decode cX12_runs 95 = .ok (.getfield 195, 3) := by decide +kernel
theorem dX12_runs_98 : decode cX12_runs 98 = .ok (.iconst 1, 1) := by decide +kernel
theorem dX12_runs_99 : decode cX12_runs 99 = .ok (.iadd, 1) := by decide +kernel
theorem dX12_runs_100 : decode cX12_runs 100 = .ok (.putfield 195, 3) := by decide +kernel
theorem dX12_runs_103 : decode cX12_runs 103 = .ok (.goto (-98), 3) := by decide +kernel
theorem dX12_runs_106 : decode cX12_runs 106 = .ok (.return_, 1) := by decide +kernel
theorem dX12_areLimits_0 : decode cX12_areLimits 0 = .ok (.iload_n 0, 1) := by decide +kernel
theorem dX12_areLimits_1 : decode cX12_areLimits 1 = .ok (.iconst 1, 1) := by decide +kernel
theorem dX12_areLimits_2 : decode cX12_areLimits 2 = .ok (.bipush 30, 2) := by decide +kernel
theorem dX12_areLimits_4 : decode cX12_areLimits 4 = .ok (.invokestatic 115, 3) := by decide +kernel
theorem dX12_areLimits_7 : decode cX12_areLimits 7 = .ok (.ifCond .eq 18, 3) := by decide +kernel
theorem dX12_areLimits_10 : decode cX12_areLimits 10 = .ok (.iload_n 1, 1) := by decide +kernel
theorem dX12_areLimits_11 : decode cX12_areLimits 11 = .ok (.iconst 0, 1) := by decide +kernel
theorem dX12_areLimits_12 : decode cX12_areLimits 12 = .ok (.sipush 600, 3) := by decide +kernel
theorem dX12_areLimits_15 : decode cX12_areLimits 15 = .ok (.invokestatic 115, 3) := by decide +kernel
theorem dX12_areLimits_18 : decode cX12_areLimits 18 = .ok (.ifCond .eq 7, 3) := by decide +kernel
theorem dX12_areLimits_21 : decode cX12_areLimits 21 = .ok (.iconst 1, 1) := by decide +kernel
theorem dX12_areLimits_22 : decode cX12_areLimits 22 = .ok (.goto 4, 3) := by decide +kernel
theorem dX12_areLimits_25 : decode cX12_areLimits 25 = .ok (.iconst 0, 1) := by decide +kernel
theorem dX12_areLimits_26 : decode cX12_areLimits 26 = .ok (.ireturn, 1) := by decide +kernel
theorem dX12_exercise_0 : decode cX12_exercise 0 = .ok (.aload_n 0, 1) := by decide +kernel
theorem dX12_exercise_1 : decode cX12_exercise 1 = .ok (.iload_n 1, 1) := by decide +kernel
theorem dX12_exercise_2 : decode cX12_exercise 2 = .ok (.invokevirtual 220, 3) := by decide +kernel
theorem dX12_exercise_5 : decode cX12_exercise 5 = .ok (.istore 4, 2) := by decide +kernel
theorem dX12_exercise_7 : decode cX12_exercise 7 = .ok (.aload_n 0, 1) := by decide +kernel
theorem dX12_exercise_8 : decode cX12_exercise 8 = .ok (.iload 4, 2) := by decide +kernel
theorem dX12_exercise_10 : decode cX12_exercise 10 = .ok (.ifCond .ne 7, 3) := by decide +kernel
theorem dX12_exercise_13 : decode cX12_exercise 13 = .ok (.iconst 1, 1) := by decide +kernel
theorem dX12_exercise_14 : decode cX12_exercise 14 = .ok (.goto 29, 3) := by decide +kernel
theorem dX12_exercise_17 : decode cX12_exercise 17 = .ok (.iload_n 2, 1) := by decide +kernel
theorem dX12_exercise_18 : decode cX12_exercise 18 = .ok (.iload_n 3, 1) := by decide +kernel
theorem dX12_exercise_19 : decode cX12_exercise 19 = .ok (.invokestatic 223, 3) := by decide +kernel
theorem dX12_exercise_22 : decode cX12_exercise 22 = .ok (.ifCond .ne 7, 3) := by decide +kernel
theorem dX12_exercise_25 : decode cX12_exercise 25 = .ok (.iconst 2, 1) := by decide +kernel
theorem dX12_exercise_26 : decode cX12_exercise 26 = .ok (.goto 17, 3) := by decide +kernel
theorem dX12_exercise_29 : decode cX12_exercise 29 = .ok (.aload_n 0, 1) := by decide +kernel
theorem dX12_exercise_30 : decode cX12_exercise 30 = .ok (.getfield 226, 3) := by decide +kernel
theorem dX12_exercise_33 : decode cX12_exercise 33 = .ok (.bipush 6, 2) := by decide +kernel
theorem dX12_exercise_35 : decode cX12_exercise 35 = .ok (.if_icmp .ne 7, 3) := by decide +kernel
theorem dX12_exercise_38 : decode cX12_exercise 38 = .ok (.iconst 3, 1) := by decide +kernel
theorem dX12_exercise_39 : decode cX12_exercise 39 = .ok (.goto 4, 3) := by decide +kernel
theorem dX12_exercise_42 : decode cX12_exercise 42 = .ok (.iconst 0, 1) := by decide +kernel
theorem dX12_exercise_43 : decode cX12_exercise 43 = .ok (.invokevirtual 126, 3) := by decide +kernel
theorem dX12_exercise_46 : decode cX12_exercise 46 = .ok (.ifCond .ne 5, 3) := by decide +kernel
theorem dX12_exercise_49 : decode cX12_exercise 49 = .ok (.iconst 0, 1) := by decide +kernel
theorem dX12_exercise_50 : decode cX12_exercise 50 = .ok (.ireturn, 1) := by decide +kernel
theorem dX12_exercise_51 : decode cX12_exercise 51 = .ok (.aload_n 0, 1) := by decide +kernel
theorem dX12_exercise_52 : decode cX12_exercise 52 = .ok (.getfield 80, 3) := by decide +kernel
theorem dX12_exercise_55 : decode cX12_exercise 55 = .ok (.aload_n 0, 1) := by decide +kernel
theorem dX12_exercise_56 : decode cX12_exercise 56 = .ok (.getfield 226, 3) := by decide +kernel
theorem dX12_exercise_59 : decode cX12_exercise 59 = .ok (.iload_n 1, 1) := by decide +kernel
theorem dX12_exercise_60 : decode cX12_exercise 60 = .ok (.iastore, 1) := by decide +kernel
theorem dX12_exercise_61 : decode cX12_exercise 61 = .ok (.aload_n 0, 1) := by decide +kernel
theorem dX12_exercise_62 : decode cX12_exercise 62 = .ok (.getfield 83, 3) := by decide +kernel
theorem dX12_exercise_65 : decode cX12_exercise 65 = .ok (.aload_n 0, 1) := by decide +kernel
theorem dX12_exercise_66 : decode cX12_exercise 66 = .ok (.getfield 226, 3) := by decide +kernel
theorem dX12_exercise_69 : decode cX12_exercise 69 = .ok (.iload_n 2, 1) := by decide +kernel
theorem dX12_exercise_70 : decode cX12_exercise 70 = .ok (.iastore, 1) := by decide +kernel
theorem dX12_exercise_71 : decode cX12_exercise 71 = .ok (.aload_n 0, 1) := by decide +kernel
theorem dX12_exercise_72 : decode cX12_exercise 72 = .ok (.getfield 86, 3) := by decide +kernel
theorem dX12_exercise_75 : decode cX12_exercise 75 = .ok (.aload_n 0, 1) := by decide +kernel
theorem dX12_exercise_76 : decode cX12_exercise 76 = .ok (.getfield 226, 3) := by decide +kernel
theorem dX12_exercise_79 : decode cX12_exercise 79 = .ok (.iload_n 3, 1) := by decide +kernel
theorem dX12_exercise_80 : decode cX12_exercise 80 = .ok (.iastore, 1) := by decide +kernel
theorem dX12_exercise_81 : decode cX12_exercise 81 = .ok (.aload_n 0, 1) := by decide +kernel
theorem dX12_exercise_82 : decode cX12_exercise 82 = .ok (.dup, 1) := by decide +kernel
theorem dX12_exercise_83 : decode cX12_exercise 83 = .ok (.getfield 226, 3) := by decide +kernel
theorem dX12_exercise_86 : decode cX12_exercise 86 = .ok (.iconst 1, 1) := by decide +kernel
theorem dX12_exercise_87 : decode cX12_exercise 87 = .ok (.iadd, 1) := by decide +kernel
theorem dX12_exercise_88 : decode cX12_exercise 88 = .ok (.putfield 226, 3) := by decide +kernel
theorem dX12_exercise_91 : decode cX12_exercise 91 = .ok (.aload_n 0, 1) := by decide +kernel
theorem dX12_exercise_92 : decode cX12_exercise 92 = .ok (.getfield 226, 3) := by decide +kernel
theorem dX12_exercise_95 : decode cX12_exercise 95 = .ok (.iconst 1, 1) := by decide +kernel
theorem dX12_exercise_96 : decode cX12_exercise 96 = .ok (.isub, 1) := by decide +kernel
theorem dX12_exercise_97 : decode cX12_exercise 97 = .ok (.ireturn, 1) := by decide +kernel
theorem dX12_isExercise_0 : decode cX12_isExercise 0 = .ok (.iload_n 1, 1) := by decide +kernel
theorem dX12_isExercise_1 : decode cX12_isExercise 1 = .ok (.iconst 0, 1) := by decide +kernel
theorem dX12_isExercise_2 : decode cX12_isExercise 2 = .ok (.aload_n 0, 1) := by decide +kernel
theorem dX12_isExercise_3 : decode cX12_isExercise 3 = .ok (.getfield 226, 3) := by decide +kernel
theorem dX12_isExercise_6 : decode cX12_isExercise 6 = .ok (.iconst 1, 1) := by decide +kernel
theorem dX12_isExercise_7 : decode cX12_isExercise 7 = .ok (.isub, 1) := by decide +kernel
theorem dX12_isExercise_8 : decode cX12_isExercise 8 = .ok (.invokestatic 115, 3) := by decide +kernel
theorem dX12_isExercise_11 : decode cX12_isExercise 11 = .ok (.ireturn, 1) := by decide +kernel
theorem dX12_allow_0 : decode cX12_allow 0 = .ok (.aload_n 0, 1) := by decide +kernel
theorem dX12_allow_1 : decode cX12_allow 1 = .ok (.aload_n 0, 1) := by decide +kernel
theorem dX12_allow_2 : decode cX12_allow 2 = .ok (.iload_n 1, 1) := by decide +kernel
theorem dX12_allow_3 : decode cX12_allow 3 = .ok (.invokevirtual 229, 3) := by decide +kernel
theorem dX12_allow_6 : decode cX12_allow 6 = .ok (.ifCond .ne 7, 3) := by decide +kernel
theorem dX12_allow_9 : decode cX12_allow 9 = .ok (.iconst 1, 1) := by decide +kernel
theorem dX12_allow_10 : decode cX12_allow 10 = .ok (.goto 16, 3) := by decide +kernel
theorem dX12_allow_13 : decode cX12_allow 13 = .ok (.iload_n 2, 1) := by decide +kernel
theorem dX12_allow_14 : decode cX12_allow 14 = .ok (.iload_n 3, 1) := by decide +kernel
theorem dX12_allow_15 : decode cX12_allow 15 = .ok (.invokestatic 223, 3) := by decide +kernel
theorem dX12_allow_18 : decode cX12_allow 18 = .ok (.ifCond .eq 7, 3) := by decide +kernel
theorem dX12_allow_21 : decode cX12_allow 21 = .ok (.iconst 0, 1) := by decide +kernel
theorem dX12_allow_22 : decode cX12_allow 22 = .ok (.goto 4, 3) := by decide +kernel
theorem dX12_allow_25 : decode cX12_allow 25 = .ok (.iconst 2, 1) := by decide +kernel
theorem dX12_allow_26 : decode cX12_allow 26 = .ok (.invokevirtual 126, 3) := by decide +kernel
theorem dX12_allow_29 : decode cX12_allow 29 = .ok (.ifCond .ne 5, 3) := by decide +kernel
theorem dX12_allow_32 : decode cX12_allow 32 = .ok (.iconst 0, 1) := by decide +kernel
theorem dX12_allow_33 : decode cX12_allow 33 = .ok (.ireturn, 1) := by decide +kernel
theorem dX12_allow_34 : decode cX12_allow 34 = .ok (.aload_n 0, 1) := by decide +kernel
theorem dX12_allow_35 : decode cX12_allow 35 = .ok (.getfield 83, 3) := by decide +kernel
theorem dX12_allow_38 : decode cX12_allow 38 = .ok (.iload_n 1, 1) := by decide +kernel
theorem dX12_allow_39 : decode cX12_allow 39 = .ok (.iload_n 2, 1) := by decide +kernel
theorem dX12_allow_40 : decode cX12_allow 40 = .ok (.iastore, 1) := by decide +kernel
theorem dX12_allow_41 : decode cX12_allow 41 = .ok (.aload_n 0, 1) := by decide +kernel
theorem dX12_allow_42 : decode cX12_allow 42 = .ok (.getfield 86, 3) := by decide +kernel
theorem dX12_allow_45 : decode cX12_allow 45 = .ok (.iload_n 1, 1) := by decide +kernel
theorem dX12_allow_46 : decode cX12_allow 46 = .ok (.iload_n 3, 1) := by decide +kernel
theorem dX12_allow_47 : decode cX12_allow 47 = .ok (.iastore, 1) := by decide +kernel
theorem dX12_allow_48 : decode cX12_allow 48 = .ok (.iconst 0, 1) := by decide +kernel
theorem dX12_allow_49 : decode cX12_allow 49 = .ok (.istore 4, 2) := by decide +kernel
theorem dX12_allow_51 : decode cX12_allow 51 = .ok (.iconst 0, 1) := by decide +kernel
theorem dX12_allow_52 : decode cX12_allow 52 = .ok (.istore 5, 2) := by decide +kernel
theorem dX12_allow_54 : decode cX12_allow 54 = .ok (.iload 5, 2) := by decide +kernel
theorem dX12_allow_56 : decode cX12_allow 56 = .ok (.aload_n 0, 1) := by decide +kernel
theorem dX12_allow_57 : decode cX12_allow 57 = .ok (.getfield 232, 3) := by decide +kernel
theorem dX12_allow_60 : decode cX12_allow 60 = .ok (.if_icmp .ge 39, 3) := by decide +kernel
theorem dX12_allow_63 : decode cX12_allow 63 = .ok (.iload 4, 2) := by decide +kernel
theorem dX12_allow_65 : decode cX12_allow 65 = .ok (.aload_n 0, 1) := by decide +kernel
theorem dX12_allow_66 : decode cX12_allow 66 = .ok (.getfield 92, 3) := by decide +kernel
theorem dX12_allow_69 : decode cX12_allow 69 = .ok (.iload 5, 2) := by decide +kernel
theorem dX12_allow_71 : decode cX12_allow 71 = .ok (.iaload, 1) := by decide +kernel
theorem dX12_allow_72 : decode cX12_allow 72 = .ok (.iload_n 1, 1) := by decide +kernel
theorem dX12_allow_73 : decode cX12_allow 73 = .ok (.if_icmp .ne 16, 3) := by decide +kernel
theorem dX12_allow_76 : decode cX12_allow 76 = .ok (.aload_n 0, 1) := by decide +kernel
theorem dX12_allow_77 : decode cX12_allow 77 = .ok (.iload 5, 2) := by decide +kernel
theorem dX12_allow_79 : decode cX12_allow 79 = .ok (.invokevirtual 235, 3) := by decide +kernel
theorem dX12_allow_82 : decode cX12_allow 82 = .ok (.ifCond .eq 7, 3) := by decide +kernel
theorem dX12_allow_85 : decode cX12_allow 85 = .ok (.iconst 1, 1) := by decide +kernel
theorem dX12_allow_86 : decode cX12_allow 86 = .ok (.goto 4, 3) := by decide +kernel
theorem dX12_allow_89 : decode cX12_allow 89 = .ok (.iconst 0, 1) := by decide +kernel
theorem dX12_allow_90 : decode cX12_allow 90 = .ok (.iadd, 1) := by decide +kernel
theorem dX12_allow_91 : decode cX12_allow 91 = .ok (.istore 4, 2) := by decide +kernel
theorem dX12_allow_93 : decode cX12_allow 93 = .ok (.iinc 5 1, 3) := by decide +kernel
theorem dX12_allow_96 : decode cX12_allow 96 = .ok (.goto (-42), 3) := by decide +kernel
theorem dX12_allow_99 : decode cX12_allow 99 = .ok (.iload 4, 2) := by decide +kernel
theorem dX12_allow_101 : decode cX12_allow 101 = .ok (.ireturn, 1) := by decide +kernel
theorem dX12_handIn_0 : decode cX12_handIn 0 = .ok (.aload_n 0, 1) := by decide +kernel
theorem dX12_handIn_1 : decode cX12_handIn 1 = .ok (.iload_n 1, 1) := by decide +kernel
theorem dX12_handIn_2 : decode cX12_handIn 2 = .ok (.invokevirtual 220, 3) := by decide +kernel
theorem dX12_handIn_5 : decode cX12_handIn 5 = .ok (.ifCond .eq 15, 3) := by decide +kernel
theorem dX12_handIn_8 : decode cX12_handIn 8 = .ok (.aload_n 0, 1) := by decide +kernel
theorem dX12_handIn_9 : decode cX12_handIn 9 = .ok (.iload_n 2, 1) := by decide +kernel
theorem dX12_handIn_10 : decode cX12_handIn 10 = .ok (.invokevirtual 229, 3) := by decide +kernel
theorem dX12_handIn_13 : decode cX12_handIn 13 = .ok (.ifCond .eq 7, 3) := by decide +kernel
theorem dX12_handIn_16 : decode cX12_handIn 16 = .ok (.iconst 1, 1) := by decide +kernel
theorem dX12_handIn_17 : decode cX12_handIn 17 = .ok (.goto 4, 3) := by decide +kernel
theorem dX12_handIn_20 : decode cX12_handIn 20 = .ok (.iconst 0, 1) := by decide +kernel
theorem dX12_handIn_21 : decode cX12_handIn 21 = .ok (.istore_n 3, 1) := by decide +kernel
theorem dX12_handIn_22 : decode cX12_handIn 22 = .ok (.aload_n 0, 1) := by decide +kernel
theorem dX12_handIn_23 : decode cX12_handIn 23 = .ok (.iload_n 3, 1) := by decide +kernel
theorem dX12_handIn_24 : decode cX12_handIn 24 = .ok (.ifCond .ne 7, 3) := by decide +kernel
theorem dX12_handIn_27 : decode cX12_handIn 27 = .ok (.iconst 1, 1) := by decide +kernel
theorem dX12_handIn_28 : decode cX12_handIn 28 = .ok (.goto 17, 3) := by decide +kernel
theorem dX12_handIn_31 : decode cX12_handIn 31 = .ok (.aload_n 0, 1) := by decide +kernel
theorem dX12_handIn_32 : decode cX12_handIn 32 = .ok (.getfield 232, 3) := by decide +kernel
theorem dX12_handIn_35 : decode cX12_handIn 35 = .ok (.bipush 24, 2) := by decide +kernel
theorem dX12_handIn_37 : decode cX12_handIn 37 = .ok (.if_icmp .ne 7, 3) := by decide +kernel
theorem dX12_handIn_40 : decode cX12_handIn 40 = .ok (.iconst 2, 1) := by decide +kernel
theorem dX12_handIn_41 : decode cX12_handIn 41 = .ok (.goto 4, 3) := by decide +kernel
theorem dX12_handIn_44 : decode cX12_handIn 44 = .ok (.iconst 0, 1) := by decide +kernel
theorem dX12_handIn_45 : decode cX12_handIn 45 = .ok (.invokevirtual 126, 3) := by decide +kernel
theorem dX12_handIn_48 : decode cX12_handIn 48 = .ok (.ifCond .ne 5, 3) := by decide +kernel
theorem dX12_handIn_51 : decode cX12_handIn 51 = .ok (.iconst 0, 1) := by decide +kernel
theorem dX12_handIn_52 : decode cX12_handIn 52 = .ok (.ireturn, 1) := by decide +kernel
theorem dX12_handIn_53 : decode cX12_handIn 53 = .ok (.aload_n 0, 1) := by decide +kernel
theorem dX12_handIn_54 : decode cX12_handIn 54 = .ok (.getfield 89, 3) := by decide +kernel
theorem dX12_handIn_57 : decode cX12_handIn 57 = .ok (.aload_n 0, 1) := by decide +kernel
theorem dX12_handIn_58 : decode cX12_handIn 58 = .ok (.getfield 232, 3) := by decide +kernel
theorem dX12_handIn_61 : decode cX12_handIn 61 = .ok (.iload_n 1, 1) := by decide +kernel
theorem dX12_handIn_62 : decode cX12_handIn 62 = .ok (.iastore, 1) := by decide +kernel
theorem dX12_handIn_63 : decode cX12_handIn 63 = .ok (.aload_n 0, 1) := by decide +kernel
theorem dX12_handIn_64 : decode cX12_handIn 64 = .ok (.getfield 92, 3) := by decide +kernel
theorem dX12_handIn_67 : decode cX12_handIn 67 = .ok (.aload_n 0, 1) := by decide +kernel
theorem dX12_handIn_68 : decode cX12_handIn 68 = .ok (.getfield 232, 3) := by decide +kernel
theorem dX12_handIn_71 : decode cX12_handIn 71 = .ok (.iload_n 2, 1) := by decide +kernel
theorem dX12_handIn_72 : decode cX12_handIn 72 = .ok (.iastore, 1) := by decide +kernel
theorem dX12_handIn_73 : decode cX12_handIn 73 = .ok (.aload_n 0, 1) := by decide +kernel
theorem dX12_handIn_74 : decode cX12_handIn 74 = .ok (.dup, 1) := by decide +kernel
theorem dX12_handIn_75 : decode cX12_handIn 75 = .ok (.getfield 232, 3) := by decide +kernel
theorem dX12_handIn_78 : decode cX12_handIn 78 = .ok (.iconst 1, 1) := by decide +kernel
theorem dX12_handIn_79 : decode cX12_handIn 79 = .ok (.iadd, 1) := by decide +kernel
theorem dX12_handIn_80 : decode cX12_handIn 80 = .ok (.putfield 232, 3) := by decide +kernel
theorem dX12_handIn_83 : decode cX12_handIn 83 = .ok (.aload_n 0, 1) := by decide +kernel
theorem dX12_handIn_84 : decode cX12_handIn 84 = .ok (.getfield 232, 3) := by decide +kernel
theorem dX12_handIn_87 : decode cX12_handIn 87 = .ok (.iconst 1, 1) := by decide +kernel
theorem dX12_handIn_88 : decode cX12_handIn 88 = .ok (.isub, 1) := by decide +kernel
theorem dX12_handIn_89 : decode cX12_handIn 89 = .ok (.ireturn, 1) := by decide +kernel
theorem dX12_isWork_0 : decode cX12_isWork 0 = .ok (.iload_n 1, 1) := by decide +kernel
theorem dX12_isWork_1 : decode cX12_isWork 1 = .ok (.iconst 0, 1) := by decide +kernel
theorem dX12_isWork_2 : decode cX12_isWork 2 = .ok (.aload_n 0, 1) := by decide +kernel
theorem dX12_isWork_3 : decode cX12_isWork 3 = .ok (.getfield 232, 3) := by decide +kernel
theorem dX12_isWork_6 : decode cX12_isWork 6 = .ok (.iconst 1, 1) := by decide +kernel
theorem dX12_isWork_7 : decode cX12_isWork 7 = .ok (.isub, 1) := by decide +kernel
theorem dX12_isWork_8 : decode cX12_isWork 8 = .ok (.invokestatic 115, 3) := by decide +kernel
theorem dX12_isWork_11 : decode cX12_isWork 11 = .ok (.ireturn, 1) := by decide +kernel
theorem dX12_clear_0 : decode cX12_clear 0 = .ok (.aload_n 0, 1) := by decide +kernel
theorem dX12_clear_1 : decode cX12_clear 1 = .ok (.aload_n 0, 1) := by decide +kernel
theorem dX12_clear_2 : decode cX12_clear 2 = .ok (.iload_n 1, 1) := by decide +kernel
theorem dX12_clear_3 : decode cX12_clear 3 = .ok (.invokevirtual 238, 3) := by decide +kernel
theorem dX12_clear_6 : decode cX12_clear 6 = .ok (.ifCond .eq 7, 3) := by decide +kernel
theorem dX12_clear_9 : decode cX12_clear 9 = .ok (.iconst 0, 1) := by decide +kernel
theorem dX12_clear_10 : decode cX12_clear 10 = .ok (.goto 4, 3) := by decide +kernel
theorem dX12_clear_13 : decode cX12_clear 13 = .ok (.iconst 1, 1) := by decide +kernel
theorem dX12_clear_14 : decode cX12_clear 14 = .ok (.invokevirtual 126, 3) := by decide +kernel
theorem dX12_clear_17 : decode cX12_clear 17 = .ok (.ifCond .ne 5, 3) := by decide +kernel
theorem dX12_clear_20 : decode cX12_clear 20 = .ok (.iconst 0, 1) := by decide +kernel
theorem dX12_clear_21 : decode cX12_clear 21 = .ok (.ireturn, 1) := by decide +kernel
theorem dX12_clear_22 : decode cX12_clear 22 = .ok (.aload_n 0, 1) := by decide +kernel
theorem dX12_clear_23 : decode cX12_clear 23 = .ok (.getfield 95, 3) := by decide +kernel
theorem dX12_clear_26 : decode cX12_clear 26 = .ok (.iload_n 1, 1) := by decide +kernel
theorem dX12_clear_27 : decode cX12_clear 27 = .ok (.baload, 1) := by decide +kernel
theorem dX12_clear_28 : decode cX12_clear 28 = .ok (.istore_n 3, 1) := by decide +kernel
theorem dX12_clear_29 : decode cX12_clear 29 = .ok (.aload_n 0, 1) := by decide +kernel
theorem dX12_clear_30 : decode cX12_clear 30 = .ok (.getfield 95, 3) := by decide +kernel
theorem dX12_clear_33 : decode cX12_clear 33 = .ok (.iload_n 1, 1) := by decide +kernel
theorem dX12_clear_34 : decode cX12_clear 34 = .ok (.iload_n 2, 1) := by decide +kernel
theorem dX12_clear_35 : decode cX12_clear 35 = .ok (.bastore, 1) := by decide +kernel
theorem dX12_clear_36 : decode cX12_clear 36 = .ok (.iload_n 3, 1) := by decide +kernel
theorem dX12_clear_37 : decode cX12_clear 37 = .ok (.ireturn, 1) := by decide +kernel
theorem dX12_setWall_0 : decode cX12_setWall 0 = .ok (.aload_n 0, 1) := by decide +kernel
theorem dX12_setWall_1 : decode cX12_setWall 1 = .ok (.iload_n 1, 1) := by decide +kernel
theorem dX12_setWall_2 : decode cX12_setWall 2 = .ok (.iconst 1, 1) := by decide +kernel
theorem dX12_setWall_3 : decode cX12_setWall 3 = .ok (.bipush 40, 2) := by decide +kernel
theorem dX12_setWall_5 : decode cX12_setWall 5 = .ok (.invokestatic 115, 3) := by decide +kernel
theorem dX12_setWall_8 : decode cX12_setWall 8 = .ok (.ifCond .eq 17, 3) := by decide +kernel
theorem dX12_setWall_11 : decode cX12_setWall 11 = .ok (.iload_n 2, 1) := by decide +kernel
theorem dX12_setWall_12 : decode cX12_setWall 12 = .ok (.iconst 1, 1) := by decide +kernel
theorem dX12_setWall_13 : decode cX12_setWall 13 = .ok (.bipush 40, 2) := by decide +kernel
theorem dX12_setWall_15 : decode cX12_setWall 15 = .ok (.invokestatic 115, 3) := by decide +kernel
theorem dX12_setWall_18 : decode cX12_setWall 18 = .ok (.ifCond .eq 7, 3) := by decide +kernel
theorem dX12_setWall_21 : decode cX12_setWall 21 = .ok (.iconst 0, 1) := by decide +kernel
theorem dX12_setWall_22 : decode cX12_setWall 22 = .ok (.goto 4, 3) := by decide +kernel
theorem dX12_setWall_25 : decode cX12_setWall 25 = .ok (.iconst 1, 1) := by decide +kernel
theorem dX12_setWall_26 : decode cX12_setWall 26 = .ok (.invokevirtual 126, 3) := by decide +kernel
theorem dX12_setWall_29 : decode cX12_setWall 29 = .ok (.ifCond .ne 5, 3) := by decide +kernel
theorem dX12_setWall_32 : decode cX12_setWall 32 = .ok (.iconst 0, 1) := by decide +kernel
theorem dX12_setWall_33 : decode cX12_setWall 33 = .ok (.ireturn, 1) := by decide +kernel
theorem dX12_setWall_34 : decode cX12_setWall 34 = .ok (.aload_n 0, 1) := by decide +kernel
theorem dX12_setWall_35 : decode cX12_setWall 35 = .ok (.iload_n 1, 1) := by decide +kernel
theorem dX12_setWall_36 : decode cX12_setWall 36 = .ok (.putfield 98, 3) := by decide +kernel
theorem dX12_setWall_39 : decode cX12_setWall 39 = .ok (.aload_n 0, 1) := by decide +kernel
theorem dX12_setWall_40 : decode cX12_setWall 40 = .ok (.iload_n 2, 1) := by decide +kernel
theorem dX12_setWall_41 : decode cX12_setWall 41 = .ok (.putfield 102, 3) := by decide +kernel
theorem dX12_setWall_44 : decode cX12_setWall 44 = .ok (.aload_n 0, 1) := by decide +kernel
theorem dX12_setWall_45 : decode cX12_setWall 45 = .ok (.invokevirtual 241, 3) := by decide +kernel
theorem dX12_setWall_48 : decode cX12_setWall 48 = .ok (.iconst 0, 1) := by decide +kernel
theorem dX12_setWall_49 : decode cX12_setWall 49 = .ok (.istore_n 3, 1) := by decide +kernel
theorem dX12_setWall_50 : decode cX12_setWall 50 = .ok (.iconst 0, 1) := by decide +kernel
theorem dX12_setWall_51 : decode cX12_setWall 51 = .ok (.istore 4, 2) := by decide +kernel
theorem dX12_setWall_53 : decode cX12_setWall 53 = .ok (.iload 4, 2) := by decide +kernel
theorem dX12_setWall_55 : decode cX12_setWall 55 = .ok (.aload_n 0, 1) := by decide +kernel
theorem dX12_setWall_56 : decode cX12_setWall 56 = .ok (.getfield 232, 3) := by decide +kernel
theorem dX12_setWall_59 : decode cX12_setWall 59 = .ok (.if_icmp .ge 28, 3) := by decide +kernel
theorem dX12_setWall_62 : decode cX12_setWall 62 = .ok (.iload_n 3, 1) := by decide +kernel
theorem dX12_setWall_63 : decode cX12_setWall 63 = .ok (.aload_n 0, 1) := by decide +kernel
theorem dX12_setWall_64 : decode cX12_setWall 64 = .ok (.getfield 109, 3) := by decide +kernel
theorem dX12_setWall_67 : decode cX12_setWall 67 = .ok (.iload 4, 2) := by decide +kernel
theorem dX12_setWall_69 : decode cX12_setWall 69 = .ok (.iaload, 1) := by decide +kernel
theorem dX12_setWall_70 : decode cX12_setWall 70 = .ok (.iconst (-1), 1) := by decide +kernel
theorem dX12_setWall_71 : decode cX12_setWall 71 = .ok (.if_icmp .eq 7, 3) := by decide +kernel
theorem dX12_setWall_74 : decode cX12_setWall 74 = .ok (.iconst 1, 1) := by decide +kernel
theorem dX12_setWall_75 : decode cX12_setWall 75 = .ok (.goto 4, 3) := by decide +kernel
theorem dX12_setWall_78 : decode cX12_setWall 78 = .ok (.iconst 0, 1) := by decide +kernel
theorem dX12_setWall_79 : decode cX12_setWall 79 = .ok (.iadd, 1) := by decide +kernel
theorem dX12_setWall_80 : decode cX12_setWall 80 = .ok (.istore_n 3, 1) := by decide +kernel
theorem dX12_setWall_81 : decode cX12_setWall 81 = .ok (.iinc 4 1, 3) := by decide +kernel
theorem dX12_setWall_84 : decode cX12_setWall 84 = .ok (.goto (-31), 3) := by decide +kernel
theorem dX12_setWall_87 : decode cX12_setWall 87 = .ok (.iload_n 3, 1) := by decide +kernel
theorem dX12_setWall_88 : decode cX12_setWall 88 = .ok (.ireturn, 1) := by decide +kernel
theorem dX12_leastOf_0 : decode cX12_leastOf 0 = .ok (.aload_n 0, 1) := by decide +kernel
theorem dX12_leastOf_1 : decode cX12_leastOf 1 = .ok (.getfield 47, 3) := by decide +kernel
theorem dX12_leastOf_4 : decode cX12_leastOf 4 = .ok (.iload_n 1, 1) := by decide +kernel
theorem dX12_leastOf_5 : decode cX12_leastOf 5 = .ok (.iaload, 1) := by decide +kernel
theorem dX12_leastOf_6 : decode cX12_leastOf 6 = .ok (.ifCond .ne 7, 3) := by decide +kernel
theorem dX12_leastOf_9 : decode cX12_leastOf 9 = .ok (.iconst 0, 1) := by decide +kernel
theorem dX12_leastOf_10 : decode cX12_leastOf 10 = .ok (.goto 5, 3) := by decide +kernel
theorem dX12_leastOf_13 : decode cX12_leastOf 13 = .ok (.bipush 16, 2) := by decide +kernel
theorem dX12_leastOf_15 : decode cX12_leastOf 15 = .ok (.istore_n 3, 1) := by decide +kernel
theorem dX12_leastOf_16 : decode cX12_leastOf 16 = .ok (.iconst 0, 1) := by decide +kernel
theorem dX12_leastOf_17 : decode cX12_leastOf 17 = .ok (.istore 4, 2) := by decide +kernel
theorem dX12_leastOf_19 : decode cX12_leastOf 19 = .ok (.iload 4, 2) := by decide +kernel
theorem dX12_leastOf_21 : decode cX12_leastOf 21 = .ok (.sipush 256, 3) := by decide +kernel
theorem dX12_leastOf_24 : decode cX12_leastOf 24 = .ok (.if_icmp .ge 96, 3) := by decide +kernel
theorem dX12_leastOf_27 : decode cX12_leastOf 27 = .ok (.aload_n 0, 1) := by decide +kernel
theorem dX12_leastOf_28 : decode cX12_leastOf 28 = .ok (.getfield 50, 3) := by decide +kernel
theorem dX12_leastOf_31 : decode cX12_leastOf 31 = .ok (.bipush 16, 2) := by decide +kernel
theorem dX12_leastOf_33 : decode cX12_leastOf 33 = .ok (.iload_n 1, 1) := by decide +kernel
theorem dX12_leastOf_34 : decode cX12_leastOf 34 = .ok (.imul, 1) := by decide +kernel
theorem dX12_leastOf_35 : decode cX12_leastOf 35 = .ok (.iload 4, 2) := by decide +kernel
theorem dX12_leastOf_37 : decode cX12_leastOf 37 = .ok (.bipush 16, 2) := by decide +kernel
theorem dX12_leastOf_39 : decode cX12_leastOf 39 = .ok (.idiv, 1) := by decide +kernel
theorem dX12_leastOf_40 : decode cX12_leastOf 40 = .ok (.iadd, 1) := by decide +kernel
theorem dX12_leastOf_41 : decode cX12_leastOf 41 = .ok (.iaload, 1) := by decide +kernel
theorem dX12_leastOf_42 : decode cX12_leastOf 42 = .ok (.aload_n 0, 1) := by decide +kernel
theorem dX12_leastOf_43 : decode cX12_leastOf 43 = .ok (.getfield 53, 3) := by decide +kernel
theorem dX12_leastOf_46 : decode cX12_leastOf 46 = .ok (.bipush 16, 2) := by decide +kernel
theorem dX12_leastOf_48 : decode cX12_leastOf 48 = .ok (.iload_n 1, 1) := by decide +kernel
theorem dX12_leastOf_49 : decode cX12_leastOf 49 = .ok (.imul, 1) := by decide +kernel
theorem dX12_leastOf_50 : decode cX12_leastOf 50 = .ok (.iload 4, 2) := by decide +kernel
theorem dX12_leastOf_52 : decode cX12_leastOf 52 = .ok (.bipush 16, 2) := by decide +kernel
theorem dX12_leastOf_54 : decode cX12_leastOf 54 = .ok (.idiv, 1) := by decide +kernel
theorem dX12_leastOf_55 : decode cX12_leastOf 55 = .ok (.iadd, 1) := by decide +kernel
theorem dX12_leastOf_56 : decode cX12_leastOf 56 = .ok (.iaload, 1) := by decide +kernel
theorem dX12_leastOf_57 : decode cX12_leastOf 57 = .ok (.ior, 1) := by decide +kernel
theorem dX12_leastOf_58 : decode cX12_leastOf 58 = .ok (.iload 4, 2) := by decide +kernel
theorem dX12_leastOf_60 : decode cX12_leastOf 60 = .ok (.bipush 16, 2) := by decide +kernel
theorem dX12_leastOf_62 : decode cX12_leastOf 62 = .ok (.irem, 1) := by decide +kernel
theorem dX12_leastOf_63 : decode cX12_leastOf 63 = .ok (.ishr, 1) := by decide +kernel
theorem dX12_leastOf_64 : decode cX12_leastOf 64 = .ok (.iconst 1, 1) := by decide +kernel
theorem dX12_leastOf_65 : decode cX12_leastOf 65 = .ok (.iand, 1) := by decide +kernel
theorem dX12_leastOf_66 : decode cX12_leastOf 66 = .ok (.iconst 1, 1) := by decide +kernel
theorem dX12_leastOf_67 : decode cX12_leastOf 67 = .ok (.if_icmp .ne 7, 3) := by decide +kernel
theorem dX12_leastOf_70 : decode cX12_leastOf 70 = .ok (.iconst 1, 1) := by decide +kernel
theorem dX12_leastOf_71 : decode cX12_leastOf 71 = .ok (.goto 4, 3) := by decide +kernel
theorem dX12_leastOf_74 : decode cX12_leastOf 74 = .ok (.iconst 0, 1) := by decide +kernel
theorem dX12_leastOf_75 : decode cX12_leastOf 75 = .ok (.istore 5, 2) := by decide +kernel
theorem dX12_leastOf_77 : decode cX12_leastOf 77 = .ok (.iload_n 2, 1) := by decide +kernel
theorem dX12_leastOf_78 : decode cX12_leastOf 78 = .ok (.ifCond .eq 11, 3) := by decide +kernel
theorem dX12_leastOf_81 : decode cX12_leastOf 81 = .ok (.iload 4, 2) := by decide +kernel
theorem dX12_leastOf_83 : decode cX12_leastOf 83 = .ok (.bipush 16, 2) := by decide +kernel
theorem dX12_leastOf_85 : decode cX12_leastOf 85 = .ok (.irem, 1) := by decide +kernel
theorem dX12_leastOf_86 : decode cX12_leastOf 86 = .ok (.goto 8, 3) := by decide +kernel
theorem dX12_leastOf_89 : decode cX12_leastOf 89 = .ok (.iload 4, 2) := by decide +kernel
theorem dX12_leastOf_91 : decode cX12_leastOf 91 = .ok (.bipush 16, 2) := by decide +kernel
theorem dX12_leastOf_93 : decode cX12_leastOf 93 = .ok (.idiv, 1) := by decide +kernel
theorem dX12_leastOf_94 : decode cX12_leastOf 94 = .ok (.istore 6, 2) := by decide +kernel
theorem dX12_leastOf_96 : decode cX12_leastOf 96 = .ok (.iload 5, 2) := by decide +kernel
theorem dX12_leastOf_98 : decode cX12_leastOf 98 = .ok (.ifCond .eq 14, 3) := by decide +kernel
theorem dX12_leastOf_101 : decode cX12_leastOf 101 = .ok (.iload 6, 2) := by decide +kernel
theorem dX12_leastOf_103 : decode cX12_leastOf 103 = .ok (.iload_n 3, 1) := by decide +kernel
theorem dX12_leastOf_104 : decode cX12_leastOf 104 = .ok (.if_icmp .ge 8, 3) := by decide +kernel
theorem dX12_leastOf_107 : decode cX12_leastOf 107 = .ok (.iload 6, 2) := by decide +kernel
theorem dX12_leastOf_109 : decode cX12_leastOf 109 = .ok (.goto 4, 3) := by decide +kernel
theorem dX12_leastOf_112 : decode cX12_leastOf 112 = .ok (.iload_n 3, 1) := by decide +kernel
theorem dX12_leastOf_113 : decode cX12_leastOf 113 = .ok (.istore_n 3, 1) := by decide +kernel
theorem dX12_leastOf_114 : decode cX12_leastOf 114 = .ok (.iinc 4 1, 3) := by decide +kernel
theorem dX12_leastOf_117 : decode cX12_leastOf 117 = .ok (.goto (-98), 3) := by decide +kernel
theorem dX12_leastOf_120 : decode cX12_leastOf 120 = .ok (.iload_n 3, 1) := by decide +kernel
theorem dX12_leastOf_121 : decode cX12_leastOf 121 = .ok (.ireturn, 1) := by decide +kernel
theorem dX12_greatestOf_0 : decode cX12_greatestOf 0 = .ok (.iconst 0, 1) := by decide +kernel
theorem dX12_greatestOf_1 : decode cX12_greatestOf 1 = .ok (.istore_n 3, 1) := by decide +kernel
theorem dX12_greatestOf_2 : decode cX12_greatestOf 2 = .ok (.iconst 0, 1) := by decide +kernel
theorem dX12_greatestOf_3 : decode cX12_greatestOf 3 = .ok (.istore 4, 2) := by decide +kernel
theorem dX12_greatestOf_5 : decode cX12_greatestOf 5 = .ok (.iload 4, 2) := by decide +kernel
theorem dX12_greatestOf_7 : decode cX12_greatestOf 7 = .ok (.sipush 256, 3) := by decide +kernel
theorem dX12_greatestOf_10 : decode cX12_greatestOf 10 = .ok (.if_icmp .ge 141, 3) := by decide +kernel
theorem dX12_greatestOf_13 : decode cX12_greatestOf 13 = .ok (.aload_n 0, 1) := by decide +kernel
theorem dX12_greatestOf_14 : decode cX12_greatestOf 14 = .ok (.getfield 50, 3) := by decide +kernel
theorem dX12_greatestOf_17 : decode cX12_greatestOf 17 = .ok (.bipush 16, 2) := by decide +kernel
theorem dX12_greatestOf_19 : decode cX12_greatestOf 19 = .ok (.iload_n 1, 1) := by decide +kernel
theorem dX12_greatestOf_20 : decode cX12_greatestOf 20 = .ok (.imul, 1) := by decide +kernel
theorem dX12_greatestOf_21 : decode cX12_greatestOf 21 = .ok (.iload 4, 2) := by decide +kernel
theorem dX12_greatestOf_23 : decode cX12_greatestOf 23 = .ok (.bipush 16, 2) := by decide +kernel
theorem dX12_greatestOf_25 : decode cX12_greatestOf 25 = .ok (.idiv, 1) := by decide +kernel
theorem dX12_greatestOf_26 : decode cX12_greatestOf 26 = .ok (.iadd, 1) := by decide +kernel
theorem dX12_greatestOf_27 : decode cX12_greatestOf 27 = .ok (.iaload, 1) := by decide +kernel
theorem dX12_greatestOf_28 : decode cX12_greatestOf 28 = .ok (.iload 4, 2) := by decide +kernel
theorem dX12_greatestOf_30 : decode cX12_greatestOf 30 = .ok (.bipush 16, 2) := by decide +kernel
theorem dX12_greatestOf_32 : decode cX12_greatestOf 32 = .ok (.irem, 1) := by decide +kernel
theorem dX12_greatestOf_33 : decode cX12_greatestOf 33 = .ok (.ishr, 1) := by decide +kernel
theorem dX12_greatestOf_34 : decode cX12_greatestOf 34 = .ok (.iconst 1, 1) := by decide +kernel
theorem dX12_greatestOf_35 : decode cX12_greatestOf 35 = .ok (.iand, 1) := by decide +kernel
theorem dX12_greatestOf_36 : decode cX12_greatestOf 36 = .ok (.iconst 1, 1) := by decide +kernel
theorem dX12_greatestOf_37 : decode cX12_greatestOf 37 = .ok (.if_icmp .ne 7, 3) := by decide +kernel
theorem dX12_greatestOf_40 : decode cX12_greatestOf 40 = .ok (.iconst 1, 1) := by decide +kernel
theorem dX12_greatestOf_41 : decode cX12_greatestOf 41 = .ok (.goto 4, 3) := by decide +kernel
theorem dX12_greatestOf_44 : decode cX12_greatestOf 44 = .ok (.iconst 0, 1) := by decide +kernel
theorem dX12_greatestOf_45 : decode cX12_greatestOf 45 = .ok (.istore 5, 2) := by decide +kernel
theorem dX12_greatestOf_47 : decode cX12_greatestOf 47 = .ok (.aload_n 0, 1) := by decide +kernel
theorem dX12_greatestOf_48 : decode cX12_greatestOf 48 = .ok (.getfield 53, 3) := by decide +kernel
theorem dX12_greatestOf_51 : decode cX12_greatestOf 51 = .ok (.bipush 16, 2) := by decide +kernel
theorem dX12_greatestOf_53 : decode cX12_greatestOf 53 = .ok (.iload_n 1, 1) := by decide +kernel
theorem dX12_greatestOf_54 : decode cX12_greatestOf 54 = .ok (.imul, 1) := by decide +kernel
theorem dX12_greatestOf_55 : decode cX12_greatestOf 55 = .ok (.iload 4, 2) := by decide +kernel
theorem dX12_greatestOf_57 : decode cX12_greatestOf 57 = .ok (.bipush 16, 2) := by decide +kernel
theorem dX12_greatestOf_59 : decode cX12_greatestOf 59 = .ok (.idiv, 1) := by decide +kernel
theorem dX12_greatestOf_60 : decode cX12_greatestOf 60 = .ok (.iadd, 1) := by decide +kernel
theorem dX12_greatestOf_61 : decode cX12_greatestOf 61 = .ok (.iaload, 1) := by decide +kernel
theorem dX12_greatestOf_62 : decode cX12_greatestOf 62 = .ok (.iload 4, 2) := by decide +kernel
theorem dX12_greatestOf_64 : decode cX12_greatestOf 64 = .ok (.bipush 16, 2) := by decide +kernel
theorem dX12_greatestOf_66 : decode cX12_greatestOf 66 = .ok (.irem, 1) := by decide +kernel
theorem dX12_greatestOf_67 : decode cX12_greatestOf 67 = .ok (.ishr, 1) := by decide +kernel
theorem dX12_greatestOf_68 : decode cX12_greatestOf 68 = .ok (.iconst 1, 1) := by decide +kernel
theorem dX12_greatestOf_69 : decode cX12_greatestOf 69 = .ok (.iand, 1) := by decide +kernel
theorem dX12_greatestOf_70 : decode cX12_greatestOf 70 = .ok (.iconst 1, 1) := by decide +kernel
theorem dX12_greatestOf_71 : decode cX12_greatestOf 71 = .ok (.if_icmp .ne 7, 3) := by decide +kernel
theorem dX12_greatestOf_74 : decode cX12_greatestOf 74 = .ok (.iconst 1, 1) := by decide +kernel
theorem dX12_greatestOf_75 : decode cX12_greatestOf 75 = .ok (.goto 4, 3) := by decide +kernel
theorem dX12_greatestOf_78 : decode cX12_greatestOf 78 = .ok (.iconst 0, 1) := by decide +kernel
theorem dX12_greatestOf_79 : decode cX12_greatestOf 79 = .ok (.istore 6, 2) := by decide +kernel
theorem dX12_greatestOf_81 : decode cX12_greatestOf 81 = .ok (.iload_n 2, 1) := by decide +kernel
theorem dX12_greatestOf_82 : decode cX12_greatestOf 82 = .ok (.ifCond .eq 22, 3) := by decide +kernel
theorem dX12_greatestOf_85 : decode cX12_greatestOf 85 = .ok (.iload 4, 2) := by decide +kernel
theorem dX12_greatestOf_87 : decode cX12_greatestOf 87 = .ok (.bipush 16, 2) := by decide +kernel
theorem dX12_greatestOf_89 : decode cX12_greatestOf 89 = .ok (.irem, 1) := by decide +kernel
theorem dX12_greatestOf_90 : decode cX12_greatestOf 90 = .ok (.iload 5, 2) := by decide +kernel
theorem dX12_greatestOf_92 : decode cX12_greatestOf 92 = .ok (.ifCond .eq 7, 3) := by decide +kernel
theorem dX12_greatestOf_95 : decode cX12_greatestOf 95 = .ok (.iconst 1, 1) := by decide +kernel
theorem dX12_greatestOf_96 : decode cX12_greatestOf 96 = .ok (.goto 4, 3) := by decide +kernel
theorem dX12_greatestOf_99 : decode cX12_greatestOf 99 = .ok (.iconst 0, 1) := by decide +kernel
theorem dX12_greatestOf_100 : decode cX12_greatestOf 100 = .ok (.iadd, 1) := by decide +kernel
theorem dX12_greatestOf_101 : decode cX12_greatestOf 101 = .ok (.goto 19, 3) := by decide +kernel
theorem dX12_greatestOf_104 : decode cX12_greatestOf 104 = .ok (.iload 4, 2) := by decide +kernel
theorem dX12_greatestOf_106 : decode cX12_greatestOf 106 = .ok (.bipush 16, 2) := by decide +kernel
theorem dX12_greatestOf_108 : decode cX12_greatestOf 108 = .ok (.idiv, 1) := by decide +kernel
theorem dX12_greatestOf_109 : decode cX12_greatestOf 109 = .ok (.iload 6, 2) := by decide +kernel
theorem dX12_greatestOf_111 : decode cX12_greatestOf 111 = .ok (.ifCond .eq 7, 3) := by decide +kernel
theorem dX12_greatestOf_114 : decode cX12_greatestOf 114 = .ok (.iconst 1, 1) := by decide +kernel
theorem dX12_greatestOf_115 : decode cX12_greatestOf 115 = .ok (.goto 4, 3) := by decide +kernel
theorem dX12_greatestOf_118 : decode cX12_greatestOf 118 = .ok (.iconst 0, 1) := by decide +kernel
theorem dX12_greatestOf_119 : decode cX12_greatestOf 119 = .ok (.iadd, 1) := by decide +kernel
theorem dX12_greatestOf_120 : decode cX12_greatestOf 120 = .ok (.istore 7, 2) := by decide +kernel
theorem dX12_greatestOf_122 : decode cX12_greatestOf 122 = .ok (.iload 5, 2) := by decide +kernel
theorem dX12_greatestOf_124 : decode cX12_greatestOf 124 = .ok (.ifCond .ne 8, 3) := by decide +kernel
theorem dX12_greatestOf_127 : decode cX12_greatestOf 127 = .ok (.iload 6, 2) := by decide +kernel
theorem dX12_greatestOf_129 : decode cX12_greatestOf 129 = .ok (.ifCond .eq 14, 3) := by decide +kernel
theorem dX12_greatestOf_132 : decode cX12_greatestOf 132 = .ok (.iload 7, 2) := by decide +kernel
theorem dX12_greatestOf_134 : decode cX12_greatestOf 134 = .ok (.iload_n 3, 1) := by decide +kernel
theorem dX12_greatestOf_135 : decode cX12_greatestOf 135 = .ok (.if_icmp .le 8, 3) := by decide +kernel
theorem dX12_greatestOf_138 : decode cX12_greatestOf 138 = .ok (.iload 7, 2) := by decide +kernel
theorem dX12_greatestOf_140 : decode cX12_greatestOf 140 = .ok (.goto 4, 3) := by decide +kernel
theorem dX12_greatestOf_143 : decode cX12_greatestOf 143 = .ok (.iload_n 3, 1) := by decide +kernel
theorem dX12_greatestOf_144 : decode cX12_greatestOf 144 = .ok (.istore_n 3, 1) := by decide +kernel
theorem dX12_greatestOf_145 : decode cX12_greatestOf 145 = .ok (.iinc 4 1, 3) := by decide +kernel
theorem dX12_greatestOf_148 : decode cX12_greatestOf 148 = .ok (.goto (-143), 3) := by decide +kernel
theorem dX12_greatestOf_151 : decode cX12_greatestOf 151 = .ok (.iload_n 3, 1) := by decide +kernel
theorem dX12_greatestOf_152 : decode cX12_greatestOf 152 = .ok (.ireturn, 1) := by decide +kernel
theorem dX12_alike_0 : decode cX12_alike 0 = .ok (.aload_n 0, 1) := by decide +kernel
theorem dX12_alike_1 : decode cX12_alike 1 = .ok (.getfield 47, 3) := by decide +kernel
theorem dX12_alike_4 : decode cX12_alike 4 = .ok (.iload_n 1, 1) := by decide +kernel
theorem dX12_alike_5 : decode cX12_alike 5 = .ok (.iaload, 1) := by decide +kernel
theorem dX12_alike_6 : decode cX12_alike 6 = .ok (.aload_n 0, 1) := by decide +kernel
theorem dX12_alike_7 : decode cX12_alike 7 = .ok (.getfield 47, 3) := by decide +kernel
theorem dX12_alike_10 : decode cX12_alike 10 = .ok (.iload_n 2, 1) := by decide +kernel
theorem dX12_alike_11 : decode cX12_alike 11 = .ok (.iaload, 1) := by decide +kernel
theorem dX12_alike_12 : decode cX12_alike 12 = .ok (.if_icmp .eq 5, 3) := by decide +kernel
theorem dX12_alike_15 : decode cX12_alike 15 = .ok (.iconst 0, 1) := by decide +kernel
theorem dX12_alike_16 : decode cX12_alike 16 = .ok (.ireturn, 1) := by decide +kernel
theorem dX12_alike_17 : decode cX12_alike 17 = .ok (.aload_n 0, 1) := by decide +kernel
theorem dX12_alike_18 : decode cX12_alike 18 = .ok (.iload_n 1, 1) := by decide +kernel
theorem dX12_alike_19 : decode cX12_alike 19 = .ok (.iconst 1, 1) := by decide +kernel
theorem dX12_alike_20 : decode cX12_alike 20 = .ok (.invokevirtual 244, 3) := by decide +kernel
theorem dX12_alike_23 : decode cX12_alike 23 = .ok (.istore_n 3, 1) := by decide +kernel
theorem dX12_alike_24 : decode cX12_alike 24 = .ok (.aload_n 0, 1) := by decide +kernel
theorem dX12_alike_25 : decode cX12_alike 25 = .ok (.iload_n 1, 1) := by decide +kernel
theorem dX12_alike_26 : decode cX12_alike 26 = .ok (.iconst 0, 1) := by decide +kernel
theorem dX12_alike_27 : decode cX12_alike 27 = .ok (.invokevirtual 244, 3) := by decide +kernel
theorem dX12_alike_30 : decode cX12_alike 30 = .ok (.istore 4, 2) := by decide +kernel
theorem dX12_alike_32 : decode cX12_alike 32 = .ok (.aload_n 0, 1) := by decide +kernel
theorem dX12_alike_33 : decode cX12_alike 33 = .ok (.iload_n 2, 1) := by decide +kernel
theorem dX12_alike_34 : decode cX12_alike 34 = .ok (.iconst 1, 1) := by decide +kernel
theorem dX12_alike_35 : decode cX12_alike 35 = .ok (.invokevirtual 244, 3) := by decide +kernel
theorem dX12_alike_38 : decode cX12_alike 38 = .ok (.istore 5, 2) := by decide +kernel
theorem dX12_alike_40 : decode cX12_alike 40 = .ok (.aload_n 0, 1) := by decide +kernel
theorem dX12_alike_41 : decode cX12_alike 41 = .ok (.iload_n 2, 1) := by decide +kernel
theorem dX12_alike_42 : decode cX12_alike 42 = .ok (.iconst 0, 1) := by decide +kernel
theorem dX12_alike_43 : decode cX12_alike 43 = .ok (.invokevirtual 244, 3) := by decide +kernel
theorem dX12_alike_46 : decode cX12_alike 46 = .ok (.istore 6, 2) := by decide +kernel
theorem dX12_alike_48 : decode cX12_alike 48 = .ok (.iconst 1, 1) := by decide +kernel
theorem dX12_alike_49 : decode cX12_alike 49 = .ok (.istore 7, 2) := by decide +kernel
theorem dX12_alike_51 : decode cX12_alike 51 = .ok (.iconst 0, 1) := by decide +kernel
theorem dX12_alike_52 : decode cX12_alike 52 = .ok (.istore 8, 2) := by decide +kernel
theorem dX12_alike_54 : decode cX12_alike 54 = .ok (.iload 8, 2) := by decide +kernel
theorem dX12_alike_56 : decode cX12_alike 56 = .ok (.iload 4, 2) := by decide +kernel
theorem dX12_alike_58 : decode cX12_alike 58 = .ok (.iadd, 1) := by decide +kernel
theorem dX12_alike_59 : decode cX12_alike 59 = .ok (.bipush 16, 2) := by decide +kernel
theorem dX12_alike_61 : decode cX12_alike 61 = .ok (.if_icmp .lt 13, 3) := by decide +kernel
theorem dX12_alike_64 : decode cX12_alike 64 = .ok (.iload 8, 2) := by decide +kernel
theorem dX12_alike_66 : decode cX12_alike 66 = .ok (.iload 6, 2) := by decide +kernel
theorem dX12_alike_68 : decode cX12_alike 68 = .ok (.iadd, 1) := by decide +kernel
theorem dX12_alike_69 : decode cX12_alike 69 = .ok (.bipush 16, 2) := by decide +kernel
theorem dX12_alike_71 : decode cX12_alike 71 = .ok (.if_icmp .ge 153, 3) := by decide +kernel
theorem dX12_alike_74 : decode cX12_alike 74 = .ok (.bipush 16, 2) := by decide +kernel
theorem dX12_alike_76 : decode cX12_alike 76 = .ok (.iload_n 1, 1) := by decide +kernel
theorem dX12_alike_77 : decode cX12_alike 77 = .ok (.imul, 1) := by decide +kernel
theorem dX12_alike_78 : decode cX12_alike 78 = .ok (.iload 4, 2) := by decide +kernel
theorem dX12_alike_80 : decode cX12_alike 80 = .ok (.iadd, 1) := by decide +kernel
theorem dX12_alike_81 : decode cX12_alike 81 = .ok (.iload 8, 2) := by decide +kernel
theorem dX12_alike_83 : decode cX12_alike 83 = .ok (.iadd, 1) := by decide +kernel
theorem dX12_alike_84 : decode cX12_alike 84 = .ok (.istore 9, 2) := by decide +kernel
theorem dX12_alike_86 : decode cX12_alike 86 = .ok (.bipush 16, 2) := by decide +kernel
theorem dX12_alike_88 : decode cX12_alike 88 = .ok (.iload_n 2, 1) := by decide +kernel
theorem dX12_alike_89 : decode cX12_alike 89 = .ok (.imul, 1) := by decide +kernel
theorem dX12_alike_90 : decode cX12_alike 90 = .ok (.iload 6, 2) := by decide +kernel
theorem dX12_alike_92 : decode cX12_alike 92 = .ok (.iadd, 1) := by decide +kernel
theorem dX12_alike_93 : decode cX12_alike 93 = .ok (.iload 8, 2) := by decide +kernel
theorem dX12_alike_95 : decode cX12_alike 95 = .ok (.iadd, 1) := by decide +kernel
theorem dX12_alike_96 : decode cX12_alike 96 = .ok (.istore 10, 2) := by decide +kernel
theorem dX12_alike_98 : decode cX12_alike 98 = .ok (.iload 4, 2) := by decide +kernel
theorem dX12_alike_100 : decode cX12_alike 100 = .ok (.iload 8, 2) := by decide +kernel
theorem dX12_alike_102 : decode cX12_alike 102 = .ok (.iadd, 1) := by decide +kernel
theorem dX12_alike_103 : decode cX12_alike 103 = .ok (.bipush 16, 2) := by decide +kernel
theorem dX12_alike_105 : decode cX12_alike 105 = .ok (.if_icmp .ge 15, 3) := by decide +kernel
theorem dX12_alike_108 : decode cX12_alike 108 = .ok (.aload_n 0, 1) := by decide +kernel
theorem dX12_alike_109 : decode cX12_alike 109 = .ok (.getfield 50, 3) := by decide +kernel
theorem dX12_alike_112 : decode cX12_alike 112 = .ok (.iload 9, 2) := by decide +kernel
theorem dX12_alike_114 : decode cX12_alike 114 = .ok (.iaload, 1) := by decide +kernel
theorem dX12_alike_115 : decode cX12_alike 115 = .ok (.iload_n 3, 1) := by decide +kernel
theorem dX12_alike_116 : decode cX12_alike 116 = .ok (.ishr, 1) := by decide +kernel
theorem dX12_alike_117 : decode cX12_alike 117 = .ok (.goto 4, 3) := by decide +kernel
theorem dX12_alike_120 : decode cX12_alike 120 = .ok (.iconst 0, 1) := by decide +kernel
theorem dX12_alike_121 : decode cX12_alike 121 = .ok (.istore 11, 2) := by decide +kernel
theorem dX12_alike_123 : decode cX12_alike 123 = .ok (.iload 4, 2) := by decide +kernel
theorem dX12_alike_125 : decode cX12_alike 125 = .ok (.iload 8, 2) := by decide +kernel
theorem dX12_alike_127 : decode cX12_alike 127 = .ok (.iadd, 1) := by decide +kernel
theorem dX12_alike_128 : decode cX12_alike 128 = .ok (.bipush 16, 2) := by decide +kernel
theorem dX12_alike_130 : decode cX12_alike 130 = .ok (.if_icmp .ge 15, 3) := by decide +kernel
theorem dX12_alike_133 : decode cX12_alike 133 = .ok (.aload_n 0, 1) := by decide +kernel
theorem dX12_alike_134 : decode cX12_alike 134 = .ok (.getfield 53, 3) := by decide +kernel
theorem dX12_alike_137 : decode cX12_alike 137 = .ok (.iload 9, 2) := by decide +kernel
theorem dX12_alike_139 : decode cX12_alike 139 = .ok (.iaload, 1) := by decide +kernel
theorem dX12_alike_140 : decode cX12_alike 140 = .ok (.iload_n 3, 1) := by decide +kernel
theorem dX12_alike_141 : decode cX12_alike 141 = .ok (.ishr, 1) := by decide +kernel
theorem dX12_alike_142 : decode cX12_alike 142 = .ok (.goto 4, 3) := by decide +kernel
theorem dX12_alike_145 : decode cX12_alike 145 = .ok (.iconst 0, 1) := by decide +kernel
theorem dX12_alike_146 : decode cX12_alike 146 = .ok (.istore 12, 2) := by decide +kernel
theorem dX12_alike_148 : decode cX12_alike 148 = .ok (.iload 7, 2) := by decide +kernel
theorem dX12_alike_150 : decode cX12_alike 150 = .ok (.ifCond .eq 65, 3) := by decide +kernel
theorem dX12_alike_153 : decode cX12_alike 153 = .ok (.iload 11, 2) := by decide +kernel
theorem dX12_alike_155 : decode cX12_alike 155 = .ok (.iload 6, 2) := by decide +kernel
theorem dX12_alike_157 : decode cX12_alike 157 = .ok (.iload 8, 2) := by decide +kernel
theorem dX12_alike_159 : decode cX12_alike 159 = .ok (.iadd, 1) := by decide +kernel
theorem dX12_alike_160 : decode cX12_alike 160 = .ok (.bipush 16, 2) := by decide +kernel
theorem dX12_alike_162 : decode cX12_alike 162 = .ok (.if_icmp .ge 16, 3) := by decide +kernel
theorem dX12_alike_165 : decode cX12_alike 165 = .ok (.aload_n 0, 1) := by decide +kernel
theorem dX12_alike_166 : decode cX12_alike 166 = .ok (.getfield 50, 3) := by decide +kernel
theorem dX12_alike_169 : decode cX12_alike 169 = .ok (.iload 10, 2) := by decide +kernel
theorem dX12_alike_171 : decode cX12_alike 171 = .ok (.iaload, 1) := by decide +kernel
theorem dX12_alike_172 : decode cX12_alike 172 = .ok (.iload 5, 2) := by decide +kernel
theorem dX12_alike_174 : decode cX12_alike 174 = .ok (.ishr, 1) := by decide +kernel
theorem dX12_alike_175 : decode cX12_alike 175 = .ok (.goto 4, 3) := by decide +kernel
theorem dX12_alike_178 : decode cX12_alike 178 = .ok (.iconst 0, 1) := by decide +kernel
theorem dX12_alike_179 : decode cX12_alike 179 = .ok (.if_icmp .ne 36, 3) := by decide +kernel
theorem dX12_alike_182 : decode cX12_alike 182 = .ok (.iload 12, 2) := by decide +kernel
theorem dX12_alike_184 : decode cX12_alike 184 = .ok (.iload 6, 2) := by decide +kernel
theorem dX12_alike_186 : decode cX12_alike 186 = .ok (.iload 8, 2) := by decide +kernel
theorem dX12_alike_188 : decode cX12_alike 188 = .ok (.iadd, 1) := by decide +kernel
theorem dX12_alike_189 : decode cX12_alike 189 = .ok (.bipush 16, 2) := by decide +kernel
theorem dX12_alike_191 : decode cX12_alike 191 = .ok (.if_icmp .ge 16, 3) := by decide +kernel
theorem dX12_alike_194 : decode cX12_alike 194 = .ok (.aload_n 0, 1) := by decide +kernel
theorem dX12_alike_195 : decode cX12_alike 195 = .ok (.getfield 53, 3) := by decide +kernel
theorem dX12_alike_198 : decode cX12_alike 198 = .ok (.iload 10, 2) := by decide +kernel
theorem dX12_alike_200 : decode cX12_alike 200 = .ok (.iaload, 1) := by decide +kernel
theorem dX12_alike_201 : decode cX12_alike 201 = .ok (.iload 5, 2) := by decide +kernel
theorem dX12_alike_203 : decode cX12_alike 203 = .ok (.ishr, 1) := by decide +kernel
theorem dX12_alike_204 : decode cX12_alike 204 = .ok (.goto 4, 3) := by decide +kernel
theorem dX12_alike_207 : decode cX12_alike 207 = .ok (.iconst 0, 1) := by decide +kernel
theorem dX12_alike_208 : decode cX12_alike 208 = .ok (.if_icmp .ne 7, 3) := by decide +kernel
theorem dX12_alike_211 : decode cX12_alike 211 = .ok (.iconst 1, 1) := by decide +kernel
theorem dX12_alike_212 : decode cX12_alike 212 = .ok (.goto 4, 3) := by decide +kernel
theorem dX12_alike_215 : decode cX12_alike 215 = .ok (.iconst 0, 1) := by decide +kernel
theorem dX12_alike_216 : decode cX12_alike 216 = .ok (.istore 7, 2) := by decide +kernel
theorem dX12_alike_218 : decode cX12_alike 218 = .ok (.iinc 8 1, 3) := by decide +kernel
theorem dX12_alike_221 : decode cX12_alike 221 = .ok (.goto (-167), 3) := by decide +kernel
theorem dX12_alike_224 : decode cX12_alike 224 = .ok (.iload 7, 2) := by decide +kernel
theorem dX12_alike_226 : decode cX12_alike 226 = .ok (.ireturn, 1) := by decide +kernel
theorem dX12_anew_0 : decode cX12_anew 0 = .ok (.iconst 0, 1) := by decide +kernel
theorem dX12_anew_1 : decode cX12_anew 1 = .ok (.istore_n 2, 1) := by decide +kernel
theorem dX12_anew_2 : decode cX12_anew 2 = .ok (.iconst 0, 1) := by decide +kernel
theorem dX12_anew_3 : decode cX12_anew 3 = .ok (.istore_n 3, 1) := by decide +kernel
theorem dX12_anew_4 : decode cX12_anew 4 = .ok (.iload_n 3, 1) := by decide +kernel
theorem dX12_anew_5 : decode cX12_anew 5 = .ok (.iconst 4, 1) := by decide +kernel
theorem dX12_anew_6 : decode cX12_anew 6 = .ok (.if_icmp .ge 24, 3) := by decide +kernel
theorem dX12_anew_9 : decode cX12_anew 9 = .ok (.iload_n 2, 1) := by decide +kernel
theorem dX12_anew_10 : decode cX12_anew 10 = .ok (.aload_n 0, 1) := by decide +kernel
theorem dX12_anew_11 : decode cX12_anew 11 = .ok (.iload_n 3, 1) := by decide +kernel
theorem dX12_anew_12 : decode cX12_anew 12 = .ok (.iaload, 1) := by decide +kernel
theorem dX12_anew_13 : decode cX12_anew 13 = .ok (.iconst (-1), 1) := by decide +kernel
theorem dX12_anew_14 : decode cX12_anew 14 = .ok (.if_icmp .eq 7, 3) := by decide +kernel
theorem dX12_anew_17 : decode cX12_anew 17 = .ok (.iconst 1, 1) := by decide +kernel
theorem dX12_anew_18 : decode cX12_anew 18 = .ok (.goto 4, 3) := by decide +kernel
theorem dX12_anew_21 : decode cX12_anew 21 = .ok (.iconst 0, 1) := by decide +kernel
theorem dX12_anew_22 : decode cX12_anew 22 = .ok (.iadd, 1) := by decide +kernel
theorem dX12_anew_23 : decode cX12_anew 23 = .ok (.istore_n 2, 1) := by decide +kernel
theorem dX12_anew_24 : decode cX12_anew 24 = .ok (.iinc 3 1, 3) := by decide +kernel
theorem dX12_anew_27 : decode cX12_anew 27 = .ok (.goto (-23), 3) := by decide +kernel
theorem dX12_anew_30 : decode cX12_anew 30 = .ok (.aload_n 0, 1) := by decide +kernel
theorem dX12_anew_31 : decode cX12_anew 31 = .ok (.iload_n 1, 1) := by decide +kernel
theorem dX12_anew_32 : decode cX12_anew 32 = .ok (.aload_n 0, 1) := by decide +kernel
theorem dX12_anew_33 : decode cX12_anew 33 = .ok (.iload_n 1, 1) := by decide +kernel
theorem dX12_anew_34 : decode cX12_anew 34 = .ok (.iaload, 1) := by decide +kernel
theorem dX12_anew_35 : decode cX12_anew 35 = .ok (.iconst (-1), 1) := by decide +kernel
theorem dX12_anew_36 : decode cX12_anew 36 = .ok (.if_icmp .ne 7, 3) := by decide +kernel
theorem dX12_anew_39 : decode cX12_anew 39 = .ok (.iload_n 2, 1) := by decide +kernel
theorem dX12_anew_40 : decode cX12_anew 40 = .ok (.goto 6, 3) := by decide +kernel
theorem dX12_anew_43 : decode cX12_anew 43 = .ok (.aload_n 0, 1) := by decide +kernel
theorem dX12_anew_44 : decode cX12_anew 44 = .ok (.iload_n 1, 1) := by decide +kernel
theorem dX12_anew_45 : decode cX12_anew 45 = .ok (.iaload, 1) := by decide +kernel
theorem dX12_anew_46 : decode cX12_anew 46 = .ok (.iastore, 1) := by decide +kernel
theorem dX12_anew_47 : decode cX12_anew 47 = .ok (.aload_n 0, 1) := by decide +kernel
theorem dX12_anew_48 : decode cX12_anew 48 = .ok (.iload_n 1, 1) := by decide +kernel
theorem dX12_anew_49 : decode cX12_anew 49 = .ok (.iaload, 1) := by decide +kernel
theorem dX12_anew_50 : decode cX12_anew 50 = .ok (.ireturn, 1) := by decide +kernel
theorem dX12_lays_0 : decode cX12_lays 0 = .ok (.iconst 0, 1) := by decide +kernel
theorem dX12_lays_1 : decode cX12_lays 1 = .ok (.istore_n 3, 1) := by decide +kernel
theorem dX12_lays_2 : decode cX12_lays 2 = .ok (.iload_n 3, 1) := by decide +kernel
theorem dX12_lays_3 : decode cX12_lays 3 = .ok (.iconst 4, 1) := by decide +kernel
theorem dX12_lays_4 : decode cX12_lays 4 = .ok (.if_icmp .ge 23, 3) := by decide +kernel
theorem dX12_lays_7 : decode cX12_lays 7 = .ok (.aload_n 0, 1) := by decide +kernel
theorem dX12_lays_8 : decode cX12_lays 8 = .ok (.getfield 71, 3) := by decide +kernel
theorem dX12_lays_11 : decode cX12_lays 11 = .ok (.iload_n 3, 1) := by decide +kernel
theorem dX12_lays_12 : decode cX12_lays 12 = .ok (.iconst (-1), 1) := by decide +kernel
theorem dX12_lays_13 : decode cX12_lays 13 = .ok (.iastore, 1) := by decide +kernel
theorem dX12_lays_14 : decode cX12_lays 14 = .ok (.aload_n 0, 1) := by decide +kernel
theorem dX12_lays_15 : decode cX12_lays 15 = .ok (.getfield 74, 3) := by decide +kernel
theorem dX12_lays_18 : decode cX12_lays 18 = .ok (.iload_n 3, 1) := by decide +kernel
theorem dX12_lays_19 : decode cX12_lays 19 = .ok (.iconst (-1), 1) := by decide +kernel
theorem dX12_lays_20 : decode cX12_lays 20 = .ok (.iastore, 1) := by decide +kernel
theorem dX12_lays_21 : decode cX12_lays 21 = .ok (.iinc 3 1, 3) := by decide +kernel
theorem dX12_lays_24 : decode cX12_lays 24 = .ok (.goto (-22), 3) := by decide +kernel
theorem dX12_lays_27 : decode cX12_lays 27 = .ok (.iconst 0, 1) := by decide +kernel
theorem dX12_lays_28 : decode cX12_lays 28 = .ok (.istore_n 3, 1) := by decide +kernel
theorem dX12_lays_29 : decode cX12_lays 29 = .ok (.iload_n 3, 1) := by decide +kernel
theorem dX12_lays_30 : decode cX12_lays 30 = .ok (.aload_n 0, 1) := by decide +kernel
theorem dX12_lays_31 : decode cX12_lays 31 = .ok (.getfield 26, 3) := by decide +kernel
theorem dX12_lays_34 : decode cX12_lays 34 = .ok (.iload_n 1, 1) := by decide +kernel
theorem dX12_lays_35 : decode cX12_lays 35 = .ok (.iaload, 1) := by decide +kernel
theorem dX12_lays_36 : decode cX12_lays 36 = .ok (.if_icmp .ge 159, 3) := by decide +kernel
theorem dX12_lays_39 : decode cX12_lays 39 = .ok (.bipush 30, 2) := by decide +kernel
theorem dX12_lays_41 : decode cX12_lays 41 = .ok (.iload_n 1, 1) := by decide +kernel
theorem dX12_lays_42 : decode cX12_lays 42 = .ok (.imul, 1) := by decide +kernel
theorem dX12_lays_43 : decode cX12_lays 43 = .ok (.iload_n 3, 1) := by decide +kernel
theorem dX12_lays_44 : decode cX12_lays 44 = .ok (.iadd, 1) := by decide +kernel
theorem dX12_lays_45 : decode cX12_lays 45 = .ok (.istore 4, 2) := by decide +kernel
theorem dX12_lays_47 : decode cX12_lays 47 = .ok (.aload_n 0, 1) := by decide +kernel
theorem dX12_lays_48 : decode cX12_lays 48 = .ok (.getfield 29, 3) := by decide +kernel
theorem dX12_lays_51 : decode cX12_lays 51 = .ok (.iload 4, 2) := by decide +kernel
theorem dX12_lays_53 : decode cX12_lays 53 = .ok (.iaload, 1) := by decide +kernel
theorem dX12_lays_54 : decode cX12_lays 54 = .ok (.istore 5, 2) := by decide +kernel
theorem dX12_lays_56 : decode cX12_lays 56 = .ok (.iload 5, 2) := by decide +kernel
theorem dX12_lays_58 : decode cX12_lays 58 = .ok (.iconst 3, 1) := by decide +kernel
theorem dX12_lays_59 : decode cX12_lays 59 = .ok (.if_icmp .eq 9, 3) := by decide +kernel
theorem dX12_lays_62 : decode cX12_lays 62 = .ok (.iload 5, 2) := by decide +kernel
theorem dX12_lays_64 : decode cX12_lays 64 = .ok (.iconst 4, 1) := by decide +kernel
theorem dX12_lays_65 : decode cX12_lays 65 = .ok (.if_icmp .ne 20, 3) := by decide +kernel
theorem dX12_lays_68 : decode cX12_lays 68 = .ok (.aload_n 0, 1) := by decide +kernel
theorem dX12_lays_69 : decode cX12_lays 69 = .ok (.getfield 71, 3) := by decide +kernel
theorem dX12_lays_72 : decode cX12_lays 72 = .ok (.aload_n 0, 1) := by decide +kernel
theorem dX12_lays_73 : decode cX12_lays 73 = .ok (.getfield 32, 3) := by decide +kernel
theorem dX12_lays_76 : decode cX12_lays 76 = .ok (.iload 4, 2) := by decide +kernel
theorem dX12_lays_78 : decode cX12_lays 78 = .ok (.iaload, 1) := by decide +kernel
theorem dX12_lays_79 : decode cX12_lays 79 = .ok (.invokestatic 248, 3) := by decide +kernel
theorem dX12_lays_82 : decode cX12_lays 82 = .ok (.goto 35, 3) := by decide +kernel
theorem dX12_lays_85 : decode cX12_lays 85 = .ok (.iload 5, 2) := by decide +kernel
theorem dX12_lays_87 : decode cX12_lays 87 = .ok (.bipush 6, 2) := by decide +kernel
theorem dX12_lays_89 : decode cX12_lays 89 = .ok (.if_icmp .eq 10, 3) := by decide +kernel
theorem dX12_lays_92 : decode cX12_lays 92 = .ok (.iload 5, 2) := by decide +kernel
theorem dX12_lays_94 : decode cX12_lays 94 = .ok (.bipush 7, 2) := by decide +kernel
theorem dX12_lays_96 : decode cX12_lays 96 = .ok (.if_icmp .ne 20, 3) := by decide +kernel
theorem dX12_lays_99 : decode cX12_lays 99 = .ok (.aload_n 0, 1) := by decide +kernel
theorem dX12_lays_100 : decode cX12_lays 100 = .ok (.getfield 74, 3) := by decide +kernel
theorem dX12_lays_103 : decode cX12_lays 103 = .ok (.aload_n 0, 1) := by decide +kernel
theorem dX12_lays_104 : decode cX12_lays 104 = .ok (.getfield 32, 3) := by decide +kernel
theorem dX12_lays_107 : decode cX12_lays 107 = .ok (.iload 4, 2) := by decide +kernel
theorem dX12_lays_109 : decode cX12_lays 109 = .ok (.iaload, 1) := by decide +kernel
theorem dX12_lays_110 : decode cX12_lays 110 = .ok (.invokestatic 248, 3) := by decide +kernel
theorem dX12_lays_113 : decode cX12_lays 113 = .ok (.goto 4, 3) := by decide +kernel
theorem dX12_lays_116 : decode cX12_lays 116 = .ok (.iconst 0, 1) := by decide +kernel
theorem dX12_lays_117 : decode cX12_lays 117 = .ok (.istore 6, 2) := by decide +kernel
theorem dX12_lays_119 : decode cX12_lays 119 = .ok (.aload_n 0, 1) := by decide +kernel
theorem dX12_lays_120 : decode cX12_lays 120 = .ok (.getfield 38, 3) := by decide +kernel
theorem dX12_lays_123 : decode cX12_lays 123 = .ok (.iload 4, 2) := by decide +kernel
theorem dX12_lays_125 : decode cX12_lays 125 = .ok (.baload, 1) := by decide +kernel
theorem dX12_lays_126 : decode cX12_lays 126 = .ok (.ifCond .eq 24, 3) := by decide +kernel
theorem dX12_lays_129 : decode cX12_lays 129 = .ok (.sipush 500, 3) := by decide +kernel
theorem dX12_lays_132 : decode cX12_lays 132 = .ok (.aload_n 0, 1) := by decide +kernel
theorem dX12_lays_133 : decode cX12_lays 133 = .ok (.getfield 71, 3) := by decide +kernel
theorem dX12_lays_136 : decode cX12_lays 136 = .ok (.aload_n 0, 1) := by decide +kernel
theorem dX12_lays_137 : decode cX12_lays 137 = .ok (.getfield 35, 3) := by decide +kernel
theorem dX12_lays_140 : decode cX12_lays 140 = .ok (.iload 4, 2) := by decide +kernel
theorem dX12_lays_142 : decode cX12_lays 142 = .ok (.iaload, 1) := by decide +kernel
theorem dX12_lays_143 : decode cX12_lays 143 = .ok (.invokestatic 248, 3) := by decide +kernel
theorem dX12_lays_146 : decode cX12_lays 146 = .ok (.iadd, 1) := by decide +kernel
theorem dX12_lays_147 : decode cX12_lays 147 = .ok (.goto 13, 3) := by decide +kernel
theorem dX12_lays_150 : decode cX12_lays 150 = .ok (.bipush 100, 2) := by decide +kernel
theorem dX12_lays_152 : decode cX12_lays 152 = .ok (.aload_n 0, 1) := by decide +kernel
theorem dX12_lays_153 : decode cX12_lays 153 = .ok (.getfield 35, 3) := by decide +kernel
theorem dX12_lays_156 : decode cX12_lays 156 = .ok (.iload 4, 2) := by decide +kernel
theorem dX12_lays_158 : decode cX12_lays 158 = .ok (.iaload, 1) := by decide +kernel
theorem dX12_lays_159 : decode cX12_lays 159 = .ok (.iadd, 1) := by decide +kernel
theorem dX12_lays_160 : decode cX12_lays 160 = .ok (.istore 7, 2) := by decide +kernel
theorem dX12_lays_162 : decode cX12_lays 162 = .ok (.aload_n 0, 1) := by decide +kernel
theorem dX12_lays_163 : decode cX12_lays 163 = .ok (.getfield 68, 3) := by decide +kernel
theorem dX12_lays_166 : decode cX12_lays 166 = .ok (.bipush 30, 2) := by decide +kernel
theorem dX12_lays_168 : decode cX12_lays 168 = .ok (.iload_n 2, 1) := by decide +kernel
theorem dX12_lays_169 : decode cX12_lays 169 = .ok (.imul, 1) := by decide +kernel
theorem dX12_lays_170 : decode cX12_lays 170 = .ok (.iload_n 3, 1) := by decide +kernel
theorem dX12_lays_171 : decode cX12_lays 171 = .ok (.iadd, 1) := by decide +kernel
theorem dX12_lays_172 : decode cX12_lays 172 = .ok (.sipush 10000, 3) := by decide +kernel
theorem dX12_lays_175 : decode cX12_lays 175 = .ok (.iload 5, 2) := by decide +kernel
theorem dX12_lays_177 : decode cX12_lays 177 = .ok (.imul, 1) := by decide +kernel
theorem dX12_lays_178 : decode cX12_lays 178 = .ok (.sipush 1000, 3) := by decide +kernel
theorem dX12_lays_181 : decode cX12_lays 181 = .ok (.iload 6, 2) := by decide +kernel
theorem dX12_lays_183 : decode cX12_lays 183 = .ok (.imul, 1) := by decide +kernel
theorem dX12_lays_184 : decode cX12_lays 184 = .ok (.iadd, 1) := by decide +kernel
theorem dX12_lays_185 : decode cX12_lays 185 = .ok (.iload 7, 2) := by decide +kernel
theorem dX12_lays_187 : decode cX12_lays 187 = .ok (.iadd, 1) := by decide +kernel
theorem dX12_lays_188 : decode cX12_lays 188 = .ok (.iastore, 1) := by decide +kernel
theorem dX12_lays_189 : decode cX12_lays 189 = .ok (.iinc 3 1, 3) := by decide +kernel
theorem dX12_lays_192 : decode cX12_lays 192 = .ok (.goto (-163), 3) := by decide +kernel
theorem dX12_lays_195 : decode cX12_lays 195 = .ok (.return_, 1) := by decide +kernel
theorem dX12_oneForm_0 : decode cX12_oneForm 0 = .ok (.aload_n 0, 1) := by decide +kernel
theorem dX12_oneForm_1 : decode cX12_oneForm 1 = .ok (.iload_n 1, 1) := by decide +kernel
theorem dX12_oneForm_2 : decode cX12_oneForm 2 = .ok (.iconst 0, 1) := by decide +kernel
theorem dX12_oneForm_3 : decode cX12_oneForm 3 = .ok (.invokevirtual 252, 3) := by decide +kernel
theorem dX12_oneForm_6 : decode cX12_oneForm 6 = .ok (.aload_n 0, 1) := by decide +kernel
theorem dX12_oneForm_7 : decode cX12_oneForm 7 = .ok (.iload_n 2, 1) := by decide +kernel
theorem dX12_oneForm_8 : decode cX12_oneForm 8 = .ok (.iconst 1, 1) := by decide +kernel
theorem dX12_oneForm_9 : decode cX12_oneForm 9 = .ok (.invokevirtual 252, 3) := by decide +kernel
theorem dX12_oneForm_12 : decode cX12_oneForm 12 = .ok (.aload_n 0, 1) := by decide +kernel
theorem dX12_oneForm_13 : decode cX12_oneForm 13 = .ok (.getfield 26, 3) := by decide +kernel
theorem dX12_oneForm_16 : decode cX12_oneForm 16 = .ok (.iload_n 1, 1) := by decide +kernel
theorem dX12_oneForm_17 : decode cX12_oneForm 17 = .ok (.iaload, 1) := by decide +kernel
theorem dX12_oneForm_18 : decode cX12_oneForm 18 = .ok (.aload_n 0, 1) := by decide +kernel
theorem dX12_oneForm_19 : decode cX12_oneForm 19 = .ok (.getfield 26, 3) := by decide +kernel
theorem dX12_oneForm_22 : decode cX12_oneForm 22 = .ok (.iload_n 2, 1) := by decide +kernel
theorem dX12_oneForm_23 : decode cX12_oneForm 23 = .ok (.iaload, 1) := by decide +kernel
theorem dX12_oneForm_24 : decode cX12_oneForm 24 = .ok (.if_icmp .ne 7, 3) := by decide +kernel
theorem dX12_oneForm_27 : decode cX12_oneForm 27 = .ok (.iconst 1, 1) := by decide +kernel
theorem dX12_oneForm_28 : decode cX12_oneForm 28 = .ok (.goto 4, 3) := by decide +kernel
theorem dX12_oneForm_31 : decode cX12_oneForm 31 = .ok (.iconst 0, 1) := by decide +kernel
theorem dX12_oneForm_32 : decode cX12_oneForm 32 = .ok (.istore_n 3, 1) := by decide +kernel
theorem dX12_oneForm_33 : decode cX12_oneForm 33 = .ok (.iconst 0, 1) := by decide +kernel
theorem dX12_oneForm_34 : decode cX12_oneForm 34 = .ok (.istore 4, 2) := by decide +kernel
theorem dX12_oneForm_36 : decode cX12_oneForm 36 = .ok (.iload 4, 2) := by decide +kernel
theorem dX12_oneForm_38 : decode cX12_oneForm 38 = .ok (.aload_n 0, 1) := by decide +kernel
theorem dX12_oneForm_39 : decode cX12_oneForm 39 = .ok (.getfield 26, 3) := by decide +kernel
theorem dX12_oneForm_42 : decode cX12_oneForm 42 = .ok (.iload_n 1, 1) := by decide +kernel
theorem dX12_oneForm_43 : decode cX12_oneForm 43 = .ok (.iaload, 1) := by decide +kernel
theorem dX12_oneForm_44 : decode cX12_oneForm 44 = .ok (.if_icmp .ge 39, 3) := by decide +kernel
theorem dX12_oneForm_47 : decode cX12_oneForm 47 = .ok (.iload_n 3, 1) := by decide +kernel
theorem dX12_oneForm_48 : decode cX12_oneForm 48 = .ok (.ifCond .eq 27, 3) := by decide +kernel
theorem dX12_oneForm_51 : decode cX12_oneForm 51 = .ok (.aload_n 0, 1) := by decide +kernel
theorem dX12_oneForm_52 : decode cX12_oneForm 52 = .ok (.getfield 68, 3) := by decide +kernel
theorem dX12_oneForm_55 : decode cX12_oneForm 55 = .ok (.iload 4, 2) := by decide +kernel
theorem dX12_oneForm_57 : decode cX12_oneForm 57 = .ok (.iaload, 1) := by decide +kernel
theorem dX12_oneForm_58 : decode cX12_oneForm 58 = .ok (.aload_n 0, 1) := by decide +kernel
theorem dX12_oneForm_59 : decode cX12_oneForm 59 = .ok (.getfield 68, 3) := by decide +kernel
theorem dX12_oneForm_62 : decode cX12_oneForm 62 = .ok (.bipush 30, 2) := by decide +kernel
theorem dX12_oneForm_64 : decode cX12_oneForm 64 = .ok (.iload 4, 2) := by decide +kernel
theorem dX12_oneForm_66 : decode cX12_oneForm 66 = .ok (.iadd, 1) := by decide +kernel
theorem dX12_oneForm_67 : decode cX12_oneForm 67 = .ok (.iaload, 1) := by decide +kernel
theorem dX12_oneForm_68 : decode cX12_oneForm 68 = .ok (.if_icmp .ne 7, 3) := by decide +kernel
theorem dX12_oneForm_71 : decode cX12_oneForm 71 = .ok (.iconst 1, 1) := by decide +kernel
theorem dX12_oneForm_72 : decode cX12_oneForm 72 = .ok (.goto 4, 3) := by decide +kernel
theorem dX12_oneForm_75 : decode cX12_oneForm 75 = .ok (.iconst 0, 1) := by decide +kernel
theorem dX12_oneForm_76 : decode cX12_oneForm 76 = .ok (.istore_n 3, 1) := by decide +kernel
theorem dX12_oneForm_77 : decode cX12_oneForm 77 = .ok (.iinc 4 1, 3) := by decide +kernel
theorem dX12_oneForm_80 : decode cX12_oneForm 80 = .ok (.goto (-44), 3) := by decide +kernel
theorem dX12_oneForm_83 : decode cX12_oneForm 83 = .ok (.iload_n 3, 1) := by decide +kernel
theorem dX12_oneForm_84 : decode cX12_oneForm 84 = .ok (.ireturn, 1) := by decide +kernel
theorem dX12_longestRow_0 : decode cX12_longestRow 0 = .ok (.aload_n 0, 1) := by decide +kernel
theorem dX12_longestRow_1 : decode cX12_longestRow 1 = .ok (.iload_n 1, 1) := by decide +kernel
theorem dX12_longestRow_2 : decode cX12_longestRow 2 = .ok (.iconst 0, 1) := by decide +kernel
theorem dX12_longestRow_3 : decode cX12_longestRow 3 = .ok (.invokevirtual 252, 3) := by decide +kernel
theorem dX12_longestRow_6 : decode cX12_longestRow 6 = .ok (.aload_n 0, 1) := by decide +kernel
theorem dX12_longestRow_7 : decode cX12_longestRow 7 = .ok (.iload_n 2, 1) := by decide +kernel
theorem dX12_longestRow_8 : decode cX12_longestRow 8 = .ok (.iconst 1, 1) := by decide +kernel
theorem dX12_longestRow_9 : decode cX12_longestRow 9 = .ok (.invokevirtual 252, 3) := by decide +kernel
theorem dX12_longestRow_12 : decode cX12_longestRow 12 = .ok (.iconst 0, 1) := by decide +kernel
theorem dX12_longestRow_13 : decode cX12_longestRow 13 = .ok (.istore_n 3, 1) := by decide +kernel
theorem dX12_longestRow_14 : decode cX12_longestRow 14 = .ok (.iload_n 3, 1) := by decide +kernel
theorem dX12_longestRow_15 : decode cX12_longestRow 15 = .ok (.sipush 961, 3) := by decide +kernel
theorem dX12_longestRow_18 : decode cX12_longestRow 18 = .ok (.if_icmp .ge 16, 3) := by decide +kernel
theorem dX12_longestRow_21 : decode cX12_longestRow 21 = .ok (.aload_n 0, 1) := by decide +kernel
theorem dX12_longestRow_22 : decode cX12_longestRow 22 = .ok (.getfield 77, 3) := by decide +kernel
theorem dX12_longestRow_25 : decode cX12_longestRow 25 = .ok (.iload_n 3, 1) := by decide +kernel
theorem dX12_longestRow_26 : decode cX12_longestRow 26 = .ok (.iconst 0, 1) := by decide +kernel
theorem dX12_longestRow_27 : decode cX12_longestRow 27 = .ok (.iastore, 1) := by decide +kernel
theorem dX12_longestRow_28 : decode cX12_longestRow 28 = .ok (.iinc 3 1, 3) := by decide +kernel
theorem dX12_longestRow_31 : decode cX12_longestRow 31 = .ok (.goto (-17), 3) := by decide +kernel
theorem dX12_longestRow_34 : decode cX12_longestRow 34 = .ok (.iconst 0, 1) := by decide +kernel
theorem dX12_longestRow_35 : decode cX12_longestRow 35 = .ok (.istore_n 3, 1) := by decide +kernel
theorem dX12_longestRow_36 : decode cX12_longestRow 36 = .ok (.iload_n 3, 1) := by decide +kernel
theorem dX12_longestRow_37 : decode cX12_longestRow 37 = .ok (.aload_n 0, 1) := by decide +kernel
theorem dX12_longestRow_38 : decode cX12_longestRow 38 = .ok (.getfield 26, 3) := by decide +kernel
theorem dX12_longestRow_41 : decode cX12_longestRow 41 = .ok (.iload_n 1, 1) := by decide +kernel
theorem dX12_longestRow_42 : decode cX12_longestRow 42 = .ok (.iaload, 1) := by decide +kernel
theorem dX12_longestRow_43 : decode cX12_longestRow 43 = .ok (.if_icmp .ge 147, 3) := by decide +kernel
theorem dX12_longestRow_46 : decode cX12_longestRow 46 = .ok (.iconst 0, 1) := by decide +kernel
theorem dX12_longestRow_47 : decode cX12_longestRow 47 = .ok (.istore 4, 2) := by decide +kernel
theorem dX12_longestRow_49 : decode cX12_longestRow 49 = .ok (.iload 4, 2) := by decide +kernel
theorem dX12_longestRow_51 : decode cX12_longestRow 51 = .ok (.aload_n 0, 1) := by decide +kernel
theorem dX12_longestRow_52 : decode cX12_longestRow 52 = .ok (.getfield 26, 3) := by decide +kernel
theorem dX12_longestRow_55 : decode cX12_longestRow 55 = .ok (.iload_n 2, 1) := by decide +kernel
theorem dX12_longestRow_56 : decode cX12_longestRow 56 = .ok (.iaload, 1) := by decide +kernel
theorem dX12_longestRow_57 : decode cX12_longestRow 57 = .ok (.if_icmp .ge 127, 3) := by decide +kernel
theorem dX12_longestRow_60 : decode cX12_longestRow 60 = .ok (.aload_n 0, 1) := by decide +kernel
theorem dX12_longestRow_61 : decode cX12_longestRow 61 = .ok (.getfield 77, 3) := by decide +kernel
theorem dX12_longestRow_64 : decode cX12_longestRow 64 = .ok (.bipush 31, 2) := by decide +kernel
theorem dX12_longestRow_66 : decode cX12_longestRow 66 = .ok (.iload_n 3, 1) := by decide +kernel
theorem dX12_longestRow_67 : decode cX12_longestRow 67 = .ok (.imul, 1) := by decide +kernel
theorem dX12_longestRow_68 : decode cX12_longestRow 68 = .ok (.iload 4, 2) := by decide +kernel
theorem dX12_longestRow_70 : decode cX12_longestRow 70 = .ok (.iadd, 1) := by decide +kernel
theorem dX12_longestRow_71 : decode cX12_longestRow 71 = .ok (.iconst 1, 1) := by decide +kernel
theorem dX12_longestRow_72 : decode cX12_longestRow 72 = .ok (.iadd, 1) := by decide +kernel
theorem dX12_longestRow_73 : decode cX12_longestRow 73 = .ok (.iaload, 1) := by decide +kernel
theorem dX12_longestRow_74 : decode cX12_longestRow 74 = .ok (.aload_n 0, 1) := by decide +kernel
theorem dX12_longestRow_75 : decode cX12_longestRow 75 = .ok (.getfield 77, 3) := by decide +kernel
theorem dX12_longestRow_78 : decode cX12_longestRow 78 = .ok (.bipush 31, 2) := by decide +kernel
theorem dX12_longestRow_80 : decode cX12_longestRow 80 = .ok (.iload_n 3, 1) := by decide +kernel
theorem dX12_longestRow_81 : decode cX12_longestRow 81 = .ok (.iconst 1, 1) := by decide +kernel
theorem dX12_longestRow_82 : decode cX12_longestRow 82 = .ok (.iadd, 1) := by decide +kernel
theorem dX12_longestRow_83 : decode cX12_longestRow 83 = .ok (.imul, 1) := by decide +kernel
theorem dX12_longestRow_84 : decode cX12_longestRow 84 = .ok (.iload 4, 2) := by decide +kernel
theorem dX12_longestRow_86 : decode cX12_longestRow 86 = .ok (.iadd, 1) := by decide +kernel
theorem dX12_longestRow_87 : decode cX12_longestRow 87 = .ok (.iaload, 1) := by decide +kernel
theorem dX12_longestRow_88 : decode cX12_longestRow 88 = .ok (.if_icmp .le 20, 3) := by decide +kernel
theorem dX12_longestRow_91 : decode cX12_longestRow 91 = .ok (.aload_n 0, 1) := by decide +kernel
theorem dX12_longestRow_92 : decode cX12_longestRow 92 = .ok (.getfield 77, 3) := by decide +kernel
theorem dX12_longestRow_95 : decode cX12_longestRow 95 = .ok (.bipush 31, 2) := by decide +kernel
theorem dX12_longestRow_97 : decode cX12_longestRow 97 = .ok (.iload_n 3, 1) := by decide +kernel
theorem dX12_longestRow_98 : decode cX12_longestRow 98 = .ok (.imul, 1) := by decide +kernel
theorem dX12_longestRow_99 : decode cX12_longestRow 99 = .ok (.iload 4, 2) := by decide +kernel
theorem dX12_longestRow_101 : decode cX12_longestRow 101 = .ok (.iadd, 1) := by decide +kernel
theorem dX12_longestRow_102 : decode cX12_longestRow 102 = .ok (.iconst 1, 1) := by decide +kernel
theorem dX12_longestRow_103 : decode cX12_longestRow 103 = .ok (.iadd, 1) := by decide +kernel
theorem dX12_longestRow_104 : decode cX12_longestRow 104 = .ok (.iaload, 1) := by decide +kernel
theorem dX12_longestRow_105 : decode cX12_longestRow 105 = .ok (.goto 17, 3) := by decide +kernel
theorem dX12_longestRow_108 : decode cX12_longestRow 108 = .ok (.aload_n 0, 1) := by decide +kernel
theorem dX12_longestRow_109 : decode cX12_longestRow 109 = .ok (.getfield 77, 3) := by decide +kernel
theorem dX12_longestRow_112 : decode cX12_longestRow 112 = .ok (.bipush 31, 2) := by decide +kernel
theorem dX12_longestRow_114 : decode cX12_longestRow 114 = .ok (.iload_n 3, 1) := by decide +kernel
theorem dX12_longestRow_115 : decode cX12_longestRow 115 = .ok (.iconst 1, 1) := by decide +kernel
theorem dX12_longestRow_116 : decode cX12_longestRow 116 = .ok (.iadd, 1) := by decide +kernel
theorem dX12_longestRow_117 : decode cX12_longestRow 117 = .ok (.imul, 1) := by decide +kernel
theorem dX12_longestRow_118 : decode cX12_longestRow 118 = .ok (.iload 4, 2) := by decide +kernel
theorem dX12_longestRow_120 : decode cX12_longestRow 120 = .ok (.iadd, 1) := by decide +kernel
theorem dX12_longestRow_121 : decode cX12_longestRow 121 = .ok (.iaload, 1) := by decide +kernel
theorem dX12_longestRow_122 : decode cX12_longestRow 122 = .ok (.istore 5, 2) := by decide +kernel
theorem dX12_longestRow_124 : decode cX12_longestRow 124 = .ok (.aload_n 0, 1) := by decide +kernel
theorem dX12_longestRow_125 : decode cX12_longestRow 125 = .ok (.getfield 77, 3) := by decide +kernel
theorem dX12_longestRow_128 : decode cX12_longestRow 128 = .ok (.bipush 31, 2) := by decide +kernel
theorem dX12_longestRow_130 : decode cX12_longestRow 130 = .ok (.iload_n 3, 1) := by decide +kernel
theorem dX12_longestRow_131 : decode cX12_longestRow 131 = .ok (.iconst 1, 1) := by decide +kernel
theorem dX12_longestRow_132 : decode cX12_longestRow 132 = .ok (.iadd, 1) := by decide +kernel
theorem dX12_longestRow_133 : decode cX12_longestRow 133 = .ok (.imul, 1) := by decide +kernel
theorem dX12_longestRow_134 : decode cX12_longestRow 134 = .ok (.iload 4, 2) := by decide +kernel
theorem dX12_longestRow_136 : decode cX12_longestRow 136 = .ok (.iadd, 1) := by decide +kernel
theorem dX12_longestRow_137 : decode cX12_longestRow 137 = .ok (.iconst 1, 1) := by decide +kernel
theorem dX12_longestRow_138 : decode cX12_longestRow 138 = .ok (.iadd, 1) := by decide +kernel
theorem dX12_longestRow_139 : decode cX12_longestRow 139 = .ok (.aload_n 0, 1) := by decide +kernel
theorem dX12_longestRow_140 : decode cX12_longestRow 140 = .ok (.getfield 68, 3) := by decide +kernel
theorem dX12_longestRow_143 : decode cX12_longestRow 143 = .ok (.iload_n 3, 1) := by decide +kernel
theorem dX12_longestRow_144 : decode cX12_longestRow 144 = .ok (.iaload, 1) := by decide +kernel
theorem dX12_longestRow_145 : decode cX12_longestRow 145 = .ok (.aload_n 0, 1) := by decide +kernel
theorem dX12_longestRow_146 : decode cX12_longestRow 146 = .ok (.getfield 68, 3) := by decide +kernel
theorem dX12_longestRow_149 : decode cX12_longestRow 149 = .ok (.bipush 30, 2) := by decide +kernel
theorem dX12_longestRow_151 : decode cX12_longestRow 151 = .ok (.iload 4, 2) := by decide +kernel
theorem dX12_longestRow_153 : decode cX12_longestRow 153 = .ok (.iadd, 1) := by decide +kernel
theorem dX12_longestRow_154 : decode cX12_longestRow 154 = .ok (.iaload, 1) := by decide +kernel
theorem dX12_longestRow_155 : decode cX12_longestRow 155 = .ok (.if_icmp .ne 20, 3) := by decide +kernel
theorem dX12_longestRow_158 : decode cX12_longestRow 158 = .ok (.aload_n 0, 1) := by decide +kernel
theorem dX12_longestRow_159 : decode cX12_longestRow 159 = .ok (.getfield 77, 3) := by decide +kernel
theorem dX12_longestRow_162 : decode cX12_longestRow 162 = .ok (.bipush 31, 2) := by decide +kernel
theorem dX12_longestRow_164 : decode cX12_longestRow 164 = .ok (.iload_n 3, 1) := by decide +kernel
theorem dX12_longestRow_165 : decode cX12_longestRow 165 = .ok (.imul, 1) := by decide +kernel
theorem dX12_longestRow_166 : decode cX12_longestRow 166 = .ok (.iload 4, 2) := by decide +kernel
theorem dX12_longestRow_168 : decode cX12_longestRow 168 = .ok (.iadd, 1) := by decide +kernel
theorem dX12_longestRow_169 : decode cX12_longestRow 169 = .ok (.iaload, 1) := by decide +kernel
theorem dX12_longestRow_170 : decode cX12_longestRow 170 = .ok (.iconst 1, 1) := by decide +kernel
theorem dX12_longestRow_171 : decode cX12_longestRow 171 = .ok (.iadd, 1) := by decide +kernel
theorem dX12_longestRow_172 : decode cX12_longestRow 172 = .ok (.goto 5, 3) := by decide +kernel
theorem dX12_longestRow_175 : decode cX12_longestRow 175 = .ok (.iload 5, 2) := by decide +kernel
theorem dX12_longestRow_177 : decode cX12_longestRow 177 = .ok (.iastore, 1) := by decide +kernel
theorem dX12_longestRow_178 : decode cX12_longestRow 178 = .ok (.iinc 4 1, 3) := by decide +kernel
theorem dX12_longestRow_181 : decode cX12_longestRow 181 = .ok (.goto (-132), 3) := by decide +kernel
theorem dX12_longestRow_184 : decode cX12_longestRow 184 = .ok (.iinc 3 1, 3) := by decide +kernel
theorem dX12_longestRow_187 : decode cX12_longestRow 187 = .ok (.goto (-151), 3) := by decide +kernel
theorem dX12_longestRow_190 : decode cX12_longestRow 190 = .ok (.aload_n 0, 1) := by decide +kernel
theorem dX12_longestRow_191 : decode cX12_longestRow 191 = .ok (.getfield 77, 3) := by decide +kernel
theorem dX12_longestRow_194 : decode cX12_longestRow 194 = .ok (.bipush 31, 2) := by decide +kernel
theorem dX12_longestRow_196 : decode cX12_longestRow 196 = .ok (.aload_n 0, 1) := by decide +kernel
theorem dX12_longestRow_197 : decode cX12_longestRow 197 = .ok (.getfield 26, 3) := by decide +kernel
theorem dX12_longestRow_200 : decode cX12_longestRow 200 = .ok (.iload_n 1, 1) := by decide +kernel
theorem dX12_longestRow_201 : decode cX12_longestRow 201 = .ok (.iaload, 1) := by decide +kernel
theorem dX12_longestRow_202 : decode cX12_longestRow 202 = .ok (.imul, 1) := by decide +kernel
theorem dX12_longestRow_203 : decode cX12_longestRow 203 = .ok (.aload_n 0, 1) := by decide +kernel
theorem dX12_longestRow_204 : decode cX12_longestRow 204 = .ok (.getfield 26, 3) := by decide +kernel
theorem dX12_longestRow_207 : decode cX12_longestRow 207 = .ok (.iload_n 2, 1) := by decide +kernel
theorem dX12_longestRow_208 : decode cX12_longestRow 208 = .ok (.iaload, 1) := by decide +kernel
theorem dX12_longestRow_209 : decode cX12_longestRow 209 = .ok (.iadd, 1) := by decide +kernel
theorem dX12_longestRow_210 : decode cX12_longestRow 210 = .ok (.iaload, 1) := by decide +kernel
theorem dX12_longestRow_211 : decode cX12_longestRow 211 = .ok (.ireturn, 1) := by decide +kernel
theorem dX12_doesMeet_0 : decode cX12_doesMeet 0 = .ok (.aload_n 0, 1) := by decide +kernel
theorem dX12_doesMeet_1 : decode cX12_doesMeet 1 = .ok (.getfield 89, 3) := by decide +kernel
theorem dX12_doesMeet_4 : decode cX12_doesMeet 4 = .ok (.iload_n 1, 1) := by decide +kernel
theorem dX12_doesMeet_5 : decode cX12_doesMeet 5 = .ok (.iaload, 1) := by decide +kernel
theorem dX12_doesMeet_6 : decode cX12_doesMeet 6 = .ok (.istore_n 2, 1) := by decide +kernel
theorem dX12_doesMeet_7 : decode cX12_doesMeet 7 = .ok (.aload_n 0, 1) := by decide +kernel
theorem dX12_doesMeet_8 : decode cX12_doesMeet 8 = .ok (.getfield 92, 3) := by decide +kernel
theorem dX12_doesMeet_11 : decode cX12_doesMeet 11 = .ok (.iload_n 1, 1) := by decide +kernel
theorem dX12_doesMeet_12 : decode cX12_doesMeet 12 = .ok (.iaload, 1) := by decide +kernel
theorem dX12_doesMeet_13 : decode cX12_doesMeet 13 = .ok (.istore_n 3, 1) := by decide +kernel
theorem dX12_doesMeet_14 : decode cX12_doesMeet 14 = .ok (.aload_n 0, 1) := by decide +kernel
theorem dX12_doesMeet_15 : decode cX12_doesMeet 15 = .ok (.getfield 41, 3) := by decide +kernel
theorem dX12_doesMeet_18 : decode cX12_doesMeet 18 = .ok (.iload_n 2, 1) := by decide +kernel
theorem dX12_doesMeet_19 : decode cX12_doesMeet 19 = .ok (.iaload, 1) := by decide +kernel
theorem dX12_doesMeet_20 : decode cX12_doesMeet 20 = .ok (.ifCond .ne 37, 3) := by decide +kernel
theorem dX12_doesMeet_23 : decode cX12_doesMeet 23 = .ok (.aload_n 0, 1) := by decide +kernel
theorem dX12_doesMeet_24 : decode cX12_doesMeet 24 = .ok (.getfield 26, 3) := by decide +kernel
theorem dX12_doesMeet_27 : decode cX12_doesMeet 27 = .ok (.iload_n 2, 1) := by decide +kernel
theorem dX12_doesMeet_28 : decode cX12_doesMeet 28 = .ok (.iaload, 1) := by decide +kernel
theorem dX12_doesMeet_29 : decode cX12_doesMeet 29 = .ok (.aload_n 0, 1) := by decide +kernel
theorem dX12_doesMeet_30 : decode cX12_doesMeet 30 = .ok (.getfield 83, 3) := by decide +kernel
theorem dX12_doesMeet_33 : decode cX12_doesMeet 33 = .ok (.iload_n 3, 1) := by decide +kernel
theorem dX12_doesMeet_34 : decode cX12_doesMeet 34 = .ok (.iaload, 1) := by decide +kernel
theorem dX12_doesMeet_35 : decode cX12_doesMeet 35 = .ok (.if_icmp .gt 22, 3) := by decide +kernel
theorem dX12_doesMeet_38 : decode cX12_doesMeet 38 = .ok (.aload_n 0, 1) := by decide +kernel
theorem dX12_doesMeet_39 : decode cX12_doesMeet 39 = .ok (.getfield 44, 3) := by decide +kernel
theorem dX12_doesMeet_42 : decode cX12_doesMeet 42 = .ok (.iload_n 2, 1) := by decide +kernel
theorem dX12_doesMeet_43 : decode cX12_doesMeet 43 = .ok (.iaload, 1) := by decide +kernel
theorem dX12_doesMeet_44 : decode cX12_doesMeet 44 = .ok (.aload_n 0, 1) := by decide +kernel
theorem dX12_doesMeet_45 : decode cX12_doesMeet 45 = .ok (.getfield 86, 3) := by decide +kernel
theorem dX12_doesMeet_48 : decode cX12_doesMeet 48 = .ok (.iload_n 3, 1) := by decide +kernel
theorem dX12_doesMeet_49 : decode cX12_doesMeet 49 = .ok (.iaload, 1) := by decide +kernel
theorem dX12_doesMeet_50 : decode cX12_doesMeet 50 = .ok (.if_icmp .gt 7, 3) := by decide +kernel
theorem dX12_doesMeet_53 : decode cX12_doesMeet 53 = .ok (.iconst 1, 1) := by decide +kernel
theorem dX12_doesMeet_54 : decode cX12_doesMeet 54 = .ok (.goto 4, 3) := by decide +kernel
theorem dX12_doesMeet_57 : decode cX12_doesMeet 57 = .ok (.iconst 0, 1) := by decide +kernel
theorem dX12_doesMeet_58 : decode cX12_doesMeet 58 = .ok (.istore 4, 2) := by decide +kernel
theorem dX12_doesMeet_60 : decode cX12_doesMeet 60 = .ok (.iload 4, 2) := by decide +kernel
theorem dX12_doesMeet_62 : decode cX12_doesMeet 62 = .ok (.ifCond .eq 21, 3) := by decide +kernel
theorem dX12_doesMeet_65 : decode cX12_doesMeet 65 = .ok (.aload_n 0, 1) := by decide +kernel
theorem dX12_doesMeet_66 : decode cX12_doesMeet 66 = .ok (.iload_n 2, 1) := by decide +kernel
theorem dX12_doesMeet_67 : decode cX12_doesMeet 67 = .ok (.aload_n 0, 1) := by decide +kernel
theorem dX12_doesMeet_68 : decode cX12_doesMeet 68 = .ok (.getfield 80, 3) := by decide +kernel
theorem dX12_doesMeet_71 : decode cX12_doesMeet 71 = .ok (.iload_n 3, 1) := by decide +kernel
theorem dX12_doesMeet_72 : decode cX12_doesMeet 72 = .ok (.iaload, 1) := by decide +kernel
theorem dX12_doesMeet_73 : decode cX12_doesMeet 73 = .ok (.invokevirtual 255, 3) := by decide +kernel
theorem dX12_doesMeet_76 : decode cX12_doesMeet 76 = .ok (.ifCond .eq 7, 3) := by decide +kernel
theorem dX12_doesMeet_79 : decode cX12_doesMeet 79 = .ok (.iconst 1, 1) := by decide +kernel
theorem dX12_doesMeet_80 : decode cX12_doesMeet 80 = .ok (.goto 4, 3) := by decide +kernel
theorem dX12_doesMeet_83 : decode cX12_doesMeet 83 = .ok (.iconst 0, 1) := by decide +kernel
theorem dX12_doesMeet_84 : decode cX12_doesMeet 84 = .ok (.ireturn, 1) := by decide +kernel
theorem dX12_copied_0 : decode cX12_copied 0 = .ok (.iconst (-1), 1) := by decide +kernel
theorem dX12_copied_1 : decode cX12_copied 1 = .ok (.istore_n 2, 1) := by decide +kernel
theorem dX12_copied_2 : decode cX12_copied 2 = .ok (.iload_n 1, 1) := by decide +kernel
theorem dX12_copied_3 : decode cX12_copied 3 = .ok (.iconst 1, 1) := by decide +kernel
theorem dX12_copied_4 : decode cX12_copied 4 = .ok (.isub, 1) := by decide +kernel
theorem dX12_copied_5 : decode cX12_copied 5 = .ok (.istore_n 3, 1) := by decide +kernel
theorem dX12_copied_6 : decode cX12_copied 6 = .ok (.iload_n 3, 1) := by decide +kernel
theorem dX12_copied_7 : decode cX12_copied 7 = .ok (.ifCond .lt 86, 3) := by decide +kernel
theorem dX12_copied_10 : decode cX12_copied 10 = .ok (.aload_n 0, 1) := by decide +kernel
theorem dX12_copied_11 : decode cX12_copied 11 = .ok (.getfield 92, 3) := by decide +kernel
theorem dX12_copied_14 : decode cX12_copied 14 = .ok (.iload_n 3, 1) := by decide +kernel
theorem dX12_copied_15 : decode cX12_copied 15 = .ok (.iaload, 1) := by decide +kernel
theorem dX12_copied_16 : decode cX12_copied 16 = .ok (.aload_n 0, 1) := by decide +kernel
theorem dX12_copied_17 : decode cX12_copied 17 = .ok (.getfield 92, 3) := by decide +kernel
theorem dX12_copied_20 : decode cX12_copied 20 = .ok (.iload_n 1, 1) := by decide +kernel
theorem dX12_copied_21 : decode cX12_copied 21 = .ok (.iaload, 1) := by decide +kernel
theorem dX12_copied_22 : decode cX12_copied 22 = .ok (.if_icmp .ne 32, 3) := by decide +kernel
theorem dX12_copied_25 : decode cX12_copied 25 = .ok (.aload_n 0, 1) := by decide +kernel
theorem dX12_copied_26 : decode cX12_copied 26 = .ok (.getfield 23, 3) := by decide +kernel
theorem dX12_copied_29 : decode cX12_copied 29 = .ok (.aload_n 0, 1) := by decide +kernel
theorem dX12_copied_30 : decode cX12_copied 30 = .ok (.getfield 89, 3) := by decide +kernel
theorem dX12_copied_33 : decode cX12_copied 33 = .ok (.iload_n 3, 1) := by decide +kernel
theorem dX12_copied_34 : decode cX12_copied 34 = .ok (.iaload, 1) := by decide +kernel
theorem dX12_copied_35 : decode cX12_copied 35 = .ok (.iaload, 1) := by decide +kernel
theorem dX12_copied_36 : decode cX12_copied 36 = .ok (.aload_n 0, 1) := by decide +kernel
theorem dX12_copied_37 : decode cX12_copied 37 = .ok (.getfield 23, 3) := by decide +kernel
theorem dX12_copied_40 : decode cX12_copied 40 = .ok (.aload_n 0, 1) := by decide +kernel
theorem dX12_copied_41 : decode cX12_copied 41 = .ok (.getfield 89, 3) := by decide +kernel
theorem dX12_copied_44 : decode cX12_copied 44 = .ok (.iload_n 1, 1) := by decide +kernel
theorem dX12_copied_45 : decode cX12_copied 45 = .ok (.iaload, 1) := by decide +kernel
theorem dX12_copied_46 : decode cX12_copied 46 = .ok (.iaload, 1) := by decide +kernel
theorem dX12_copied_47 : decode cX12_copied 47 = .ok (.if_icmp .eq 7, 3) := by decide +kernel
theorem dX12_copied_50 : decode cX12_copied 50 = .ok (.iconst 1, 1) := by decide +kernel
theorem dX12_copied_51 : decode cX12_copied 51 = .ok (.goto 4, 3) := by decide +kernel
theorem dX12_copied_54 : decode cX12_copied 54 = .ok (.iconst 0, 1) := by decide +kernel
theorem dX12_copied_55 : decode cX12_copied 55 = .ok (.istore 4, 2) := by decide +kernel
theorem dX12_copied_57 : decode cX12_copied 57 = .ok (.iload 4, 2) := by decide +kernel
theorem dX12_copied_59 : decode cX12_copied 59 = .ok (.ifCond .eq 26, 3) := by decide +kernel
theorem dX12_copied_62 : decode cX12_copied 62 = .ok (.aload_n 0, 1) := by decide +kernel
theorem dX12_copied_63 : decode cX12_copied 63 = .ok (.aload_n 0, 1) := by decide +kernel
theorem dX12_copied_64 : decode cX12_copied 64 = .ok (.getfield 89, 3) := by decide +kernel
theorem dX12_copied_67 : decode cX12_copied 67 = .ok (.iload_n 3, 1) := by decide +kernel
theorem dX12_copied_68 : decode cX12_copied 68 = .ok (.iaload, 1) := by decide +kernel
theorem dX12_copied_69 : decode cX12_copied 69 = .ok (.aload_n 0, 1) := by decide +kernel
theorem dX12_copied_70 : decode cX12_copied 70 = .ok (.getfield 89, 3) := by decide +kernel
theorem dX12_copied_73 : decode cX12_copied 73 = .ok (.iload_n 1, 1) := by decide +kernel
theorem dX12_copied_74 : decode cX12_copied 74 = .ok (.iaload, 1) := by decide +kernel
theorem dX12_copied_75 : decode cX12_copied 75 = .ok (.invokevirtual 258, 3) := by decide +kernel
theorem dX12_copied_78 : decode cX12_copied 78 = .ok (.ifCond .eq 7, 3) := by decide +kernel
theorem dX12_copied_81 : decode cX12_copied 81 = .ok (.iload_n 3, 1) := by decide +kernel
theorem dX12_copied_82 : decode cX12_copied 82 = .ok (.goto 4, 3) := by decide +kernel
theorem dX12_copied_85 : decode cX12_copied 85 = .ok (.iload_n 2, 1) := by decide +kernel
theorem dX12_copied_86 : decode cX12_copied 86 = .ok (.istore_n 2, 1) := by decide +kernel
theorem dX12_copied_87 : decode cX12_copied 87 = .ok (.iinc 3 (-1), 3) := by decide +kernel
theorem dX12_copied_90 : decode cX12_copied 90 = .ok (.goto (-84), 3) := by decide +kernel
theorem dX12_copied_93 : decode cX12_copied 93 = .ok (.iload_n 2, 1) := by decide +kernel
theorem dX12_copied_94 : decode cX12_copied 94 = .ok (.ireturn, 1) := by decide +kernel
theorem dX12_isFree_0 : decode cX12_isFree 0 = .ok (.lconst 1, 1) := by decide +kernel
theorem dX12_isFree_1 : decode cX12_isFree 1 = .ok (.iload_n 3, 1) := by decide +kernel
theorem dX12_isFree_2 : decode cX12_isFree 2 = .ok (.lshl, 1) := by decide +kernel
theorem dX12_isFree_3 : decode cX12_isFree 3 = .ok (.lconst 1, 1) := by decide +kernel
theorem dX12_isFree_4 : decode cX12_isFree 4 = .ok (.lsub, 1) := by decide +kernel
theorem dX12_isFree_5 : decode cX12_isFree 5 = .ok (.iload_n 1, 1) := by decide +kernel
theorem dX12_isFree_6 : decode cX12_isFree 6 = .ok (.lshl, 1) := by decide +kernel
theorem dX12_isFree_7 : decode cX12_isFree 7 = .ok (.lstore 5, 2) := by decide +kernel
theorem dX12_isFree_9 : decode cX12_isFree 9 = .ok (.iload_n 1, 1) := by decide +kernel
theorem dX12_isFree_10 : decode cX12_isFree 10 = .ok (.iload_n 3, 1) := by decide +kernel
theorem dX12_isFree_11 : decode cX12_isFree 11 = .ok (.iadd, 1) := by decide +kernel
theorem dX12_isFree_12 : decode cX12_isFree 12 = .ok (.aload_n 0, 1) := by decide +kernel
theorem dX12_isFree_13 : decode cX12_isFree 13 = .ok (.getfield 98, 3) := by decide +kernel
theorem dX12_isFree_16 : decode cX12_isFree 16 = .ok (.if_icmp .gt 18, 3) := by decide +kernel
theorem dX12_isFree_19 : decode cX12_isFree 19 = .ok (.iload_n 2, 1) := by decide +kernel
theorem dX12_isFree_20 : decode cX12_isFree 20 = .ok (.iload 4, 2) := by decide +kernel
theorem dX12_isFree_22 : decode cX12_isFree 22 = .ok (.iadd, 1) := by decide +kernel
theorem dX12_isFree_23 : decode cX12_isFree 23 = .ok (.aload_n 0, 1) := by decide +kernel
theorem dX12_isFree_24 : decode cX12_isFree 24 = .ok (.getfield 102, 3) := by decide +kernel
theorem dX12_isFree_27 : decode cX12_isFree 27 = .ok (.if_icmp .gt 7, 3) := by decide +kernel
theorem dX12_isFree_30 : decode cX12_isFree 30 = .ok (.iconst 1, 1) := by decide +kernel
theorem dX12_isFree_31 : decode cX12_isFree 31 = .ok (.goto 4, 3) := by decide +kernel
theorem dX12_isFree_34 : decode cX12_isFree 34 = .ok (.iconst 0, 1) := by decide +kernel
theorem dX12_isFree_35 : decode cX12_isFree 35 = .ok (.istore 7, 2) := by decide +kernel
theorem dX12_isFree_37 : decode cX12_isFree 37 = .ok (.iload_n 2, 1) := by decide +kernel
theorem dX12_isFree_38 : decode cX12_isFree 38 = .ok (.istore 8, 2) := by decide +kernel
theorem dX12_isFree_40 : decode cX12_isFree 40 = .ok (.iload 8, 2) := by decide +kernel
theorem dX12_isFree_42 : decode cX12_isFree 42 = .ok (.iload_n 2, 1) := by decide +kernel
theorem dX12_isFree_43 : decode cX12_isFree 43 = .ok (.iload 4, 2) := by decide +kernel
theorem dX12_isFree_45 : decode cX12_isFree 45 = .ok (.iadd, 1) := by decide +kernel
theorem dX12_isFree_46 : decode cX12_isFree 46 = .ok (.if_icmp .ge 36, 3) := by decide +kernel
theorem dX12_isFree_49 : decode cX12_isFree 49 = .ok (.iload 7, 2) := by decide +kernel
theorem dX12_isFree_51 : decode cX12_isFree 51 = .ok (.ifCond .eq 31, 3) := by decide +kernel
theorem dX12_isFree_54 : decode cX12_isFree 54 = .ok (.aload_n 0, 1) := by decide +kernel
theorem dX12_isFree_55 : decode cX12_isFree 55 = .ok (.getfield 105, 3) := by decide +kernel
theorem dX12_isFree_58 : decode cX12_isFree 58 = .ok (.iload 8, 2) := by decide +kernel
theorem dX12_isFree_60 : decode cX12_isFree 60 = .ok (.laload, 1) := by decide +kernel
theorem dX12_isFree_61 : decode cX12_isFree 61 = .ok (.lload 5, 2) := by decide +kernel
theorem dX12_isFree_63 : decode cX12_isFree 63 = .ok (.land, 1) := by decide +kernel
theorem dX12_isFree_64 : decode cX12_isFree 64 = .ok (.lconst 0, 1) := by decide +kernel
theorem dX12_isFree_65 : decode cX12_isFree 65 = .ok (.lcmp, 1) := by decide +kernel
theorem dX12_isFree_66 : decode cX12_isFree 66 = .ok (.ifCond .ne 7, 3) := by decide +kernel
theorem dX12_isFree_69 : decode cX12_isFree 69 = .ok (.iconst 1, 1) := by decide +kernel
theorem dX12_isFree_70 : decode cX12_isFree 70 = .ok (.goto 4, 3) := by decide +kernel
theorem dX12_isFree_73 : decode cX12_isFree 73 = .ok (.iconst 0, 1) := by decide +kernel
theorem dX12_isFree_74 : decode cX12_isFree 74 = .ok (.istore 7, 2) := by decide +kernel
theorem dX12_isFree_76 : decode cX12_isFree 76 = .ok (.iinc 8 1, 3) := by decide +kernel
theorem dX12_isFree_79 : decode cX12_isFree 79 = .ok (.goto (-39), 3) := by decide +kernel
theorem dX12_isFree_82 : decode cX12_isFree 82 = .ok (.iload 7, 2) := by decide +kernel
theorem dX12_isFree_84 : decode cX12_isFree 84 = .ok (.ireturn, 1) := by decide +kernel
theorem dX12_hangsOne_0 : decode cX12_hangsOne 0 = .ok (.aload_n 0, 1) := by decide +kernel
theorem dX12_hangsOne_1 : decode cX12_hangsOne 1 = .ok (.aload_n 0, 1) := by decide +kernel
theorem dX12_hangsOne_2 : decode cX12_hangsOne 2 = .ok (.getfield 89, 3) := by decide +kernel
theorem dX12_hangsOne_5 : decode cX12_hangsOne 5 = .ok (.iload_n 1, 1) := by decide +kernel
theorem dX12_hangsOne_6 : decode cX12_hangsOne 6 = .ok (.iaload, 1) := by decide +kernel
theorem dX12_hangsOne_7 : decode cX12_hangsOne 7 = .ok (.iconst 1, 1) := by decide +kernel
theorem dX12_hangsOne_8 : decode cX12_hangsOne 8 = .ok (.invokevirtual 261, 3) := by decide +kernel
theorem dX12_hangsOne_11 : decode cX12_hangsOne 11 = .ok (.aload_n 0, 1) := by decide +kernel
theorem dX12_hangsOne_12 : decode cX12_hangsOne 12 = .ok (.aload_n 0, 1) := by decide +kernel
theorem dX12_hangsOne_13 : decode cX12_hangsOne 13 = .ok (.getfield 89, 3) := by decide +kernel
theorem dX12_hangsOne_16 : decode cX12_hangsOne 16 = .ok (.iload_n 1, 1) := by decide +kernel
theorem dX12_hangsOne_17 : decode cX12_hangsOne 17 = .ok (.iaload, 1) := by decide +kernel
theorem dX12_hangsOne_18 : decode cX12_hangsOne 18 = .ok (.iconst 1, 1) := by decide +kernel
theorem dX12_hangsOne_19 : decode cX12_hangsOne 19 = .ok (.invokevirtual 244, 3) := by decide +kernel
theorem dX12_hangsOne_22 : decode cX12_hangsOne 22 = .ok (.isub, 1) := by decide +kernel
theorem dX12_hangsOne_23 : decode cX12_hangsOne 23 = .ok (.iconst 1, 1) := by decide +kernel
theorem dX12_hangsOne_24 : decode cX12_hangsOne 24 = .ok (.iadd, 1) := by decide +kernel
theorem dX12_hangsOne_25 : decode cX12_hangsOne 25 = .ok (.istore_n 2, 1) := by decide +kernel
theorem dX12_hangsOne_26 : decode cX12_hangsOne 26 = .ok (.aload_n 0, 1) := by decide +kernel
theorem dX12_hangsOne_27 : decode cX12_hangsOne 27 = .ok (.aload_n 0, 1) := by decide +kernel
theorem dX12_hangsOne_28 : decode cX12_hangsOne 28 = .ok (.getfield 89, 3) := by decide +kernel
theorem dX12_hangsOne_31 : decode cX12_hangsOne 31 = .ok (.iload_n 1, 1) := by decide +kernel
theorem dX12_hangsOne_32 : decode cX12_hangsOne 32 = .ok (.iaload, 1) := by decide +kernel
theorem dX12_hangsOne_33 : decode cX12_hangsOne 33 = .ok (.iconst 0, 1) := by decide +kernel
theorem dX12_hangsOne_34 : decode cX12_hangsOne 34 = .ok (.invokevirtual 261, 3) := by decide +kernel
theorem dX12_hangsOne_37 : decode cX12_hangsOne 37 = .ok (.aload_n 0, 1) := by decide +kernel
theorem dX12_hangsOne_38 : decode cX12_hangsOne 38 = .ok (.aload_n 0, 1) := by decide +kernel
theorem dX12_hangsOne_39 : decode cX12_hangsOne 39 = .ok (.getfield 89, 3) := by decide +kernel
theorem dX12_hangsOne_42 : decode cX12_hangsOne 42 = .ok (.iload_n 1, 1) := by decide +kernel
theorem dX12_hangsOne_43 : decode cX12_hangsOne 43 = .ok (.iaload, 1) := by decide +kernel
theorem dX12_hangsOne_44 : decode cX12_hangsOne 44 = .ok (.iconst 0, 1) := by decide +kernel
theorem dX12_hangsOne_45 : decode cX12_hangsOne 45 = .ok (.invokevirtual 244, 3) := by decide +kernel
theorem dX12_hangsOne_48 : decode cX12_hangsOne 48 = .ok (.isub, 1) := by decide +kernel
theorem dX12_hangsOne_49 : decode cX12_hangsOne 49 = .ok (.iconst 1, 1) := by decide +kernel
theorem dX12_hangsOne_50 : decode cX12_hangsOne 50 = .ok (.iadd, 1) := by decide +kernel
theorem dX12_hangsOne_51 : decode cX12_hangsOne 51 = .ok (.istore_n 3, 1) := by decide +kernel
theorem dX12_hangsOne_52 : decode cX12_hangsOne 52 = .ok (.iconst 0, 1) := by decide +kernel
theorem dX12_hangsOne_53 : decode cX12_hangsOne 53 = .ok (.istore 4, 2) := by decide +kernel
theorem dX12_hangsOne_55 : decode cX12_hangsOne 55 = .ok (.iload 4, 2) := by decide +kernel
theorem dX12_hangsOne_57 : decode cX12_hangsOne 57 = .ok (.aload_n 0, 1) := by decide +kernel
theorem dX12_hangsOne_58 : decode cX12_hangsOne 58 = .ok (.getfield 98, 3) := by decide +kernel
theorem dX12_hangsOne_61 : decode cX12_hangsOne 61 = .ok (.aload_n 0, 1) := by decide +kernel
theorem dX12_hangsOne_62 : decode cX12_hangsOne 62 = .ok (.getfield 102, 3) := by decide +kernel
theorem dX12_hangsOne_65 : decode cX12_hangsOne 65 = .ok (.imul, 1) := by decide +kernel
theorem dX12_hangsOne_66 : decode cX12_hangsOne 66 = .ok (.if_icmp .ge 118, 3) := by decide +kernel
theorem dX12_hangsOne_69 : decode cX12_hangsOne 69 = .ok (.aload_n 0, 1) := by decide +kernel
theorem dX12_hangsOne_70 : decode cX12_hangsOne 70 = .ok (.getfield 109, 3) := by decide +kernel
theorem dX12_hangsOne_73 : decode cX12_hangsOne 73 = .ok (.iload_n 1, 1) := by decide +kernel
theorem dX12_hangsOne_74 : decode cX12_hangsOne 74 = .ok (.iaload, 1) := by decide +kernel
theorem dX12_hangsOne_75 : decode cX12_hangsOne 75 = .ok (.iconst (-1), 1) := by decide +kernel
theorem dX12_hangsOne_76 : decode cX12_hangsOne 76 = .ok (.if_icmp .ne 108, 3) := by decide +kernel
theorem dX12_hangsOne_79 : decode cX12_hangsOne 79 = .ok (.aload_n 0, 1) := by decide +kernel
theorem dX12_hangsOne_80 : decode cX12_hangsOne 80 = .ok (.iload 4, 2) := by decide +kernel
theorem dX12_hangsOne_82 : decode cX12_hangsOne 82 = .ok (.aload_n 0, 1) := by decide +kernel
theorem dX12_hangsOne_83 : decode cX12_hangsOne 83 = .ok (.getfield 98, 3) := by decide +kernel
theorem dX12_hangsOne_86 : decode cX12_hangsOne 86 = .ok (.irem, 1) := by decide +kernel
theorem dX12_hangsOne_87 : decode cX12_hangsOne 87 = .ok (.iload 4, 2) := by decide +kernel
theorem dX12_hangsOne_89 : decode cX12_hangsOne 89 = .ok (.aload_n 0, 1) := by decide +kernel
theorem dX12_hangsOne_90 : decode cX12_hangsOne 90 = .ok (.getfield 98, 3) := by decide +kernel
theorem dX12_hangsOne_93 : decode cX12_hangsOne 93 = .ok (.idiv, 1) := by decide +kernel
theorem dX12_hangsOne_94 : decode cX12_hangsOne 94 = .ok (.iload_n 2, 1) := by decide +kernel
theorem dX12_hangsOne_95 : decode cX12_hangsOne 95 = .ok (.iload_n 3, 1) := by decide +kernel
theorem dX12_hangsOne_96 : decode cX12_hangsOne 96 = .ok (.invokevirtual 264, 3) := by decide +kernel
theorem dX12_hangsOne_99 : decode cX12_hangsOne 99 = .ok (.ifCond .eq 79, 3) := by decide +kernel
theorem dX12_hangsOne_102 : decode cX12_hangsOne 102 = .ok (.aload_n 0, 1) := by decide +kernel
theorem dX12_hangsOne_103 : decode cX12_hangsOne 103 = .ok (.getfield 109, 3) := by decide +kernel
theorem dX12_hangsOne_106 : decode cX12_hangsOne 106 = .ok (.iload_n 1, 1) := by decide +kernel
theorem dX12_hangsOne_107 : decode cX12_hangsOne 107 = .ok (.bipush 100, 2) := by decide +kernel
theorem dX12_hangsOne_109 : decode cX12_hangsOne 109 = .ok (.iload 4, 2) := by decide +kernel
theorem dX12_hangsOne_111 : decode cX12_hangsOne 111 = .ok (.aload_n 0, 1) := by decide +kernel
theorem dX12_hangsOne_112 : decode cX12_hangsOne 112 = .ok (.getfield 98, 3) := by decide +kernel
theorem dX12_hangsOne_115 : decode cX12_hangsOne 115 = .ok (.irem, 1) := by decide +kernel
theorem dX12_hangsOne_116 : decode cX12_hangsOne 116 = .ok (.imul, 1) := by decide +kernel
theorem dX12_hangsOne_117 : decode cX12_hangsOne 117 = .ok (.iload 4, 2) := by decide +kernel
theorem dX12_hangsOne_119 : decode cX12_hangsOne 119 = .ok (.aload_n 0, 1) := by decide +kernel
theorem dX12_hangsOne_120 : decode cX12_hangsOne 120 = .ok (.getfield 98, 3) := by decide +kernel
theorem dX12_hangsOne_123 : decode cX12_hangsOne 123 = .ok (.idiv, 1) := by decide +kernel
theorem dX12_hangsOne_124 : decode cX12_hangsOne 124 = .ok (.iadd, 1) := by decide +kernel
theorem dX12_hangsOne_125 : decode cX12_hangsOne 125 = .ok (.iastore, 1) := by decide +kernel
theorem dX12_hangsOne_126 : decode cX12_hangsOne 126 = .ok (.iload 4, 2) := by decide +kernel
theorem dX12_hangsOne_128 : decode cX12_hangsOne 128 = .ok (.aload_n 0, 1) := by decide +kernel
theorem dX12_hangsOne_129 : decode cX12_hangsOne 129 = .ok (.getfield 98, 3) := by decide +kernel
theorem dX12_hangsOne_132 : decode cX12_hangsOne 132 = .ok (.idiv, 1) := by decide +kernel
theorem dX12_hangsOne_133 : decode cX12_hangsOne 133 = .ok (.istore 5, 2) := by decide +kernel
theorem dX12_hangsOne_135 : decode cX12_hangsOne 135 = .ok (.iload 5, 2) := by decide +kernel
theorem dX12_hangsOne_137 : decode cX12_hangsOne 137 = .ok (.iload 4, 2) := by decide +kernel
theorem dX12_hangsOne_139 : decode cX12_hangsOne 139 = .ok (.aload_n 0, 1) := by decide +kernel
theorem dX12_hangsOne_140 : decode cX12_hangsOne 140 = .ok (.getfield 98, 3) := by decide +kernel
theorem dX12_hangsOne_143 : decode cX12_hangsOne 143 = .ok (.idiv, 1) := by decide +kernel
theorem dX12_hangsOne_144 : decode cX12_hangsOne 144 = .ok (.iload_n 3, 1) := by decide +kernel
theorem dX12_hangsOne_145 : decode cX12_hangsOne 145 = .ok (.iadd, 1) := by decide +kernel
theorem dX12_hangsOne_146 : decode cX12_hangsOne 146 = .ok (.if_icmp .ge 32, 3) := by decide +kernel
theorem dX12_hangsOne_149 : decode cX12_hangsOne 149 = .ok (.aload_n 0, 1) := by decide +kernel
theorem dX12_hangsOne_150 : decode cX12_hangsOne 150 = .ok (.getfield 105, 3) := by decide +kernel
theorem dX12_hangsOne_153 : decode cX12_hangsOne 153 = .ok (.iload 5, 2) := by decide +kernel
theorem dX12_hangsOne_155 : decode cX12_hangsOne 155 = .ok (.dup2, 1) := by decide +kernel
theorem dX12_hangsOne_156 : decode cX12_hangsOne 156 = .ok (.laload, 1) := by decide +kernel
theorem dX12_hangsOne_157 : decode cX12_hangsOne 157 = .ok (.lconst 1, 1) := by decide +kernel
theorem dX12_hangsOne_158 : decode cX12_hangsOne 158 = .ok (.iload_n 2, 1) := by decide +kernel
theorem dX12_hangsOne_159 : decode cX12_hangsOne 159 = .ok (.lshl, 1) := by decide +kernel
theorem dX12_hangsOne_160 : decode cX12_hangsOne 160 = .ok (.lconst 1, 1) := by decide +kernel
theorem dX12_hangsOne_161 : decode cX12_hangsOne 161 = .ok (.lsub, 1) := by decide +kernel
theorem dX12_hangsOne_162 : decode cX12_hangsOne 162 = .ok (.iload 4, 2) := by decide +kernel
theorem dX12_hangsOne_164 : decode cX12_hangsOne 164 = .ok (.aload_n 0, 1) := by decide +kernel
theorem dX12_hangsOne_165 : decode cX12_hangsOne 165 = .ok (.getfield 98, 3) := by decide +kernel
theorem dX12_hangsOne_168 : decode cX12_hangsOne 168 = .ok (.irem, 1) := by decide +kernel
theorem dX12_hangsOne_169 : decode cX12_hangsOne 169 = .ok (.lshl, 1) := by decide +kernel
theorem dX12_hangsOne_170 : decode cX12_hangsOne 170 = .ok (.lor, 1) := by decide +kernel
theorem dX12_hangsOne_171 : decode cX12_hangsOne 171 = .ok (.lastore, 1) := by decide +kernel
theorem dX12_hangsOne_172 : decode cX12_hangsOne 172 = .ok (.iinc 5 1, 3) := by decide +kernel
theorem dX12_hangsOne_175 : decode cX12_hangsOne 175 = .ok (.goto (-40), 3) := by decide +kernel
theorem dX12_hangsOne_178 : decode cX12_hangsOne 178 = .ok (.iinc 4 1, 3) := by decide +kernel
theorem dX12_hangsOne_181 : decode cX12_hangsOne 181 = .ok (.goto (-126), 3) := by decide +kernel
theorem dX12_hangsOne_184 : decode cX12_hangsOne 184 = .ok (.return_, 1) := by decide +kernel
theorem dX12_hangsAll_0 : decode cX12_hangsAll 0 = .ok (.iconst 0, 1) := by decide +kernel
theorem dX12_hangsAll_1 : decode cX12_hangsAll 1 = .ok (.istore_n 1, 1) := by decide +kernel
theorem dX12_hangsAll_2 : decode cX12_hangsAll 2 = .ok (.iload_n 1, 1) := by decide +kernel
theorem dX12_hangsAll_3 : decode cX12_hangsAll 3 = .ok (.bipush 40, 2) := by decide +kernel
theorem dX12_hangsAll_5 : decode cX12_hangsAll 5 = .ok (.if_icmp .ge 16, 3) := by decide +kernel
theorem dX12_hangsAll_8 : decode cX12_hangsAll 8 = .ok (.aload_n 0, 1) := by decide +kernel
theorem dX12_hangsAll_9 : decode cX12_hangsAll 9 = .ok (.getfield 105, 3) := by decide +kernel
theorem dX12_hangsAll_12 : decode cX12_hangsAll 12 = .ok (.iload_n 1, 1) := by decide +kernel
theorem dX12_hangsAll_13 : decode cX12_hangsAll 13 = .ok (.lconst 0, 1) := by decide +kernel
theorem dX12_hangsAll_14 : decode cX12_hangsAll 14 = .ok (.lastore, 1) := by decide +kernel
theorem dX12_hangsAll_15 : decode cX12_hangsAll 15 = .ok (.iinc 1 1, 3) := by decide +kernel
theorem dX12_hangsAll_18 : decode cX12_hangsAll 18 = .ok (.goto (-16), 3) := by decide +kernel
theorem dX12_hangsAll_21 : decode cX12_hangsAll 21 = .ok (.iconst 0, 1) := by decide +kernel
theorem dX12_hangsAll_22 : decode cX12_hangsAll 22 = .ok (.istore_n 1, 1) := by decide +kernel
theorem dX12_hangsAll_23 : decode cX12_hangsAll 23 = .ok (.iload_n 1, 1) := by decide +kernel
theorem dX12_hangsAll_24 : decode cX12_hangsAll 24 = .ok (.aload_n 0, 1) := by decide +kernel
theorem dX12_hangsAll_25 : decode cX12_hangsAll 25 = .ok (.getfield 232, 3) := by decide +kernel
theorem dX12_hangsAll_28 : decode cX12_hangsAll 28 = .ok (.if_icmp .ge 47, 3) := by decide +kernel
theorem dX12_hangsAll_31 : decode cX12_hangsAll 31 = .ok (.aload_n 0, 1) := by decide +kernel
theorem dX12_hangsAll_32 : decode cX12_hangsAll 32 = .ok (.getfield 109, 3) := by decide +kernel
theorem dX12_hangsAll_35 : decode cX12_hangsAll 35 = .ok (.iload_n 1, 1) := by decide +kernel
theorem dX12_hangsAll_36 : decode cX12_hangsAll 36 = .ok (.iconst (-1), 1) := by decide +kernel
theorem dX12_hangsAll_37 : decode cX12_hangsAll 37 = .ok (.iastore, 1) := by decide +kernel
theorem dX12_hangsAll_38 : decode cX12_hangsAll 38 = .ok (.aload_n 0, 1) := by decide +kernel
theorem dX12_hangsAll_39 : decode cX12_hangsAll 39 = .ok (.iload_n 1, 1) := by decide +kernel
theorem dX12_hangsAll_40 : decode cX12_hangsAll 40 = .ok (.invokevirtual 235, 3) := by decide +kernel
theorem dX12_hangsAll_43 : decode cX12_hangsAll 43 = .ok (.ifCond .eq 26, 3) := by decide +kernel
theorem dX12_hangsAll_46 : decode cX12_hangsAll 46 = .ok (.aload_n 0, 1) := by decide +kernel
theorem dX12_hangsAll_47 : decode cX12_hangsAll 47 = .ok (.getfield 95, 3) := by decide +kernel
theorem dX12_hangsAll_50 : decode cX12_hangsAll 50 = .ok (.iload_n 1, 1) := by decide +kernel
theorem dX12_hangsAll_51 : decode cX12_hangsAll 51 = .ok (.baload, 1) := by decide +kernel
theorem dX12_hangsAll_52 : decode cX12_hangsAll 52 = .ok (.ifCond .ne 12, 3) := by decide +kernel
theorem dX12_hangsAll_55 : decode cX12_hangsAll 55 = .ok (.aload_n 0, 1) := by decide +kernel
theorem dX12_hangsAll_56 : decode cX12_hangsAll 56 = .ok (.iload_n 1, 1) := by decide +kernel
theorem dX12_hangsAll_57 : decode cX12_hangsAll 57 = .ok (.invokevirtual 268, 3) := by decide +kernel
theorem dX12_hangsAll_60 : decode cX12_hangsAll 60 = .ok (.iconst (-1), 1) := by decide +kernel
theorem dX12_hangsAll_61 : decode cX12_hangsAll 61 = .ok (.if_icmp .ne 8, 3) := by decide +kernel
theorem dX12_hangsAll_64 : decode cX12_hangsAll 64 = .ok (.aload_n 0, 1) := by decide +kernel
theorem dX12_hangsAll_65 : decode cX12_hangsAll 65 = .ok (.iload_n 1, 1) := by decide +kernel
theorem dX12_hangsAll_66 : decode cX12_hangsAll 66 = .ok (.invokevirtual 272, 3) := by decide +kernel
theorem dX12_hangsAll_69 : decode cX12_hangsAll 69 = .ok (.iinc 1 1, 3) := by decide +kernel
theorem dX12_hangsAll_72 : decode cX12_hangsAll 72 = .ok (.goto (-49), 3) := by decide +kernel
theorem dX12_hangsAll_75 : decode cX12_hangsAll 75 = .ok (.return_, 1) := by decide +kernel
theorem dX12_drafted_0 : decode cX12_drafted 0 = .ok (.aload_n 0, 1) := by decide +kernel
theorem dX12_drafted_1 : decode cX12_drafted 1 = .ok (.iconst 0, 1) := by decide +kernel
theorem dX12_drafted_2 : decode cX12_drafted 2 = .ok (.putfield 112, 3) := by decide +kernel
theorem dX12_drafted_5 : decode cX12_drafted 5 = .ok (.aload_n 0, 1) := by decide +kernel
theorem dX12_drafted_6 : decode cX12_drafted 6 = .ok (.getfield 119, 3) := by decide +kernel
theorem dX12_drafted_9 : decode cX12_drafted 9 = .ok (.ireturn, 1) := by decide +kernel
theorem dX12_programs_0 : decode cX12_programs 0 = .ok (.aload_n 0, 1) := by decide +kernel
theorem dX12_programs_1 : decode cX12_programs 1 = .ok (.iconst 0, 1) := by decide +kernel
theorem dX12_programs_2 : decode cX12_programs 2 = .ok (.putfield 112, 3) := by decide +kernel
theorem dX12_programs_5 : decode cX12_programs 5 = .ok (.aload_n 0, 1) := by decide +kernel
theorem dX12_programs_6 : decode cX12_programs 6 = .ok (.getfield 147, 3) := by decide +kernel
theorem dX12_programs_9 : decode cX12_programs 9 = .ok (.ireturn, 1) := by decide +kernel
theorem dX12_fault_0 : decode cX12_fault 0 = .ok (.aload_n 0, 1) := by decide +kernel
theorem dX12_fault_1 : decode cX12_fault 1 = .ok (.aload_n 0, 1) := by decide +kernel
theorem dX12_fault_2 : decode cX12_fault 2 = .ok (.iload_n 1, 1) := by decide +kernel
theorem dX12_fault_3 : decode cX12_fault 3 = .ok (.invokevirtual 220, 3) := by decide +kernel
theorem dX12_fault_6 : decode cX12_fault 6 = .ok (.ifCond .eq 7, 3) := by decide +kernel
theorem dX12_fault_9 : decode cX12_fault 9 = .ok (.iconst 0, 1) := by decide +kernel
theorem dX12_fault_10 : decode cX12_fault 10 = .ok (.goto 4, 3) := by decide +kernel
theorem dX12_fault_13 : decode cX12_fault 13 = .ok (.iconst 1, 1) := by decide +kernel
theorem dX12_fault_14 : decode cX12_fault 14 = .ok (.invokevirtual 126, 3) := by decide +kernel
theorem dX12_fault_17 : decode cX12_fault 17 = .ok (.ifCond .eq 12, 3) := by decide +kernel
theorem dX12_fault_20 : decode cX12_fault 20 = .ok (.aload_n 0, 1) := by decide +kernel
theorem dX12_fault_21 : decode cX12_fault 21 = .ok (.getfield 41, 3) := by decide +kernel
theorem dX12_fault_24 : decode cX12_fault 24 = .ok (.iload_n 1, 1) := by decide +kernel
theorem dX12_fault_25 : decode cX12_fault 25 = .ok (.iaload, 1) := by decide +kernel
theorem dX12_fault_26 : decode cX12_fault 26 = .ok (.goto 4, 3) := by decide +kernel
theorem dX12_fault_29 : decode cX12_fault 29 = .ok (.iconst 0, 1) := by decide +kernel
theorem dX12_fault_30 : decode cX12_fault 30 = .ok (.ireturn, 1) := by decide +kernel
theorem dX12_steps_0 : decode cX12_steps 0 = .ok (.aload_n 0, 1) := by decide +kernel
theorem dX12_steps_1 : decode cX12_steps 1 = .ok (.aload_n 0, 1) := by decide +kernel
theorem dX12_steps_2 : decode cX12_steps 2 = .ok (.iload_n 1, 1) := by decide +kernel
theorem dX12_steps_3 : decode cX12_steps 3 = .ok (.invokevirtual 220, 3) := by decide +kernel
theorem dX12_steps_6 : decode cX12_steps 6 = .ok (.ifCond .eq 7, 3) := by decide +kernel
theorem dX12_steps_9 : decode cX12_steps 9 = .ok (.iconst 0, 1) := by decide +kernel
theorem dX12_steps_10 : decode cX12_steps 10 = .ok (.goto 4, 3) := by decide +kernel
theorem dX12_steps_13 : decode cX12_steps 13 = .ok (.iconst 1, 1) := by decide +kernel
theorem dX12_steps_14 : decode cX12_steps 14 = .ok (.invokevirtual 126, 3) := by decide +kernel
theorem dX12_steps_17 : decode cX12_steps 17 = .ok (.ifCond .eq 12, 3) := by decide +kernel
theorem dX12_steps_20 : decode cX12_steps 20 = .ok (.aload_n 0, 1) := by decide +kernel
theorem dX12_steps_21 : decode cX12_steps 21 = .ok (.getfield 44, 3) := by decide +kernel
theorem dX12_steps_24 : decode cX12_steps 24 = .ok (.iload_n 1, 1) := by decide +kernel
theorem dX12_steps_25 : decode cX12_steps 25 = .ok (.iaload, 1) := by decide +kernel
theorem dX12_steps_26 : decode cX12_steps 26 = .ok (.goto 4, 3) := by decide +kernel
theorem dX12_steps_29 : decode cX12_steps 29 = .ok (.iconst 0, 1) := by decide +kernel
theorem dX12_steps_30 : decode cX12_steps 30 = .ok (.ireturn, 1) := by decide +kernel
theorem dX12_strokes_0 : decode cX12_strokes 0 = .ok (.aload_n 0, 1) := by decide +kernel
theorem dX12_strokes_1 : decode cX12_strokes 1 = .ok (.aload_n 0, 1) := by decide +kernel
theorem dX12_strokes_2 : decode cX12_strokes 2 = .ok (.iload_n 1, 1) := by decide +kernel
theorem dX12_strokes_3 : decode cX12_strokes 3 = .ok (.invokevirtual 220, 3) := by decide +kernel
theorem dX12_strokes_6 : decode cX12_strokes 6 = .ok (.ifCond .eq 7, 3) := by decide +kernel
theorem dX12_strokes_9 : decode cX12_strokes 9 = .ok (.iconst 0, 1) := by decide +kernel
theorem dX12_strokes_10 : decode cX12_strokes 10 = .ok (.goto 4, 3) := by decide +kernel
theorem dX12_strokes_13 : decode cX12_strokes 13 = .ok (.iconst 1, 1) := by decide +kernel
theorem dX12_strokes_14 : decode cX12_strokes 14 = .ok (.invokevirtual 126, 3) := by decide +kernel
theorem dX12_strokes_17 : decode cX12_strokes 17 = .ok (.ifCond .eq 12, 3) := by decide +kernel
theorem dX12_strokes_20 : decode cX12_strokes 20 = .ok (.aload_n 0, 1) := by decide +kernel
theorem dX12_strokes_21 : decode cX12_strokes 21 = .ok (.getfield 47, 3) := by decide +kernel
theorem dX12_strokes_24 : decode cX12_strokes 24 = .ok (.iload_n 1, 1) := by decide +kernel
theorem dX12_strokes_25 : decode cX12_strokes 25 = .ok (.iaload, 1) := by decide +kernel
theorem dX12_strokes_26 : decode cX12_strokes 26 = .ok (.goto 4, 3) := by decide +kernel
theorem dX12_strokes_29 : decode cX12_strokes 29 = .ok (.iconst 0, 1) := by decide +kernel
theorem dX12_strokes_30 : decode cX12_strokes 30 = .ok (.ireturn, 1) := by decide +kernel
theorem dX12_strokesBySteps_0 : decode cX12_strokesBySteps 0 = .ok (.aload_n 0, 1) := by decide +kernel
theorem dX12_strokesBySteps_1 : decode cX12_strokesBySteps 1 = .ok (.aload_n 0, 1) := by decide +kernel
theorem dX12_strokesBySteps_2 : decode cX12_strokesBySteps 2 = .ok (.iload_n 1, 1) := by decide +kernel
theorem dX12_strokesBySteps_3 : decode cX12_strokesBySteps 3 = .ok (.invokevirtual 220, 3) := by decide +kernel
theorem dX12_strokesBySteps_6 : decode cX12_strokesBySteps 6 = .ok (.ifCond .ne 7, 3) := by decide +kernel
theorem dX12_strokesBySteps_9 : decode cX12_strokesBySteps 9 = .ok (.iconst 1, 1) := by decide +kernel
theorem dX12_strokesBySteps_10 : decode cX12_strokesBySteps 10 = .ok (.goto 19, 3) := by decide +kernel
theorem dX12_strokesBySteps_13 : decode cX12_strokesBySteps 13 = .ok (.iload_n 2, 1) := by decide +kernel
theorem dX12_strokesBySteps_14 : decode cX12_strokesBySteps 14 = .ok (.iconst 0, 1) := by decide +kernel
theorem dX12_strokesBySteps_15 : decode cX12_strokesBySteps 15 = .ok (.sipush 600, 3) := by decide +kernel
theorem dX12_strokesBySteps_18 : decode cX12_strokesBySteps 18 = .ok (.invokestatic 115, 3) := by decide +kernel
theorem dX12_strokesBySteps_21 : decode cX12_strokesBySteps 21 = .ok (.ifCond .eq 7, 3) := by decide +kernel
theorem dX12_strokesBySteps_24 : decode cX12_strokesBySteps 24 = .ok (.iconst 0, 1) := by decide +kernel
theorem dX12_strokesBySteps_25 : decode cX12_strokesBySteps 25 = .ok (.goto 4, 3) := by decide +kernel
theorem dX12_strokesBySteps_28 : decode cX12_strokesBySteps 28 = .ok (.iconst 2, 1) := by decide +kernel
theorem dX12_strokesBySteps_29 : decode cX12_strokesBySteps 29 = .ok (.invokevirtual 126, 3) := by decide +kernel
theorem dX12_strokesBySteps_32 : decode cX12_strokesBySteps 32 = .ok (.ifCond .ne 5, 3) := by decide +kernel
theorem dX12_strokesBySteps_35 : decode cX12_strokesBySteps 35 = .ok (.iconst 0, 1) := by decide +kernel
theorem dX12_strokesBySteps_36 : decode cX12_strokesBySteps 36 = .ok (.ireturn, 1) := by decide +kernel
theorem dX12_strokesBySteps_37 : decode cX12_strokesBySteps 37 = .ok (.aload_n 0, 1) := by decide +kernel
theorem dX12_strokesBySteps_38 : decode cX12_strokesBySteps 38 = .ok (.iload_n 1, 1) := by decide +kernel
theorem dX12_strokesBySteps_39 : decode cX12_strokesBySteps 39 = .ok (.invokevirtual 150, 3) := by decide +kernel
theorem dX12_strokesBySteps_42 : decode cX12_strokesBySteps 42 = .ok (.aload_n 0, 1) := by decide +kernel
theorem dX12_strokesBySteps_43 : decode cX12_strokesBySteps 43 = .ok (.getfield 65, 3) := by decide +kernel
theorem dX12_strokesBySteps_46 : decode cX12_strokesBySteps 46 = .ok (.iload_n 2, 1) := by decide +kernel
theorem dX12_strokesBySteps_47 : decode cX12_strokesBySteps 47 = .ok (.aload_n 0, 1) := by decide +kernel
theorem dX12_strokesBySteps_48 : decode cX12_strokesBySteps 48 = .ok (.getfield 157, 3) := by decide +kernel
theorem dX12_strokesBySteps_51 : decode cX12_strokesBySteps 51 = .ok (.if_icmp .ge 7, 3) := by decide +kernel
theorem dX12_strokesBySteps_54 : decode cX12_strokesBySteps 54 = .ok (.iload_n 2, 1) := by decide +kernel
theorem dX12_strokesBySteps_55 : decode cX12_strokesBySteps 55 = .ok (.goto 7, 3) := by decide +kernel
theorem dX12_strokesBySteps_58 : decode cX12_strokesBySteps 58 = .ok (.aload_n 0, 1) := by decide +kernel
theorem dX12_strokesBySteps_59 : decode cX12_strokesBySteps 59 = .ok (.getfield 157, 3) := by decide +kernel
theorem dX12_strokesBySteps_62 : decode cX12_strokesBySteps 62 = .ok (.iaload, 1) := by decide +kernel
theorem dX12_strokesBySteps_63 : decode cX12_strokesBySteps 63 = .ok (.ireturn, 1) := by decide +kernel
theorem dX12_isDrawn_0 : decode cX12_isDrawn 0 = .ok (.aload_n 0, 1) := by decide +kernel
theorem dX12_isDrawn_1 : decode cX12_isDrawn 1 = .ok (.aload_n 0, 1) := by decide +kernel
theorem dX12_isDrawn_2 : decode cX12_isDrawn 2 = .ok (.iload_n 1, 1) := by decide +kernel
theorem dX12_isDrawn_3 : decode cX12_isDrawn 3 = .ok (.invokevirtual 220, 3) := by decide +kernel
theorem dX12_isDrawn_6 : decode cX12_isDrawn 6 = .ok (.ifCond .eq 15, 3) := by decide +kernel
theorem dX12_isDrawn_9 : decode cX12_isDrawn 9 = .ok (.iload_n 2, 1) := by decide +kernel
theorem dX12_isDrawn_10 : decode cX12_isDrawn 10 = .ok (.iload_n 3, 1) := by decide +kernel
theorem dX12_isDrawn_11 : decode cX12_isDrawn 11 = .ok (.invokestatic 169, 3) := by decide +kernel
theorem dX12_isDrawn_14 : decode cX12_isDrawn 14 = .ok (.ifCond .eq 7, 3) := by decide +kernel
theorem dX12_isDrawn_17 : decode cX12_isDrawn 17 = .ok (.iconst 0, 1) := by decide +kernel
theorem dX12_isDrawn_18 : decode cX12_isDrawn 18 = .ok (.goto 4, 3) := by decide +kernel
theorem dX12_isDrawn_21 : decode cX12_isDrawn 21 = .ok (.iconst 1, 1) := by decide +kernel
theorem dX12_isDrawn_22 : decode cX12_isDrawn 22 = .ok (.invokevirtual 126, 3) := by decide +kernel
theorem dX12_isDrawn_25 : decode cX12_isDrawn 25 = .ok (.ifCond .ne 5, 3) := by decide +kernel
theorem dX12_isDrawn_28 : decode cX12_isDrawn 28 = .ok (.iconst 0, 1) := by decide +kernel
theorem dX12_isDrawn_29 : decode cX12_isDrawn 29 = .ok (.ireturn, 1) := by decide +kernel
theorem dX12_isDrawn_30 : decode cX12_isDrawn 30 = .ok (.bipush 16, 2) := by decide +kernel
theorem dX12_isDrawn_32 : decode cX12_isDrawn 32 = .ok (.iload_n 1, 1) := by decide +kernel
theorem dX12_isDrawn_33 : decode cX12_isDrawn 33 = .ok (.imul, 1) := by decide +kernel
theorem dX12_isDrawn_34 : decode cX12_isDrawn 34 = .ok (.iload_n 3, 1) := by decide +kernel
theorem dX12_isDrawn_35 : decode cX12_isDrawn 35 = .ok (.iadd, 1) := by decide +kernel
theorem dX12_isDrawn_36 : decode cX12_isDrawn 36 = .ok (.istore 5, 2) := by decide +kernel
theorem dX12_isDrawn_38 : decode cX12_isDrawn 38 = .ok (.iload 4, 2) := by decide +kernel
theorem dX12_isDrawn_40 : decode cX12_isDrawn 40 = .ok (.ifCond .eq 13, 3) := by decide +kernel
theorem dX12_isDrawn_43 : decode cX12_isDrawn 43 = .ok (.aload_n 0, 1) := by decide +kernel
theorem dX12_isDrawn_44 : decode cX12_isDrawn 44 = .ok (.getfield 53, 3) := by decide +kernel
theorem dX12_isDrawn_47 : decode cX12_isDrawn 47 = .ok (.iload 5, 2) := by decide +kernel
theorem dX12_isDrawn_49 : decode cX12_isDrawn 49 = .ok (.iaload, 1) := by decide +kernel
theorem dX12_isDrawn_50 : decode cX12_isDrawn 50 = .ok (.goto 10, 3) := by decide +kernel
theorem dX12_isDrawn_53 : decode cX12_isDrawn 53 = .ok (.aload_n 0, 1) := by decide +kernel
theorem dX12_isDrawn_54 : decode cX12_isDrawn 54 = .ok (.getfield 50, 3) := by decide +kernel
theorem dX12_isDrawn_57 : decode cX12_isDrawn 57 = .ok (.iload 5, 2) := by decide +kernel
theorem dX12_isDrawn_59 : decode cX12_isDrawn 59 = .ok (.iaload, 1) := by decide +kernel
theorem dX12_isDrawn_60 : decode cX12_isDrawn 60 = .ok (.iload_n 2, 1) := by decide +kernel
theorem dX12_isDrawn_61 : decode cX12_isDrawn 61 = .ok (.ishr, 1) := by decide +kernel
theorem dX12_isDrawn_62 : decode cX12_isDrawn 62 = .ok (.iconst 1, 1) := by decide +kernel
theorem dX12_isDrawn_63 : decode cX12_isDrawn 63 = .ok (.iand, 1) := by decide +kernel
theorem dX12_isDrawn_64 : decode cX12_isDrawn 64 = .ok (.iconst 1, 1) := by decide +kernel
theorem dX12_isDrawn_65 : decode cX12_isDrawn 65 = .ok (.if_icmp .ne 7, 3) := by decide +kernel
theorem dX12_isDrawn_68 : decode cX12_isDrawn 68 = .ok (.iconst 1, 1) := by decide +kernel
theorem dX12_isDrawn_69 : decode cX12_isDrawn 69 = .ok (.goto 4, 3) := by decide +kernel
theorem dX12_isDrawn_72 : decode cX12_isDrawn 72 = .ok (.iconst 0, 1) := by decide +kernel
theorem dX12_isDrawn_73 : decode cX12_isDrawn 73 = .ok (.ireturn, 1) := by decide +kernel
theorem dX12_areTwo_0 : decode cX12_areTwo 0 = .ok (.aload_n 0, 1) := by decide +kernel
theorem dX12_areTwo_1 : decode cX12_areTwo 1 = .ok (.aload_n 0, 1) := by decide +kernel
theorem dX12_areTwo_2 : decode cX12_areTwo 2 = .ok (.iload_n 1, 1) := by decide +kernel
theorem dX12_areTwo_3 : decode cX12_areTwo 3 = .ok (.invokevirtual 220, 3) := by decide +kernel
theorem dX12_areTwo_6 : decode cX12_areTwo 6 = .ok (.ifCond .eq 15, 3) := by decide +kernel
theorem dX12_areTwo_9 : decode cX12_areTwo 9 = .ok (.aload_n 0, 1) := by decide +kernel
theorem dX12_areTwo_10 : decode cX12_areTwo 10 = .ok (.iload_n 2, 1) := by decide +kernel
theorem dX12_areTwo_11 : decode cX12_areTwo 11 = .ok (.invokevirtual 220, 3) := by decide +kernel
theorem dX12_areTwo_14 : decode cX12_areTwo 14 = .ok (.ifCond .eq 7, 3) := by decide +kernel
theorem dX12_areTwo_17 : decode cX12_areTwo 17 = .ok (.iconst 0, 1) := by decide +kernel
theorem dX12_areTwo_18 : decode cX12_areTwo 18 = .ok (.goto 4, 3) := by decide +kernel
theorem dX12_areTwo_21 : decode cX12_areTwo 21 = .ok (.iconst 1, 1) := by decide +kernel
theorem dX12_areTwo_22 : decode cX12_areTwo 22 = .ok (.invokevirtual 126, 3) := by decide +kernel
theorem dX12_areTwo_25 : decode cX12_areTwo 25 = .ok (.ireturn, 1) := by decide +kernel
theorem dX12_areAlike_0 : decode cX12_areAlike 0 = .ok (.aload_n 0, 1) := by decide +kernel
theorem dX12_areAlike_1 : decode cX12_areAlike 1 = .ok (.iload_n 1, 1) := by decide +kernel
theorem dX12_areAlike_2 : decode cX12_areAlike 2 = .ok (.iload_n 2, 1) := by decide +kernel
theorem dX12_areAlike_3 : decode cX12_areAlike 3 = .ok (.invokevirtual 275, 3) := by decide +kernel
theorem dX12_areAlike_6 : decode cX12_areAlike 6 = .ok (.ifCond .eq 16, 3) := by decide +kernel
theorem dX12_areAlike_9 : decode cX12_areAlike 9 = .ok (.aload_n 0, 1) := by decide +kernel
theorem dX12_areAlike_10 : decode cX12_areAlike 10 = .ok (.iload_n 1, 1) := by decide +kernel
theorem dX12_areAlike_11 : decode cX12_areAlike 11 = .ok (.iload_n 2, 1) := by decide +kernel
theorem dX12_areAlike_12 : decode cX12_areAlike 12 = .ok (.invokevirtual 255, 3) := by decide +kernel
theorem dX12_areAlike_15 : decode cX12_areAlike 15 = .ok (.ifCond .eq 7, 3) := by decide +kernel
theorem dX12_areAlike_18 : decode cX12_areAlike 18 = .ok (.iconst 1, 1) := by decide +kernel
theorem dX12_areAlike_19 : decode cX12_areAlike 19 = .ok (.goto 4, 3) := by decide +kernel
theorem dX12_areAlike_22 : decode cX12_areAlike 22 = .ok (.iconst 0, 1) := by decide +kernel
theorem dX12_areAlike_23 : decode cX12_areAlike 23 = .ok (.ireturn, 1) := by decide +kernel
theorem dX12_haveOneForm_0 : decode cX12_haveOneForm 0 = .ok (.aload_n 0, 1) := by decide +kernel
theorem dX12_haveOneForm_1 : decode cX12_haveOneForm 1 = .ok (.iload_n 1, 1) := by decide +kernel
theorem dX12_haveOneForm_2 : decode cX12_haveOneForm 2 = .ok (.iload_n 2, 1) := by decide +kernel
theorem dX12_haveOneForm_3 : decode cX12_haveOneForm 3 = .ok (.invokevirtual 275, 3) := by decide +kernel
theorem dX12_haveOneForm_6 : decode cX12_haveOneForm 6 = .ok (.ifCond .eq 16, 3) := by decide +kernel
theorem dX12_haveOneForm_9 : decode cX12_haveOneForm 9 = .ok (.aload_n 0, 1) := by decide +kernel
theorem dX12_haveOneForm_10 : decode cX12_haveOneForm 10 = .ok (.iload_n 1, 1) := by decide +kernel
theorem dX12_haveOneForm_11 : decode cX12_haveOneForm 11 = .ok (.iload_n 2, 1) := by decide +kernel
theorem dX12_haveOneForm_12 : decode cX12_haveOneForm 12 = .ok (.invokevirtual 258, 3) := by decide +kernel
theorem dX12_haveOneForm_15 : decode cX12_haveOneForm 15 = .ok (.ifCond .eq 7, 3) := by decide +kernel
theorem dX12_haveOneForm_18 : decode cX12_haveOneForm 18 = .ok (.iconst 1, 1) := by decide +kernel
theorem dX12_haveOneForm_19 : decode cX12_haveOneForm 19 = .ok (.goto 4, 3) := by decide +kernel
theorem dX12_haveOneForm_22 : decode cX12_haveOneForm 22 = .ok (.iconst 0, 1) := by decide +kernel
theorem dX12_haveOneForm_23 : decode cX12_haveOneForm 23 = .ok (.ireturn, 1) := by decide +kernel
theorem dX12_likeness_0 : decode cX12_likeness 0 = .ok (.aload_n 0, 1) := by decide +kernel
theorem dX12_likeness_1 : decode cX12_likeness 1 = .ok (.iload_n 1, 1) := by decide +kernel
theorem dX12_likeness_2 : decode cX12_likeness 2 = .ok (.iload_n 2, 1) := by decide +kernel
theorem dX12_likeness_3 : decode cX12_likeness 3 = .ok (.invokevirtual 275, 3) := by decide +kernel
theorem dX12_likeness_6 : decode cX12_likeness 6 = .ok (.ifCond .eq 30, 3) := by decide +kernel
theorem dX12_likeness_9 : decode cX12_likeness 9 = .ok (.sipush 200, 3) := by decide +kernel
theorem dX12_likeness_12 : decode cX12_likeness 12 = .ok (.aload_n 0, 1) := by decide +kernel
theorem dX12_likeness_13 : decode cX12_likeness 13 = .ok (.iload_n 1, 1) := by decide +kernel
theorem dX12_likeness_14 : decode cX12_likeness 14 = .ok (.iload_n 2, 1) := by decide +kernel
theorem dX12_likeness_15 : decode cX12_likeness 15 = .ok (.invokevirtual 278, 3) := by decide +kernel
theorem dX12_likeness_18 : decode cX12_likeness 18 = .ok (.imul, 1) := by decide +kernel
theorem dX12_likeness_19 : decode cX12_likeness 19 = .ok (.aload_n 0, 1) := by decide +kernel
theorem dX12_likeness_20 : decode cX12_likeness 20 = .ok (.getfield 26, 3) := by decide +kernel
theorem dX12_likeness_23 : decode cX12_likeness 23 = .ok (.iload_n 1, 1) := by decide +kernel
theorem dX12_likeness_24 : decode cX12_likeness 24 = .ok (.iaload, 1) := by decide +kernel
theorem dX12_likeness_25 : decode cX12_likeness 25 = .ok (.aload_n 0, 1) := by decide +kernel
theorem dX12_likeness_26 : decode cX12_likeness 26 = .ok (.getfield 26, 3) := by decide +kernel
theorem dX12_likeness_29 : decode cX12_likeness 29 = .ok (.iload_n 2, 1) := by decide +kernel
theorem dX12_likeness_30 : decode cX12_likeness 30 = .ok (.iaload, 1) := by decide +kernel
theorem dX12_likeness_31 : decode cX12_likeness 31 = .ok (.iadd, 1) := by decide +kernel
theorem dX12_likeness_32 : decode cX12_likeness 32 = .ok (.idiv, 1) := by decide +kernel
theorem dX12_likeness_33 : decode cX12_likeness 33 = .ok (.goto 4, 3) := by decide +kernel
theorem dX12_likeness_36 : decode cX12_likeness 36 = .ok (.iconst 0, 1) := by decide +kernel
theorem dX12_likeness_37 : decode cX12_likeness 37 = .ok (.ireturn, 1) := by decide +kernel
theorem dX12_works_0 : decode cX12_works 0 = .ok (.aload_n 0, 1) := by decide +kernel
theorem dX12_works_1 : decode cX12_works 1 = .ok (.iconst 0, 1) := by decide +kernel
theorem dX12_works_2 : decode cX12_works 2 = .ok (.putfield 112, 3) := by decide +kernel
theorem dX12_works_5 : decode cX12_works 5 = .ok (.aload_n 0, 1) := by decide +kernel
theorem dX12_works_6 : decode cX12_works 6 = .ok (.getfield 232, 3) := by decide +kernel
theorem dX12_works_9 : decode cX12_works 9 = .ok (.ireturn, 1) := by decide +kernel
theorem dX12_meets_0 : decode cX12_meets 0 = .ok (.aload_n 0, 1) := by decide +kernel
theorem dX12_meets_1 : decode cX12_meets 1 = .ok (.aload_n 0, 1) := by decide +kernel
theorem dX12_meets_2 : decode cX12_meets 2 = .ok (.iload_n 1, 1) := by decide +kernel
theorem dX12_meets_3 : decode cX12_meets 3 = .ok (.invokevirtual 238, 3) := by decide +kernel
theorem dX12_meets_6 : decode cX12_meets 6 = .ok (.ifCond .eq 7, 3) := by decide +kernel
theorem dX12_meets_9 : decode cX12_meets 9 = .ok (.iconst 0, 1) := by decide +kernel
theorem dX12_meets_10 : decode cX12_meets 10 = .ok (.goto 4, 3) := by decide +kernel
theorem dX12_meets_13 : decode cX12_meets 13 = .ok (.iconst 1, 1) := by decide +kernel
theorem dX12_meets_14 : decode cX12_meets 14 = .ok (.invokevirtual 126, 3) := by decide +kernel
theorem dX12_meets_17 : decode cX12_meets 17 = .ok (.ifCond .eq 15, 3) := by decide +kernel
theorem dX12_meets_20 : decode cX12_meets 20 = .ok (.aload_n 0, 1) := by decide +kernel
theorem dX12_meets_21 : decode cX12_meets 21 = .ok (.iload_n 1, 1) := by decide +kernel
theorem dX12_meets_22 : decode cX12_meets 22 = .ok (.invokevirtual 235, 3) := by decide +kernel
theorem dX12_meets_25 : decode cX12_meets 25 = .ok (.ifCond .eq 7, 3) := by decide +kernel
theorem dX12_meets_28 : decode cX12_meets 28 = .ok (.iconst 1, 1) := by decide +kernel
theorem dX12_meets_29 : decode cX12_meets 29 = .ok (.goto 4, 3) := by decide +kernel
theorem dX12_meets_32 : decode cX12_meets 32 = .ok (.iconst 0, 1) := by decide +kernel
theorem dX12_meets_33 : decode cX12_meets 33 = .ok (.ireturn, 1) := by decide +kernel
theorem dX12_copyOf_0 : decode cX12_copyOf 0 = .ok (.aload_n 0, 1) := by decide +kernel
theorem dX12_copyOf_1 : decode cX12_copyOf 1 = .ok (.aload_n 0, 1) := by decide +kernel
theorem dX12_copyOf_2 : decode cX12_copyOf 2 = .ok (.iload_n 1, 1) := by decide +kernel
theorem dX12_copyOf_3 : decode cX12_copyOf 3 = .ok (.invokevirtual 238, 3) := by decide +kernel
theorem dX12_copyOf_6 : decode cX12_copyOf 6 = .ok (.ifCond .eq 7, 3) := by decide +kernel
theorem dX12_copyOf_9 : decode cX12_copyOf 9 = .ok (.iconst 0, 1) := by decide +kernel
theorem dX12_copyOf_10 : decode cX12_copyOf 10 = .ok (.goto 4, 3) := by decide +kernel
theorem dX12_copyOf_13 : decode cX12_copyOf 13 = .ok (.iconst 1, 1) := by decide +kernel
theorem dX12_copyOf_14 : decode cX12_copyOf 14 = .ok (.invokevirtual 126, 3) := by decide +kernel
theorem dX12_copyOf_17 : decode cX12_copyOf 17 = .ok (.ifCond .eq 11, 3) := by decide +kernel
theorem dX12_copyOf_20 : decode cX12_copyOf 20 = .ok (.aload_n 0, 1) := by decide +kernel
theorem dX12_copyOf_21 : decode cX12_copyOf 21 = .ok (.iload_n 1, 1) := by decide +kernel
theorem dX12_copyOf_22 : decode cX12_copyOf 22 = .ok (.invokevirtual 268, 3) := by decide +kernel
theorem dX12_copyOf_25 : decode cX12_copyOf 25 = .ok (.goto 4, 3) := by decide +kernel
theorem dX12_copyOf_28 : decode cX12_copyOf 28 = .ok (.iconst 0, 1) := by decide +kernel
theorem dX12_copyOf_29 : decode cX12_copyOf 29 = .ok (.ireturn, 1) := by decide +kernel
theorem dX12_hangs_0 : decode cX12_hangs 0 = .ok (.aload_n 0, 1) := by decide +kernel
theorem dX12_hangs_1 : decode cX12_hangs 1 = .ok (.aload_n 0, 1) := by decide +kernel
theorem dX12_hangs_2 : decode cX12_hangs 2 = .ok (.iload_n 1, 1) := by decide +kernel
theorem dX12_hangs_3 : decode cX12_hangs 3 = .ok (.invokevirtual 238, 3) := by decide +kernel
theorem dX12_hangs_6 : decode cX12_hangs 6 = .ok (.ifCond .eq 7, 3) := by decide +kernel
theorem dX12_hangs_9 : decode cX12_hangs 9 = .ok (.iconst 0, 1) := by decide +kernel
theorem dX12_hangs_10 : decode cX12_hangs 10 = .ok (.goto 4, 3) := by decide +kernel
theorem dX12_hangs_13 : decode cX12_hangs 13 = .ok (.iconst 1, 1) := by decide +kernel
theorem dX12_hangs_14 : decode cX12_hangs 14 = .ok (.invokevirtual 126, 3) := by decide +kernel
theorem dX12_hangs_17 : decode cX12_hangs 17 = .ok (.ifCond .ne 5, 3) := by decide +kernel
theorem dX12_hangs_20 : decode cX12_hangs 20 = .ok (.iconst 0, 1) := by decide +kernel
theorem dX12_hangs_21 : decode cX12_hangs 21 = .ok (.ireturn, 1) := by decide +kernel
theorem dX12_hangs_22 : decode cX12_hangs 22 = .ok (.aload_n 0, 1) := by decide +kernel
theorem dX12_hangs_23 : decode cX12_hangs 23 = .ok (.invokevirtual 241, 3) := by decide +kernel
theorem dX12_hangs_26 : decode cX12_hangs 26 = .ok (.aload_n 0, 1) := by decide +kernel
theorem dX12_hangs_27 : decode cX12_hangs 27 = .ok (.getfield 109, 3) := by decide +kernel
theorem dX12_hangs_30 : decode cX12_hangs 30 = .ok (.iload_n 1, 1) := by decide +kernel
theorem dX12_hangs_31 : decode cX12_hangs 31 = .ok (.iaload, 1) := by decide +kernel
theorem dX12_hangs_32 : decode cX12_hangs 32 = .ok (.ireturn, 1) := by decide +kernel
theorem dX12_covers_0 : decode cX12_covers 0 = .ok (.aload_n 0, 1) := by decide +kernel
theorem dX12_covers_1 : decode cX12_covers 1 = .ok (.getfield 89, 3) := by decide +kernel
theorem dX12_covers_4 : decode cX12_covers 4 = .ok (.iload_n 1, 1) := by decide +kernel
theorem dX12_covers_5 : decode cX12_covers 5 = .ok (.iaload, 1) := by decide +kernel
theorem dX12_covers_6 : decode cX12_covers 6 = .ok (.istore 4, 2) := by decide +kernel
theorem dX12_covers_8 : decode cX12_covers 8 = .ok (.iload_n 2, 1) := by decide +kernel
theorem dX12_covers_9 : decode cX12_covers 9 = .ok (.aload_n 0, 1) := by decide +kernel
theorem dX12_covers_10 : decode cX12_covers 10 = .ok (.getfield 109, 3) := by decide +kernel
theorem dX12_covers_13 : decode cX12_covers 13 = .ok (.iload_n 1, 1) := by decide +kernel
theorem dX12_covers_14 : decode cX12_covers 14 = .ok (.iaload, 1) := by decide +kernel
theorem dX12_covers_15 : decode cX12_covers 15 = .ok (.bipush 100, 2) := by decide +kernel
theorem dX12_covers_17 : decode cX12_covers 17 = .ok (.idiv, 1) := by decide +kernel
theorem dX12_covers_18 : decode cX12_covers 18 = .ok (.isub, 1) := by decide +kernel
theorem dX12_covers_19 : decode cX12_covers 19 = .ok (.istore 5, 2) := by decide +kernel
theorem dX12_covers_21 : decode cX12_covers 21 = .ok (.iload_n 3, 1) := by decide +kernel
theorem dX12_covers_22 : decode cX12_covers 22 = .ok (.aload_n 0, 1) := by decide +kernel
theorem dX12_covers_23 : decode cX12_covers 23 = .ok (.getfield 109, 3) := by decide +kernel
theorem dX12_covers_26 : decode cX12_covers 26 = .ok (.iload_n 1, 1) := by decide +kernel
theorem dX12_covers_27 : decode cX12_covers 27 = .ok (.iaload, 1) := by decide +kernel
theorem dX12_covers_28 : decode cX12_covers 28 = .ok (.bipush 100, 2) := by decide +kernel
theorem dX12_covers_30 : decode cX12_covers 30 = .ok (.irem, 1) := by decide +kernel
theorem dX12_covers_31 : decode cX12_covers 31 = .ok (.isub, 1) := by decide +kernel
theorem dX12_covers_32 : decode cX12_covers 32 = .ok (.istore 6, 2) := by decide +kernel
theorem dX12_covers_34 : decode cX12_covers 34 = .ok (.aload_n 0, 1) := by decide +kernel
theorem dX12_covers_35 : decode cX12_covers 35 = .ok (.getfield 109, 3) := by decide +kernel
theorem dX12_covers_38 : decode cX12_covers 38 = .ok (.iload_n 1, 1) := by decide +kernel
theorem dX12_covers_39 : decode cX12_covers 39 = .ok (.iaload, 1) := by decide +kernel
theorem dX12_covers_40 : decode cX12_covers 40 = .ok (.iconst (-1), 1) := by decide +kernel
theorem dX12_covers_41 : decode cX12_covers 41 = .ok (.if_icmp .eq 55, 3) := by decide +kernel
theorem dX12_covers_44 : decode cX12_covers 44 = .ok (.iload 5, 2) := by decide +kernel
theorem dX12_covers_46 : decode cX12_covers 46 = .ok (.iconst 0, 1) := by decide +kernel
theorem dX12_covers_47 : decode cX12_covers 47 = .ok (.aload_n 0, 1) := by decide +kernel
theorem dX12_covers_48 : decode cX12_covers 48 = .ok (.iload 4, 2) := by decide +kernel
theorem dX12_covers_50 : decode cX12_covers 50 = .ok (.iconst 1, 1) := by decide +kernel
theorem dX12_covers_51 : decode cX12_covers 51 = .ok (.invokevirtual 261, 3) := by decide +kernel
theorem dX12_covers_54 : decode cX12_covers 54 = .ok (.aload_n 0, 1) := by decide +kernel
theorem dX12_covers_55 : decode cX12_covers 55 = .ok (.iload 4, 2) := by decide +kernel
theorem dX12_covers_57 : decode cX12_covers 57 = .ok (.iconst 1, 1) := by decide +kernel
theorem dX12_covers_58 : decode cX12_covers 58 = .ok (.invokevirtual 244, 3) := by decide +kernel
theorem dX12_covers_61 : decode cX12_covers 61 = .ok (.isub, 1) := by decide +kernel
theorem dX12_covers_62 : decode cX12_covers 62 = .ok (.invokestatic 115, 3) := by decide +kernel
theorem dX12_covers_65 : decode cX12_covers 65 = .ok (.ifCond .eq 31, 3) := by decide +kernel
theorem dX12_covers_68 : decode cX12_covers 68 = .ok (.iload 6, 2) := by decide +kernel
theorem dX12_covers_70 : decode cX12_covers 70 = .ok (.iconst 0, 1) := by decide +kernel
theorem dX12_covers_71 : decode cX12_covers 71 = .ok (.aload_n 0, 1) := by decide +kernel
theorem dX12_covers_72 : decode cX12_covers 72 = .ok (.iload 4, 2) := by decide +kernel
theorem dX12_covers_74 : decode cX12_covers 74 = .ok (.iconst 0, 1) := by decide +kernel
theorem dX12_covers_75 : decode cX12_covers 75 = .ok (.invokevirtual 261, 3) := by decide +kernel
theorem dX12_covers_78 : decode cX12_covers 78 = .ok (.aload_n 0, 1) := by decide +kernel
theorem dX12_covers_79 : decode cX12_covers 79 = .ok (.iload 4, 2) := by decide +kernel
theorem dX12_covers_81 : decode cX12_covers 81 = .ok (.iconst 0, 1) := by decide +kernel
theorem dX12_covers_82 : decode cX12_covers 82 = .ok (.invokevirtual 244, 3) := by decide +kernel
theorem dX12_covers_85 : decode cX12_covers 85 = .ok (.isub, 1) := by decide +kernel
theorem dX12_covers_86 : decode cX12_covers 86 = .ok (.invokestatic 115, 3) := by decide +kernel
theorem dX12_covers_89 : decode cX12_covers 89 = .ok (.ifCond .eq 7, 3) := by decide +kernel
theorem dX12_covers_92 : decode cX12_covers 92 = .ok (.iconst 1, 1) := by decide +kernel
theorem dX12_covers_93 : decode cX12_covers 93 = .ok (.goto 4, 3) := by decide +kernel
theorem dX12_covers_96 : decode cX12_covers 96 = .ok (.iconst 0, 1) := by decide +kernel
theorem dX12_covers_97 : decode cX12_covers 97 = .ok (.ireturn, 1) := by decide +kernel
theorem dX12_onWall_0 : decode cX12_onWall 0 = .ok (.aload_n 0, 1) := by decide +kernel
theorem dX12_onWall_1 : decode cX12_onWall 1 = .ok (.iload_n 1, 1) := by decide +kernel
theorem dX12_onWall_2 : decode cX12_onWall 2 = .ok (.iconst 0, 1) := by decide +kernel
theorem dX12_onWall_3 : decode cX12_onWall 3 = .ok (.aload_n 0, 1) := by decide +kernel
theorem dX12_onWall_4 : decode cX12_onWall 4 = .ok (.getfield 98, 3) := by decide +kernel
theorem dX12_onWall_7 : decode cX12_onWall 7 = .ok (.iconst 1, 1) := by decide +kernel
theorem dX12_onWall_8 : decode cX12_onWall 8 = .ok (.isub, 1) := by decide +kernel
theorem dX12_onWall_9 : decode cX12_onWall 9 = .ok (.invokestatic 115, 3) := by decide +kernel
theorem dX12_onWall_12 : decode cX12_onWall 12 = .ok (.ifCond .eq 21, 3) := by decide +kernel
theorem dX12_onWall_15 : decode cX12_onWall 15 = .ok (.iload_n 2, 1) := by decide +kernel
theorem dX12_onWall_16 : decode cX12_onWall 16 = .ok (.iconst 0, 1) := by decide +kernel
theorem dX12_onWall_17 : decode cX12_onWall 17 = .ok (.aload_n 0, 1) := by decide +kernel
theorem dX12_onWall_18 : decode cX12_onWall 18 = .ok (.getfield 102, 3) := by decide +kernel
theorem dX12_onWall_21 : decode cX12_onWall 21 = .ok (.iconst 1, 1) := by decide +kernel
theorem dX12_onWall_22 : decode cX12_onWall 22 = .ok (.isub, 1) := by decide +kernel
theorem dX12_onWall_23 : decode cX12_onWall 23 = .ok (.invokestatic 115, 3) := by decide +kernel
theorem dX12_onWall_26 : decode cX12_onWall 26 = .ok (.ifCond .eq 7, 3) := by decide +kernel
theorem dX12_onWall_29 : decode cX12_onWall 29 = .ok (.iconst 0, 1) := by decide +kernel
theorem dX12_onWall_30 : decode cX12_onWall 30 = .ok (.goto 4, 3) := by decide +kernel
theorem dX12_onWall_33 : decode cX12_onWall 33 = .ok (.iconst 1, 1) := by decide +kernel
theorem dX12_onWall_34 : decode cX12_onWall 34 = .ok (.invokevirtual 126, 3) := by decide +kernel
theorem dX12_onWall_37 : decode cX12_onWall 37 = .ok (.ifCond .ne 5, 3) := by decide +kernel
theorem dX12_onWall_40 : decode cX12_onWall 40 = .ok (.iconst 0, 1) := by decide +kernel
theorem dX12_onWall_41 : decode cX12_onWall 41 = .ok (.ireturn, 1) := by decide +kernel
theorem dX12_onWall_42 : decode cX12_onWall 42 = .ok (.aload_n 0, 1) := by decide +kernel
theorem dX12_onWall_43 : decode cX12_onWall 43 = .ok (.invokevirtual 241, 3) := by decide +kernel
theorem dX12_onWall_46 : decode cX12_onWall 46 = .ok (.iconst (-1), 1) := by decide +kernel
theorem dX12_onWall_47 : decode cX12_onWall 47 = .ok (.istore_n 3, 1) := by decide +kernel
theorem dX12_onWall_48 : decode cX12_onWall 48 = .ok (.iconst 0, 1) := by decide +kernel
theorem dX12_onWall_49 : decode cX12_onWall 49 = .ok (.istore 4, 2) := by decide +kernel
theorem dX12_onWall_51 : decode cX12_onWall 51 = .ok (.iload 4, 2) := by decide +kernel
theorem dX12_onWall_53 : decode cX12_onWall 53 = .ok (.aload_n 0, 1) := by decide +kernel
theorem dX12_onWall_54 : decode cX12_onWall 54 = .ok (.getfield 232, 3) := by decide +kernel
theorem dX12_onWall_57 : decode cX12_onWall 57 = .ok (.if_icmp .ge 27, 3) := by decide +kernel
theorem dX12_onWall_60 : decode cX12_onWall 60 = .ok (.aload_n 0, 1) := by decide +kernel
theorem dX12_onWall_61 : decode cX12_onWall 61 = .ok (.iload 4, 2) := by decide +kernel
theorem dX12_onWall_63 : decode cX12_onWall 63 = .ok (.iload_n 1, 1) := by decide +kernel
theorem dX12_onWall_64 : decode cX12_onWall 64 = .ok (.iload_n 2, 1) := by decide +kernel
theorem dX12_onWall_65 : decode cX12_onWall 65 = .ok (.invokevirtual 281, 3) := by decide +kernel
theorem dX12_onWall_68 : decode cX12_onWall 68 = .ok (.ifCond .eq 8, 3) := by decide +kernel
theorem dX12_onWall_71 : decode cX12_onWall 71 = .ok (.iload 4, 2) := by decide +kernel
theorem dX12_onWall_73 : decode cX12_onWall 73 = .ok (.goto 4, 3) := by decide +kernel
theorem dX12_onWall_76 : decode cX12_onWall 76 = .ok (.iload_n 3, 1) := by decide +kernel
theorem dX12_onWall_77 : decode cX12_onWall 77 = .ok (.istore_n 3, 1) := by decide +kernel
theorem dX12_onWall_78 : decode cX12_onWall 78 = .ok (.iinc 4 1, 3) := by decide +kernel
theorem dX12_onWall_81 : decode cX12_onWall 81 = .ok (.goto (-30), 3) := by decide +kernel
theorem dX12_onWall_84 : decode cX12_onWall 84 = .ok (.iload_n 3, 1) := by decide +kernel
theorem dX12_onWall_85 : decode cX12_onWall 85 = .ok (.ireturn, 1) := by decide +kernel
theorem dX12_hung_0 : decode cX12_hung 0 = .ok (.aload_n 0, 1) := by decide +kernel
theorem dX12_hung_1 : decode cX12_hung 1 = .ok (.iload_n 1, 1) := by decide +kernel
theorem dX12_hung_2 : decode cX12_hung 2 = .ok (.iconst 0, 1) := by decide +kernel
theorem dX12_hung_3 : decode cX12_hung 3 = .ok (.iconst 5, 1) := by decide +kernel
theorem dX12_hung_4 : decode cX12_hung 4 = .ok (.invokestatic 115, 3) := by decide +kernel
theorem dX12_hung_7 : decode cX12_hung 7 = .ok (.ifCond .eq 7, 3) := by decide +kernel
theorem dX12_hung_10 : decode cX12_hung 10 = .ok (.iconst 0, 1) := by decide +kernel
theorem dX12_hung_11 : decode cX12_hung 11 = .ok (.goto 4, 3) := by decide +kernel
theorem dX12_hung_14 : decode cX12_hung 14 = .ok (.iconst 1, 1) := by decide +kernel
theorem dX12_hung_15 : decode cX12_hung 15 = .ok (.invokevirtual 126, 3) := by decide +kernel
theorem dX12_hung_18 : decode cX12_hung 18 = .ok (.ifCond .ne 5, 3) := by decide +kernel
theorem dX12_hung_21 : decode cX12_hung 21 = .ok (.iconst 0, 1) := by decide +kernel
theorem dX12_hung_22 : decode cX12_hung 22 = .ok (.ireturn, 1) := by decide +kernel
theorem dX12_hung_23 : decode cX12_hung 23 = .ok (.aload_n 0, 1) := by decide +kernel
theorem dX12_hung_24 : decode cX12_hung 24 = .ok (.invokevirtual 241, 3) := by decide +kernel
theorem dX12_hung_27 : decode cX12_hung 27 = .ok (.iconst 0, 1) := by decide +kernel
theorem dX12_hung_28 : decode cX12_hung 28 = .ok (.istore_n 2, 1) := by decide +kernel
theorem dX12_hung_29 : decode cX12_hung 29 = .ok (.iconst 0, 1) := by decide +kernel
theorem dX12_hung_30 : decode cX12_hung 30 = .ok (.istore_n 3, 1) := by decide +kernel
theorem dX12_hung_31 : decode cX12_hung 31 = .ok (.iload_n 3, 1) := by decide +kernel
theorem dX12_hung_32 : decode cX12_hung 32 = .ok (.aload_n 0, 1) := by decide +kernel
theorem dX12_hung_33 : decode cX12_hung 33 = .ok (.getfield 232, 3) := by decide +kernel
theorem dX12_hung_36 : decode cX12_hung 36 = .ok (.if_icmp .ge 42, 3) := by decide +kernel
theorem dX12_hung_39 : decode cX12_hung 39 = .ok (.iload_n 2, 1) := by decide +kernel
theorem dX12_hung_40 : decode cX12_hung 40 = .ok (.aload_n 0, 1) := by decide +kernel
theorem dX12_hung_41 : decode cX12_hung 41 = .ok (.getfield 109, 3) := by decide +kernel
theorem dX12_hung_44 : decode cX12_hung 44 = .ok (.iload_n 3, 1) := by decide +kernel
theorem dX12_hung_45 : decode cX12_hung 45 = .ok (.iaload, 1) := by decide +kernel
theorem dX12_hung_46 : decode cX12_hung 46 = .ok (.iconst (-1), 1) := by decide +kernel
theorem dX12_hung_47 : decode cX12_hung 47 = .ok (.if_icmp .eq 22, 3) := by decide +kernel
theorem dX12_hung_50 : decode cX12_hung 50 = .ok (.aload_n 0, 1) := by decide +kernel
theorem dX12_hung_51 : decode cX12_hung 51 = .ok (.getfield 23, 3) := by decide +kernel
theorem dX12_hung_54 : decode cX12_hung 54 = .ok (.aload_n 0, 1) := by decide +kernel
theorem dX12_hung_55 : decode cX12_hung 55 = .ok (.getfield 89, 3) := by decide +kernel
theorem dX12_hung_58 : decode cX12_hung 58 = .ok (.iload_n 3, 1) := by decide +kernel
theorem dX12_hung_59 : decode cX12_hung 59 = .ok (.iaload, 1) := by decide +kernel
theorem dX12_hung_60 : decode cX12_hung 60 = .ok (.iaload, 1) := by decide +kernel
theorem dX12_hung_61 : decode cX12_hung 61 = .ok (.iload_n 1, 1) := by decide +kernel
theorem dX12_hung_62 : decode cX12_hung 62 = .ok (.if_icmp .ne 7, 3) := by decide +kernel
theorem dX12_hung_65 : decode cX12_hung 65 = .ok (.iconst 1, 1) := by decide +kernel
theorem dX12_hung_66 : decode cX12_hung 66 = .ok (.goto 4, 3) := by decide +kernel
theorem dX12_hung_69 : decode cX12_hung 69 = .ok (.iconst 0, 1) := by decide +kernel
theorem dX12_hung_70 : decode cX12_hung 70 = .ok (.iadd, 1) := by decide +kernel
theorem dX12_hung_71 : decode cX12_hung 71 = .ok (.istore_n 2, 1) := by decide +kernel
theorem dX12_hung_72 : decode cX12_hung 72 = .ok (.iinc 3 1, 3) := by decide +kernel
theorem dX12_hung_75 : decode cX12_hung 75 = .ok (.goto (-44), 3) := by decide +kernel
theorem dX12_hung_78 : decode cX12_hung 78 = .ok (.iload_n 2, 1) := by decide +kernel
theorem dX12_hung_79 : decode cX12_hung 79 = .ok (.ireturn, 1) := by decide +kernel
theorem dJ9_floorMod_7cf53_0 : decode cJ9_floorMod_7cf53 0 = .ok (.iload_n 0, 1) := by decide +kernel
theorem dJ9_floorMod_7cf53_1 : decode cJ9_floorMod_7cf53 1 = .ok (.iload_n 1, 1) := by decide +kernel
theorem dJ9_floorMod_7cf53_2 : decode cJ9_floorMod_7cf53 2 = .ok (.irem, 1) := by decide +kernel
theorem dJ9_floorMod_7cf53_3 : decode cJ9_floorMod_7cf53 3 = .ok (.istore_n 2, 1) := by decide +kernel
theorem dJ9_floorMod_7cf53_4 : decode cJ9_floorMod_7cf53 4 = .ok (.iload_n 0, 1) := by decide +kernel
theorem dJ9_floorMod_7cf53_5 : decode cJ9_floorMod_7cf53 5 = .ok (.iload_n 1, 1) := by decide +kernel
theorem dJ9_floorMod_7cf53_6 : decode cJ9_floorMod_7cf53 6 = .ok (.ixor, 1) := by decide +kernel
theorem dJ9_floorMod_7cf53_7 : decode cJ9_floorMod_7cf53 7 = .ok (.ifCond .ge 11, 3) := by decide +kernel
theorem dJ9_floorMod_7cf53_10 : decode cJ9_floorMod_7cf53 10 = .ok (.iload_n 2, 1) := by decide +kernel
theorem dJ9_floorMod_7cf53_11 : decode cJ9_floorMod_7cf53 11 = .ok (.ifCond .eq 7, 3) := by decide +kernel
theorem dJ9_floorMod_7cf53_14 : decode cJ9_floorMod_7cf53 14 = .ok (.iload_n 2, 1) := by decide +kernel
theorem dJ9_floorMod_7cf53_15 : decode cJ9_floorMod_7cf53 15 = .ok (.iload_n 1, 1) := by decide +kernel
theorem dJ9_floorMod_7cf53_16 : decode cJ9_floorMod_7cf53 16 = .ok (.iadd, 1) := by decide +kernel
theorem dJ9_floorMod_7cf53_17 : decode cJ9_floorMod_7cf53 17 = .ok (.ireturn, 1) := by decide +kernel
theorem dJ9_floorMod_7cf53_18 : decode cJ9_floorMod_7cf53 18 = .ok (.iload_n 2, 1) := by decide +kernel
theorem dJ9_floorMod_7cf53_19 : decode cJ9_floorMod_7cf53 19 = .ok (.ireturn, 1) := by decide +kernel
theorem dJ9_max_7cf53_0 : decode cJ9_max_7cf53 0 = .ok (.iload_n 0, 1) := by decide +kernel
theorem dJ9_max_7cf53_1 : decode cJ9_max_7cf53 1 = .ok (.iload_n 1, 1) := by decide +kernel
theorem dJ9_max_7cf53_2 : decode cJ9_max_7cf53 2 = .ok (.if_icmp .lt 7, 3) := by decide +kernel
theorem dJ9_max_7cf53_5 : decode cJ9_max_7cf53 5 = .ok (.iload_n 0, 1) := by decide +kernel
theorem dJ9_max_7cf53_6 : decode cJ9_max_7cf53 6 = .ok (.goto 4, 3) := by decide +kernel
theorem dJ9_max_7cf53_9 : decode cJ9_max_7cf53 9 = .ok (.iload_n 1, 1) := by decide +kernel
theorem dJ9_max_7cf53_10 : decode cJ9_max_7cf53 10 = .ok (.ireturn, 1) := by decide +kernel
theorem dJ9_min_7cf53_0 : decode cJ9_min_7cf53 0 = .ok (.iload_n 0, 1) := by decide +kernel
theorem dJ9_min_7cf53_1 : decode cJ9_min_7cf53 1 = .ok (.iload_n 1, 1) := by decide +kernel
theorem dJ9_min_7cf53_2 : decode cJ9_min_7cf53 2 = .ok (.if_icmp .gt 7, 3) := by decide +kernel
theorem dJ9_min_7cf53_5 : decode cJ9_min_7cf53 5 = .ok (.iload_n 0, 1) := by decide +kernel
theorem dJ9_min_7cf53_6 : decode cJ9_min_7cf53 6 = .ok (.goto 4, 3) := by decide +kernel
theorem dJ9_min_7cf53_9 : decode cJ9_min_7cf53 9 = .ok (.iload_n 1, 1) := by decide +kernel
theorem dJ9_min_7cf53_10 : decode cJ9_min_7cf53 10 = .ok (.ireturn, 1) := by decide +kernel
theorem dL_forward_0 : decode cL_forward 0 = .ok (.aload_n 3, 1) := by decide +kernel
theorem dL_forward_1 : decode cL_forward 1 = .ok (.iconst 0, 1) := by decide +kernel
theorem dL_forward_2 : decode cL_forward 2 = .ok (.aload_n 0, 1) := by decide +kernel
theorem dL_forward_3 : decode cL_forward 3 = .ok (.iload_n 1, 1) := by decide +kernel
theorem dL_forward_4 : decode cL_forward 4 = .ok (.iload_n 2, 1) := by decide +kernel
theorem dL_forward_5 : decode cL_forward 5 = .ok (.invokevirtual 7, 3) := by decide +kernel
theorem dL_forward_8 : decode cL_forward 8 = .ok (.i2l, 1) := by decide +kernel
theorem dL_forward_9 : decode cL_forward 9 = .ok (.lastore, 1) := by decide +kernel
theorem dL_forward_10 : decode cL_forward 10 = .ok (.goto 15, 3) := by decide +kernel
theorem dL_forward_13 : decode cL_forward 13 = .ok (.astore 4, 2) := by decide +kernel
theorem dL_forward_15 : decode cL_forward 15 = .ok (.iconst 1, 1) := by decide +kernel
theorem dL_forward_16 : decode cL_forward 16 = .ok (.ireturn, 1) := by decide +kernel
theorem dL_forward_17 : decode cL_forward 17 = .ok (.astore 4, 2) := by decide +kernel
theorem dL_forward_19 : decode cL_forward 19 = .ok (.iconst 2, 1) := by decide +kernel
theorem dL_forward_20 : decode cL_forward 20 = .ok (.ireturn, 1) := by decide +kernel
theorem dL_forward_21 : decode cL_forward 21 = .ok (.astore 4, 2) := by decide +kernel
theorem dL_forward_23 : decode cL_forward 23 = .ok (.iconst 3, 1) := by decide +kernel
theorem dL_forward_24 : decode cL_forward 24 = .ok (.ireturn, 1) := by decide +kernel
theorem dL_forward_25 : decode cL_forward 25 = .ok (.iconst 0, 1) := by decide +kernel
theorem dL_forward_26 : decode cL_forward 26 = .ok (.ireturn, 1) := by decide +kernel
theorem dL_turn_0 : decode cL_turn 0 = .ok (.aload_n 3, 1) := by decide +kernel
theorem dL_turn_1 : decode cL_turn 1 = .ok (.iconst 0, 1) := by decide +kernel
theorem dL_turn_2 : decode cL_turn 2 = .ok (.aload_n 0, 1) := by decide +kernel
theorem dL_turn_3 : decode cL_turn 3 = .ok (.iload_n 1, 1) := by decide +kernel
theorem dL_turn_4 : decode cL_turn 4 = .ok (.iload_n 2, 1) := by decide +kernel
theorem dL_turn_5 : decode cL_turn 5 = .ok (.invokevirtual 19, 3) := by decide +kernel
theorem dL_turn_8 : decode cL_turn 8 = .ok (.i2l, 1) := by decide +kernel
theorem dL_turn_9 : decode cL_turn 9 = .ok (.lastore, 1) := by decide +kernel
theorem dL_turn_10 : decode cL_turn 10 = .ok (.goto 15, 3) := by decide +kernel
theorem dL_turn_13 : decode cL_turn 13 = .ok (.astore 4, 2) := by decide +kernel
theorem dL_turn_15 : decode cL_turn 15 = .ok (.iconst 1, 1) := by decide +kernel
theorem dL_turn_16 : decode cL_turn 16 = .ok (.ireturn, 1) := by decide +kernel
theorem dL_turn_17 : decode cL_turn 17 = .ok (.astore 4, 2) := by decide +kernel
theorem dL_turn_19 : decode cL_turn 19 = .ok (.iconst 2, 1) := by decide +kernel
theorem dL_turn_20 : decode cL_turn 20 = .ok (.ireturn, 1) := by decide +kernel
theorem dL_turn_21 : decode cL_turn 21 = .ok (.astore 4, 2) := by decide +kernel
theorem dL_turn_23 : decode cL_turn 23 = .ok (.iconst 3, 1) := by decide +kernel
theorem dL_turn_24 : decode cL_turn 24 = .ok (.ireturn, 1) := by decide +kernel
theorem dL_turn_25 : decode cL_turn 25 = .ok (.iconst 0, 1) := by decide +kernel
theorem dL_turn_26 : decode cL_turn 26 = .ok (.ireturn, 1) := by decide +kernel
theorem dL_pen_0 : decode cL_pen 0 = .ok (.aload_n 2, 1) := by decide +kernel
theorem dL_pen_1 : decode cL_pen 1 = .ok (.iconst 0, 1) := by decide +kernel
theorem dL_pen_2 : decode cL_pen 2 = .ok (.aload_n 0, 1) := by decide +kernel
theorem dL_pen_3 : decode cL_pen 3 = .ok (.iload_n 1, 1) := by decide +kernel
theorem dL_pen_4 : decode cL_pen 4 = .ok (.invokevirtual 22, 3) := by decide +kernel
theorem dL_pen_7 : decode cL_pen 7 = .ok (.i2l, 1) := by decide +kernel
theorem dL_pen_8 : decode cL_pen 8 = .ok (.lastore, 1) := by decide +kernel
theorem dL_pen_9 : decode cL_pen 9 = .ok (.goto 6, 3) := by decide +kernel
theorem dL_pen_12 : decode cL_pen 12 = .ok (.astore_n 3, 1) := by decide +kernel
theorem dL_pen_13 : decode cL_pen 13 = .ok (.iconst 1, 1) := by decide +kernel
theorem dL_pen_14 : decode cL_pen 14 = .ok (.ireturn, 1) := by decide +kernel
theorem dL_pen_15 : decode cL_pen 15 = .ok (.iconst 0, 1) := by decide +kernel
theorem dL_pen_16 : decode cL_pen 16 = .ok (.ireturn, 1) := by decide +kernel
theorem dL_set_0 : decode cL_set 0 = .ok (.aload 4, 2) := by decide +kernel
theorem dL_set_2 : decode cL_set 2 = .ok (.iconst 0, 1) := by decide +kernel
theorem dL_set_3 : decode cL_set 3 = .ok (.aload_n 0, 1) := by decide +kernel
theorem dL_set_4 : decode cL_set 4 = .ok (.iload_n 1, 1) := by decide +kernel
theorem dL_set_5 : decode cL_set 5 = .ok (.iload_n 2, 1) := by decide +kernel
theorem dL_set_6 : decode cL_set 6 = .ok (.iload_n 3, 1) := by decide +kernel
theorem dL_set_7 : decode cL_set 7 = .ok (.invokevirtual 26, 3) := by decide +kernel
theorem dL_set_10 : decode cL_set 10 = .ok (.i2l, 1) := by decide +kernel
theorem dL_set_11 : decode cL_set 11 = .ok (.lastore, 1) := by decide +kernel
theorem dL_set_12 : decode cL_set 12 = .ok (.goto 15, 3) := by decide +kernel
theorem dL_set_15 : decode cL_set 15 = .ok (.astore 5, 2) := by decide +kernel
theorem dL_set_17 : decode cL_set 17 = .ok (.iconst 1, 1) := by decide +kernel
theorem dL_set_18 : decode cL_set 18 = .ok (.ireturn, 1) := by decide +kernel
theorem dL_set_19 : decode cL_set 19 = .ok (.astore 5, 2) := by decide +kernel
theorem dL_set_21 : decode cL_set 21 = .ok (.iconst 2, 1) := by decide +kernel
theorem dL_set_22 : decode cL_set 22 = .ok (.ireturn, 1) := by decide +kernel
theorem dL_set_23 : decode cL_set 23 = .ok (.astore 5, 2) := by decide +kernel
theorem dL_set_25 : decode cL_set 25 = .ok (.iconst 3, 1) := by decide +kernel
theorem dL_set_26 : decode cL_set 26 = .ok (.ireturn, 1) := by decide +kernel
theorem dL_set_27 : decode cL_set 27 = .ok (.iconst 0, 1) := by decide +kernel
theorem dL_set_28 : decode cL_set 28 = .ok (.ireturn, 1) := by decide +kernel
theorem dL_add_0 : decode cL_add 0 = .ok (.aload 4, 2) := by decide +kernel
theorem dL_add_2 : decode cL_add 2 = .ok (.iconst 0, 1) := by decide +kernel
theorem dL_add_3 : decode cL_add 3 = .ok (.aload_n 0, 1) := by decide +kernel
theorem dL_add_4 : decode cL_add 4 = .ok (.iload_n 1, 1) := by decide +kernel
theorem dL_add_5 : decode cL_add 5 = .ok (.iload_n 2, 1) := by decide +kernel
theorem dL_add_6 : decode cL_add 6 = .ok (.iload_n 3, 1) := by decide +kernel
theorem dL_add_7 : decode cL_add 7 = .ok (.invokevirtual 30, 3) := by decide +kernel
theorem dL_add_10 : decode cL_add 10 = .ok (.i2l, 1) := by decide +kernel
theorem dL_add_11 : decode cL_add 11 = .ok (.lastore, 1) := by decide +kernel
theorem dL_add_12 : decode cL_add 12 = .ok (.goto 15, 3) := by decide +kernel
theorem dL_add_15 : decode cL_add 15 = .ok (.astore 5, 2) := by decide +kernel
theorem dL_add_17 : decode cL_add 17 = .ok (.iconst 1, 1) := by decide +kernel
theorem dL_add_18 : decode cL_add 18 = .ok (.ireturn, 1) := by decide +kernel
theorem dL_add_19 : decode cL_add 19 = .ok (.astore 5, 2) := by decide +kernel
theorem dL_add_21 : decode cL_add 21 = .ok (.iconst 2, 1) := by decide +kernel
theorem dL_add_22 : decode cL_add 22 = .ok (.ireturn, 1) := by decide +kernel
theorem dL_add_23 : decode cL_add 23 = .ok (.astore 5, 2) := by decide +kernel
theorem dL_add_25 : decode cL_add 25 = .ok (.iconst 3, 1) := by decide +kernel
theorem dL_add_26 : decode cL_add 26 = .ok (.ireturn, 1) := by decide +kernel
theorem dL_add_27 : decode cL_add 27 = .ok (.iconst 0, 1) := by decide +kernel
theorem dL_add_28 : decode cL_add 28 = .ok (.ireturn, 1) := by decide +kernel
theorem dL_repeat_0 : decode cL_repeat 0 = .ok (.aload_n 3, 1) := by decide +kernel
theorem dL_repeat_1 : decode cL_repeat 1 = .ok (.iconst 0, 1) := by decide +kernel
theorem dL_repeat_2 : decode cL_repeat 2 = .ok (.aload_n 0, 1) := by decide +kernel
theorem dL_repeat_3 : decode cL_repeat 3 = .ok (.iload_n 1, 1) := by decide +kernel
theorem dL_repeat_4 : decode cL_repeat 4 = .ok (.iload_n 2, 1) := by decide +kernel
theorem dL_repeat_5 : decode cL_repeat 5 = .ok (.invokevirtual 33, 3) := by decide +kernel
theorem dL_repeat_8 : decode cL_repeat 8 = .ok (.i2l, 1) := by decide +kernel
theorem dL_repeat_9 : decode cL_repeat 9 = .ok (.lastore, 1) := by decide +kernel
theorem dL_repeat_10 : decode cL_repeat 10 = .ok (.goto 15, 3) := by decide +kernel
theorem dL_repeat_13 : decode cL_repeat 13 = .ok (.astore 4, 2) := by decide +kernel
theorem dL_repeat_15 : decode cL_repeat 15 = .ok (.iconst 1, 1) := by decide +kernel
theorem dL_repeat_16 : decode cL_repeat 16 = .ok (.ireturn, 1) := by decide +kernel
theorem dL_repeat_17 : decode cL_repeat 17 = .ok (.astore 4, 2) := by decide +kernel
theorem dL_repeat_19 : decode cL_repeat 19 = .ok (.iconst 2, 1) := by decide +kernel
theorem dL_repeat_20 : decode cL_repeat 20 = .ok (.ireturn, 1) := by decide +kernel
theorem dL_repeat_21 : decode cL_repeat 21 = .ok (.astore 4, 2) := by decide +kernel
theorem dL_repeat_23 : decode cL_repeat 23 = .ok (.iconst 3, 1) := by decide +kernel
theorem dL_repeat_24 : decode cL_repeat 24 = .ok (.ireturn, 1) := by decide +kernel
theorem dL_repeat_25 : decode cL_repeat 25 = .ok (.iconst 0, 1) := by decide +kernel
theorem dL_repeat_26 : decode cL_repeat 26 = .ok (.ireturn, 1) := by decide +kernel
theorem dL_word_0 : decode cL_word 0 = .ok (.aload_n 2, 1) := by decide +kernel
theorem dL_word_1 : decode cL_word 1 = .ok (.iconst 0, 1) := by decide +kernel
theorem dL_word_2 : decode cL_word 2 = .ok (.aload_n 0, 1) := by decide +kernel
theorem dL_word_3 : decode cL_word 3 = .ok (.iload_n 1, 1) := by decide +kernel
theorem dL_word_4 : decode cL_word 4 = .ok (.invokevirtual 36, 3) := by decide +kernel
theorem dL_word_7 : decode cL_word 7 = .ok (.i2l, 1) := by decide +kernel
theorem dL_word_8 : decode cL_word 8 = .ok (.lastore, 1) := by decide +kernel
theorem dL_word_9 : decode cL_word 9 = .ok (.goto 9, 3) := by decide +kernel
theorem dL_word_12 : decode cL_word 12 = .ok (.astore_n 3, 1) := by decide +kernel
theorem dL_word_13 : decode cL_word 13 = .ok (.iconst 1, 1) := by decide +kernel
theorem dL_word_14 : decode cL_word 14 = .ok (.ireturn, 1) := by decide +kernel
theorem dL_word_15 : decode cL_word 15 = .ok (.astore_n 3, 1) := by decide +kernel
theorem dL_word_16 : decode cL_word 16 = .ok (.iconst 2, 1) := by decide +kernel
theorem dL_word_17 : decode cL_word 17 = .ok (.ireturn, 1) := by decide +kernel
theorem dL_word_18 : decode cL_word 18 = .ok (.iconst 0, 1) := by decide +kernel
theorem dL_word_19 : decode cL_word 19 = .ok (.ireturn, 1) := by decide +kernel
theorem dL_call_0 : decode cL_call 0 = .ok (.aload_n 2, 1) := by decide +kernel
theorem dL_call_1 : decode cL_call 1 = .ok (.iconst 0, 1) := by decide +kernel
theorem dL_call_2 : decode cL_call 2 = .ok (.aload_n 0, 1) := by decide +kernel
theorem dL_call_3 : decode cL_call 3 = .ok (.iload_n 1, 1) := by decide +kernel
theorem dL_call_4 : decode cL_call 4 = .ok (.invokevirtual 40, 3) := by decide +kernel
theorem dL_call_7 : decode cL_call 7 = .ok (.i2l, 1) := by decide +kernel
theorem dL_call_8 : decode cL_call 8 = .ok (.lastore, 1) := by decide +kernel
theorem dL_call_9 : decode cL_call 9 = .ok (.goto 9, 3) := by decide +kernel
theorem dL_call_12 : decode cL_call 12 = .ok (.astore_n 3, 1) := by decide +kernel
theorem dL_call_13 : decode cL_call 13 = .ok (.iconst 1, 1) := by decide +kernel
theorem dL_call_14 : decode cL_call 14 = .ok (.ireturn, 1) := by decide +kernel
theorem dL_call_15 : decode cL_call 15 = .ok (.astore_n 3, 1) := by decide +kernel
theorem dL_call_16 : decode cL_call 16 = .ok (.iconst 2, 1) := by decide +kernel
theorem dL_call_17 : decode cL_call 17 = .ok (.ireturn, 1) := by decide +kernel
theorem dL_call_18 : decode cL_call 18 = .ok (.iconst 0, 1) := by decide +kernel
theorem dL_call_19 : decode cL_call 19 = .ok (.ireturn, 1) := by decide +kernel
theorem dL_end_0 : decode cL_end 0 = .ok (.aload_n 1, 1) := by decide +kernel
theorem dL_end_1 : decode cL_end 1 = .ok (.iconst 0, 1) := by decide +kernel
theorem dL_end_2 : decode cL_end 2 = .ok (.aload_n 0, 1) := by decide +kernel
theorem dL_end_3 : decode cL_end 3 = .ok (.invokevirtual 43, 3) := by decide +kernel
theorem dL_end_6 : decode cL_end 6 = .ok (.i2l, 1) := by decide +kernel
theorem dL_end_7 : decode cL_end 7 = .ok (.lastore, 1) := by decide +kernel
theorem dL_end_8 : decode cL_end 8 = .ok (.goto 6, 3) := by decide +kernel
theorem dL_end_11 : decode cL_end 11 = .ok (.astore_n 2, 1) := by decide +kernel
theorem dL_end_12 : decode cL_end 12 = .ok (.iconst 1, 1) := by decide +kernel
theorem dL_end_13 : decode cL_end 13 = .ok (.ireturn, 1) := by decide +kernel
theorem dL_end_14 : decode cL_end 14 = .ok (.iconst 0, 1) := by decide +kernel
theorem dL_end_15 : decode cL_end 15 = .ok (.ireturn, 1) := by decide +kernel
theorem dL_write_0 : decode cL_write 0 = .ok (.aload_n 2, 1) := by decide +kernel
theorem dL_write_1 : decode cL_write 1 = .ok (.iconst 0, 1) := by decide +kernel
theorem dL_write_2 : decode cL_write 2 = .ok (.aload_n 0, 1) := by decide +kernel
theorem dL_write_3 : decode cL_write 3 = .ok (.iload_n 1, 1) := by decide +kernel
theorem dL_write_4 : decode cL_write 4 = .ok (.invokevirtual 47, 3) := by decide +kernel
theorem dL_write_7 : decode cL_write 7 = .ok (.i2l, 1) := by decide +kernel
theorem dL_write_8 : decode cL_write 8 = .ok (.lastore, 1) := by decide +kernel
theorem dL_write_9 : decode cL_write 9 = .ok (.goto 9, 3) := by decide +kernel
theorem dL_write_12 : decode cL_write 12 = .ok (.astore_n 3, 1) := by decide +kernel
theorem dL_write_13 : decode cL_write 13 = .ok (.iconst 1, 1) := by decide +kernel
theorem dL_write_14 : decode cL_write 14 = .ok (.ireturn, 1) := by decide +kernel
theorem dL_write_15 : decode cL_write 15 = .ok (.astore_n 3, 1) := by decide +kernel
theorem dL_write_16 : decode cL_write 16 = .ok (.iconst 2, 1) := by decide +kernel
theorem dL_write_17 : decode cL_write 17 = .ok (.ireturn, 1) := by decide +kernel
theorem dL_write_18 : decode cL_write 18 = .ok (.iconst 0, 1) := by decide +kernel
theorem dL_write_19 : decode cL_write 19 = .ok (.ireturn, 1) := by decide +kernel
theorem dL_exercise_0 : decode cL_exercise 0 = .ok (.aload 4, 2) := by decide +kernel
theorem dL_exercise_2 : decode cL_exercise 2 = .ok (.iconst 0, 1) := by decide +kernel
theorem dL_exercise_3 : decode cL_exercise 3 = .ok (.aload_n 0, 1) := by decide +kernel
theorem dL_exercise_4 : decode cL_exercise 4 = .ok (.iload_n 1, 1) := by decide +kernel
theorem dL_exercise_5 : decode cL_exercise 5 = .ok (.iload_n 2, 1) := by decide +kernel
theorem dL_exercise_6 : decode cL_exercise 6 = .ok (.iload_n 3, 1) := by decide +kernel
theorem dL_exercise_7 : decode cL_exercise 7 = .ok (.invokevirtual 50, 3) := by decide +kernel
theorem dL_exercise_10 : decode cL_exercise 10 = .ok (.i2l, 1) := by decide +kernel
theorem dL_exercise_11 : decode cL_exercise 11 = .ok (.lastore, 1) := by decide +kernel
theorem dL_exercise_12 : decode cL_exercise 12 = .ok (.goto 15, 3) := by decide +kernel
theorem dL_exercise_15 : decode cL_exercise 15 = .ok (.astore 5, 2) := by decide +kernel
theorem dL_exercise_17 : decode cL_exercise 17 = .ok (.iconst 1, 1) := by decide +kernel
theorem dL_exercise_18 : decode cL_exercise 18 = .ok (.ireturn, 1) := by decide +kernel
theorem dL_exercise_19 : decode cL_exercise 19 = .ok (.astore 5, 2) := by decide +kernel
theorem dL_exercise_21 : decode cL_exercise 21 = .ok (.iconst 2, 1) := by decide +kernel
theorem dL_exercise_22 : decode cL_exercise 22 = .ok (.ireturn, 1) := by decide +kernel
theorem dL_exercise_23 : decode cL_exercise 23 = .ok (.astore 5, 2) := by decide +kernel
theorem dL_exercise_25 : decode cL_exercise 25 = .ok (.iconst 3, 1) := by decide +kernel
theorem dL_exercise_26 : decode cL_exercise 26 = .ok (.ireturn, 1) := by decide +kernel
theorem dL_exercise_27 : decode cL_exercise 27 = .ok (.iconst 0, 1) := by decide +kernel
theorem dL_exercise_28 : decode cL_exercise 28 = .ok (.ireturn, 1) := by decide +kernel
theorem dL_allow_0 : decode cL_allow 0 = .ok (.aload 4, 2) := by decide +kernel
theorem dL_allow_2 : decode cL_allow 2 = .ok (.iconst 0, 1) := by decide +kernel
theorem dL_allow_3 : decode cL_allow 3 = .ok (.aload_n 0, 1) := by decide +kernel
theorem dL_allow_4 : decode cL_allow 4 = .ok (.iload_n 1, 1) := by decide +kernel
theorem dL_allow_5 : decode cL_allow 5 = .ok (.iload_n 2, 1) := by decide +kernel
theorem dL_allow_6 : decode cL_allow 6 = .ok (.iload_n 3, 1) := by decide +kernel
theorem dL_allow_7 : decode cL_allow 7 = .ok (.invokevirtual 54, 3) := by decide +kernel
theorem dL_allow_10 : decode cL_allow 10 = .ok (.i2l, 1) := by decide +kernel
theorem dL_allow_11 : decode cL_allow 11 = .ok (.lastore, 1) := by decide +kernel
theorem dL_allow_12 : decode cL_allow 12 = .ok (.goto 11, 3) := by decide +kernel
theorem dL_allow_15 : decode cL_allow 15 = .ok (.astore 5, 2) := by decide +kernel
theorem dL_allow_17 : decode cL_allow 17 = .ok (.iconst 1, 1) := by decide +kernel
theorem dL_allow_18 : decode cL_allow 18 = .ok (.ireturn, 1) := by decide +kernel
theorem dL_allow_19 : decode cL_allow 19 = .ok (.astore 5, 2) := by decide +kernel
theorem dL_allow_21 : decode cL_allow 21 = .ok (.iconst 2, 1) := by decide +kernel
theorem dL_allow_22 : decode cL_allow 22 = .ok (.ireturn, 1) := by decide +kernel
theorem dL_allow_23 : decode cL_allow 23 = .ok (.iconst 0, 1) := by decide +kernel
theorem dL_allow_24 : decode cL_allow 24 = .ok (.ireturn, 1) := by decide +kernel
theorem dL_handIn_0 : decode cL_handIn 0 = .ok (.aload_n 3, 1) := by decide +kernel
theorem dL_handIn_1 : decode cL_handIn 1 = .ok (.iconst 0, 1) := by decide +kernel
theorem dL_handIn_2 : decode cL_handIn 2 = .ok (.aload_n 0, 1) := by decide +kernel
theorem dL_handIn_3 : decode cL_handIn 3 = .ok (.iload_n 1, 1) := by decide +kernel
theorem dL_handIn_4 : decode cL_handIn 4 = .ok (.iload_n 2, 1) := by decide +kernel
theorem dL_handIn_5 : decode cL_handIn 5 = .ok (.invokevirtual 57, 3) := by decide +kernel
theorem dL_handIn_8 : decode cL_handIn 8 = .ok (.i2l, 1) := by decide +kernel
theorem dL_handIn_9 : decode cL_handIn 9 = .ok (.lastore, 1) := by decide +kernel
theorem dL_handIn_10 : decode cL_handIn 10 = .ok (.goto 11, 3) := by decide +kernel
theorem dL_handIn_13 : decode cL_handIn 13 = .ok (.astore 4, 2) := by decide +kernel
theorem dL_handIn_15 : decode cL_handIn 15 = .ok (.iconst 1, 1) := by decide +kernel
theorem dL_handIn_16 : decode cL_handIn 16 = .ok (.ireturn, 1) := by decide +kernel
theorem dL_handIn_17 : decode cL_handIn 17 = .ok (.astore 4, 2) := by decide +kernel
theorem dL_handIn_19 : decode cL_handIn 19 = .ok (.iconst 2, 1) := by decide +kernel
theorem dL_handIn_20 : decode cL_handIn 20 = .ok (.ireturn, 1) := by decide +kernel
theorem dL_handIn_21 : decode cL_handIn 21 = .ok (.iconst 0, 1) := by decide +kernel
theorem dL_handIn_22 : decode cL_handIn 22 = .ok (.ireturn, 1) := by decide +kernel
theorem dL_clear_0 : decode cL_clear 0 = .ok (.aload_n 3, 1) := by decide +kernel
theorem dL_clear_1 : decode cL_clear 1 = .ok (.iconst 0, 1) := by decide +kernel
theorem dL_clear_2 : decode cL_clear 2 = .ok (.aload_n 0, 1) := by decide +kernel
theorem dL_clear_3 : decode cL_clear 3 = .ok (.iload_n 1, 1) := by decide +kernel
theorem dL_clear_4 : decode cL_clear 4 = .ok (.iload_n 2, 1) := by decide +kernel
theorem dL_clear_5 : decode cL_clear 5 = .ok (.invokevirtual 61, 3) := by decide +kernel
theorem dL_clear_8 : decode cL_clear 8 = .ok (.ifCond .eq 7, 3) := by decide +kernel
theorem dL_clear_11 : decode cL_clear 11 = .ok (.lconst 1, 1) := by decide +kernel
theorem dL_clear_12 : decode cL_clear 12 = .ok (.goto 4, 3) := by decide +kernel
theorem dL_clear_15 : decode cL_clear 15 = .ok (.lconst 0, 1) := by decide +kernel
theorem dL_clear_16 : decode cL_clear 16 = .ok (.lastore, 1) := by decide +kernel
theorem dL_clear_17 : decode cL_clear 17 = .ok (.goto 7, 3) := by decide +kernel
theorem dL_clear_20 : decode cL_clear 20 = .ok (.astore 4, 2) := by decide +kernel
theorem dL_clear_22 : decode cL_clear 22 = .ok (.iconst 1, 1) := by decide +kernel
theorem dL_clear_23 : decode cL_clear 23 = .ok (.ireturn, 1) := by decide +kernel
theorem dL_clear_24 : decode cL_clear 24 = .ok (.iconst 0, 1) := by decide +kernel
theorem dL_clear_25 : decode cL_clear 25 = .ok (.ireturn, 1) := by decide +kernel
theorem dL_setWall_0 : decode cL_setWall 0 = .ok (.aload_n 3, 1) := by decide +kernel
theorem dL_setWall_1 : decode cL_setWall 1 = .ok (.iconst 0, 1) := by decide +kernel
theorem dL_setWall_2 : decode cL_setWall 2 = .ok (.aload_n 0, 1) := by decide +kernel
theorem dL_setWall_3 : decode cL_setWall 3 = .ok (.iload_n 1, 1) := by decide +kernel
theorem dL_setWall_4 : decode cL_setWall 4 = .ok (.iload_n 2, 1) := by decide +kernel
theorem dL_setWall_5 : decode cL_setWall 5 = .ok (.invokevirtual 65, 3) := by decide +kernel
theorem dL_setWall_8 : decode cL_setWall 8 = .ok (.i2l, 1) := by decide +kernel
theorem dL_setWall_9 : decode cL_setWall 9 = .ok (.lastore, 1) := by decide +kernel
theorem dL_setWall_10 : decode cL_setWall 10 = .ok (.goto 7, 3) := by decide +kernel
theorem dL_setWall_13 : decode cL_setWall 13 = .ok (.astore 4, 2) := by decide +kernel
theorem dL_setWall_15 : decode cL_setWall 15 = .ok (.iconst 1, 1) := by decide +kernel
theorem dL_setWall_16 : decode cL_setWall 16 = .ok (.ireturn, 1) := by decide +kernel
theorem dL_setWall_17 : decode cL_setWall 17 = .ok (.iconst 0, 1) := by decide +kernel
theorem dL_setWall_18 : decode cL_setWall 18 = .ok (.ireturn, 1) := by decide +kernel
theorem dL_fault_0 : decode cL_fault 0 = .ok (.aload_n 2, 1) := by decide +kernel
theorem dL_fault_1 : decode cL_fault 1 = .ok (.iconst 0, 1) := by decide +kernel
theorem dL_fault_2 : decode cL_fault 2 = .ok (.aload_n 0, 1) := by decide +kernel
theorem dL_fault_3 : decode cL_fault 3 = .ok (.iload_n 1, 1) := by decide +kernel
theorem dL_fault_4 : decode cL_fault 4 = .ok (.invokevirtual 68, 3) := by decide +kernel
theorem dL_fault_7 : decode cL_fault 7 = .ok (.i2l, 1) := by decide +kernel
theorem dL_fault_8 : decode cL_fault 8 = .ok (.lastore, 1) := by decide +kernel
theorem dL_fault_9 : decode cL_fault 9 = .ok (.goto 6, 3) := by decide +kernel
theorem dL_fault_12 : decode cL_fault 12 = .ok (.astore_n 3, 1) := by decide +kernel
theorem dL_fault_13 : decode cL_fault 13 = .ok (.iconst 1, 1) := by decide +kernel
theorem dL_fault_14 : decode cL_fault 14 = .ok (.ireturn, 1) := by decide +kernel
theorem dL_fault_15 : decode cL_fault 15 = .ok (.iconst 0, 1) := by decide +kernel
theorem dL_fault_16 : decode cL_fault 16 = .ok (.ireturn, 1) := by decide +kernel
theorem dL_steps_0 : decode cL_steps 0 = .ok (.aload_n 2, 1) := by decide +kernel
theorem dL_steps_1 : decode cL_steps 1 = .ok (.iconst 0, 1) := by decide +kernel
theorem dL_steps_2 : decode cL_steps 2 = .ok (.aload_n 0, 1) := by decide +kernel
theorem dL_steps_3 : decode cL_steps 3 = .ok (.iload_n 1, 1) := by decide +kernel
theorem dL_steps_4 : decode cL_steps 4 = .ok (.invokevirtual 71, 3) := by decide +kernel
theorem dL_steps_7 : decode cL_steps 7 = .ok (.i2l, 1) := by decide +kernel
theorem dL_steps_8 : decode cL_steps 8 = .ok (.lastore, 1) := by decide +kernel
theorem dL_steps_9 : decode cL_steps 9 = .ok (.goto 6, 3) := by decide +kernel
theorem dL_steps_12 : decode cL_steps 12 = .ok (.astore_n 3, 1) := by decide +kernel
theorem dL_steps_13 : decode cL_steps 13 = .ok (.iconst 1, 1) := by decide +kernel
theorem dL_steps_14 : decode cL_steps 14 = .ok (.ireturn, 1) := by decide +kernel
theorem dL_steps_15 : decode cL_steps 15 = .ok (.iconst 0, 1) := by decide +kernel
theorem dL_steps_16 : decode cL_steps 16 = .ok (.ireturn, 1) := by decide +kernel
theorem dL_strokes_0 : decode cL_strokes 0 = .ok (.aload_n 2, 1) := by decide +kernel
theorem dL_strokes_1 : decode cL_strokes 1 = .ok (.iconst 0, 1) := by decide +kernel
theorem dL_strokes_2 : decode cL_strokes 2 = .ok (.aload_n 0, 1) := by decide +kernel
theorem dL_strokes_3 : decode cL_strokes 3 = .ok (.iload_n 1, 1) := by decide +kernel
theorem dL_strokes_4 : decode cL_strokes 4 = .ok (.invokevirtual 74, 3) := by decide +kernel
theorem dL_strokes_7 : decode cL_strokes 7 = .ok (.i2l, 1) := by decide +kernel
theorem dL_strokes_8 : decode cL_strokes 8 = .ok (.lastore, 1) := by decide +kernel
theorem dL_strokes_9 : decode cL_strokes 9 = .ok (.goto 6, 3) := by decide +kernel
theorem dL_strokes_12 : decode cL_strokes 12 = .ok (.astore_n 3, 1) := by decide +kernel
theorem dL_strokes_13 : decode cL_strokes 13 = .ok (.iconst 1, 1) := by decide +kernel
theorem dL_strokes_14 : decode cL_strokes 14 = .ok (.ireturn, 1) := by decide +kernel
theorem dL_strokes_15 : decode cL_strokes 15 = .ok (.iconst 0, 1) := by decide +kernel
theorem dL_strokes_16 : decode cL_strokes 16 = .ok (.ireturn, 1) := by decide +kernel
theorem dL_strokesBySteps_0 : decode cL_strokesBySteps 0 = .ok (.aload_n 3, 1) := by decide +kernel
theorem dL_strokesBySteps_1 : decode cL_strokesBySteps 1 = .ok (.iconst 0, 1) := by decide +kernel
theorem dL_strokesBySteps_2 : decode cL_strokesBySteps 2 = .ok (.aload_n 0, 1) := by decide +kernel
theorem dL_strokesBySteps_3 : decode cL_strokesBySteps 3 = .ok (.iload_n 1, 1) := by decide +kernel
theorem dL_strokesBySteps_4 : decode cL_strokesBySteps 4 = .ok (.iload_n 2, 1) := by decide +kernel
theorem dL_strokesBySteps_5 : decode cL_strokesBySteps 5 = .ok (.invokevirtual 77, 3) := by decide +kernel
theorem dL_strokesBySteps_8 : decode cL_strokesBySteps 8 = .ok (.i2l, 1) := by decide +kernel
theorem dL_strokesBySteps_9 : decode cL_strokesBySteps 9 = .ok (.lastore, 1) := by decide +kernel
theorem dL_strokesBySteps_10 : decode cL_strokesBySteps 10 = .ok (.goto 11, 3) := by decide +kernel
theorem dL_strokesBySteps_13 : decode cL_strokesBySteps 13 = .ok (.astore 4, 2) := by decide +kernel
theorem dL_strokesBySteps_15 : decode cL_strokesBySteps 15 = .ok (.iconst 1, 1) := by decide +kernel
theorem dL_strokesBySteps_16 : decode cL_strokesBySteps 16 = .ok (.ireturn, 1) := by decide +kernel
theorem dL_strokesBySteps_17 : decode cL_strokesBySteps 17 = .ok (.astore 4, 2) := by decide +kernel
theorem dL_strokesBySteps_19 : decode cL_strokesBySteps 19 = .ok (.iconst 2, 1) := by decide +kernel
theorem dL_strokesBySteps_20 : decode cL_strokesBySteps 20 = .ok (.ireturn, 1) := by decide +kernel
theorem dL_strokesBySteps_21 : decode cL_strokesBySteps 21 = .ok (.iconst 0, 1) := by decide +kernel
theorem dL_strokesBySteps_22 : decode cL_strokesBySteps 22 = .ok (.ireturn, 1) := by decide +kernel
theorem dL_isDrawn_0 : decode cL_isDrawn 0 = .ok (.aload 5, 2) := by decide +kernel
theorem dL_isDrawn_2 : decode cL_isDrawn 2 = .ok (.iconst 0, 1) := by decide +kernel
theorem dL_isDrawn_3 : decode cL_isDrawn 3 = .ok (.aload_n 0, 1) := by decide +kernel
theorem dL_isDrawn_4 : decode cL_isDrawn 4 = .ok (.iload_n 1, 1) := by decide +kernel
theorem dL_isDrawn_5 : decode cL_isDrawn 5 = .ok (.iload_n 2, 1) := by decide +kernel
theorem dL_isDrawn_6 : decode cL_isDrawn 6 = .ok (.iload_n 3, 1) := by decide +kernel
theorem dL_isDrawn_7 : decode cL_isDrawn 7 = .ok (.iload 4, 2) := by decide +kernel
theorem dL_isDrawn_9 : decode cL_isDrawn 9 = .ok (.invokevirtual 80, 3) := by decide +kernel
theorem dL_isDrawn_12 : decode cL_isDrawn 12 = .ok (.ifCond .eq 7, 3) := by decide +kernel
theorem dL_isDrawn_15 : decode cL_isDrawn 15 = .ok (.lconst 1, 1) := by decide +kernel
theorem dL_isDrawn_16 : decode cL_isDrawn 16 = .ok (.goto 4, 3) := by decide +kernel
theorem dL_isDrawn_19 : decode cL_isDrawn 19 = .ok (.lconst 0, 1) := by decide +kernel
theorem dL_isDrawn_20 : decode cL_isDrawn 20 = .ok (.lastore, 1) := by decide +kernel
theorem dL_isDrawn_21 : decode cL_isDrawn 21 = .ok (.goto 7, 3) := by decide +kernel
theorem dL_isDrawn_24 : decode cL_isDrawn 24 = .ok (.astore 6, 2) := by decide +kernel
theorem dL_isDrawn_26 : decode cL_isDrawn 26 = .ok (.iconst 1, 1) := by decide +kernel
theorem dL_isDrawn_27 : decode cL_isDrawn 27 = .ok (.ireturn, 1) := by decide +kernel
theorem dL_isDrawn_28 : decode cL_isDrawn 28 = .ok (.iconst 0, 1) := by decide +kernel
theorem dL_isDrawn_29 : decode cL_isDrawn 29 = .ok (.ireturn, 1) := by decide +kernel
theorem dL_areAlike_0 : decode cL_areAlike 0 = .ok (.aload_n 3, 1) := by decide +kernel
theorem dL_areAlike_1 : decode cL_areAlike 1 = .ok (.iconst 0, 1) := by decide +kernel
theorem dL_areAlike_2 : decode cL_areAlike 2 = .ok (.aload_n 0, 1) := by decide +kernel
theorem dL_areAlike_3 : decode cL_areAlike 3 = .ok (.iload_n 1, 1) := by decide +kernel
theorem dL_areAlike_4 : decode cL_areAlike 4 = .ok (.iload_n 2, 1) := by decide +kernel
theorem dL_areAlike_5 : decode cL_areAlike 5 = .ok (.invokevirtual 84, 3) := by decide +kernel
theorem dL_areAlike_8 : decode cL_areAlike 8 = .ok (.ifCond .eq 7, 3) := by decide +kernel
theorem dL_areAlike_11 : decode cL_areAlike 11 = .ok (.lconst 1, 1) := by decide +kernel
theorem dL_areAlike_12 : decode cL_areAlike 12 = .ok (.goto 4, 3) := by decide +kernel
theorem dL_areAlike_15 : decode cL_areAlike 15 = .ok (.lconst 0, 1) := by decide +kernel
theorem dL_areAlike_16 : decode cL_areAlike 16 = .ok (.lastore, 1) := by decide +kernel
theorem dL_areAlike_17 : decode cL_areAlike 17 = .ok (.goto 7, 3) := by decide +kernel
theorem dL_areAlike_20 : decode cL_areAlike 20 = .ok (.astore 4, 2) := by decide +kernel
theorem dL_areAlike_22 : decode cL_areAlike 22 = .ok (.iconst 1, 1) := by decide +kernel
theorem dL_areAlike_23 : decode cL_areAlike 23 = .ok (.ireturn, 1) := by decide +kernel
theorem dL_areAlike_24 : decode cL_areAlike 24 = .ok (.iconst 0, 1) := by decide +kernel
theorem dL_areAlike_25 : decode cL_areAlike 25 = .ok (.ireturn, 1) := by decide +kernel
theorem dL_haveOneForm_0 : decode cL_haveOneForm 0 = .ok (.aload_n 3, 1) := by decide +kernel
theorem dL_haveOneForm_1 : decode cL_haveOneForm 1 = .ok (.iconst 0, 1) := by decide +kernel
theorem dL_haveOneForm_2 : decode cL_haveOneForm 2 = .ok (.aload_n 0, 1) := by decide +kernel
theorem dL_haveOneForm_3 : decode cL_haveOneForm 3 = .ok (.iload_n 1, 1) := by decide +kernel
theorem dL_haveOneForm_4 : decode cL_haveOneForm 4 = .ok (.iload_n 2, 1) := by decide +kernel
theorem dL_haveOneForm_5 : decode cL_haveOneForm 5 = .ok (.invokevirtual 88, 3) := by decide +kernel
theorem dL_haveOneForm_8 : decode cL_haveOneForm 8 = .ok (.ifCond .eq 7, 3) := by decide +kernel
theorem dL_haveOneForm_11 : decode cL_haveOneForm 11 = .ok (.lconst 1, 1) := by decide +kernel
theorem dL_haveOneForm_12 : decode cL_haveOneForm 12 = .ok (.goto 4, 3) := by decide +kernel
theorem dL_haveOneForm_15 : decode cL_haveOneForm 15 = .ok (.lconst 0, 1) := by decide +kernel
theorem dL_haveOneForm_16 : decode cL_haveOneForm 16 = .ok (.lastore, 1) := by decide +kernel
theorem dL_haveOneForm_17 : decode cL_haveOneForm 17 = .ok (.goto 7, 3) := by decide +kernel
theorem dL_haveOneForm_20 : decode cL_haveOneForm 20 = .ok (.astore 4, 2) := by decide +kernel
theorem dL_haveOneForm_22 : decode cL_haveOneForm 22 = .ok (.iconst 1, 1) := by decide +kernel
theorem dL_haveOneForm_23 : decode cL_haveOneForm 23 = .ok (.ireturn, 1) := by decide +kernel
theorem dL_haveOneForm_24 : decode cL_haveOneForm 24 = .ok (.iconst 0, 1) := by decide +kernel
theorem dL_haveOneForm_25 : decode cL_haveOneForm 25 = .ok (.ireturn, 1) := by decide +kernel
theorem dL_likeness_0 : decode cL_likeness 0 = .ok (.aload_n 3, 1) := by decide +kernel
theorem dL_likeness_1 : decode cL_likeness 1 = .ok (.iconst 0, 1) := by decide +kernel
theorem dL_likeness_2 : decode cL_likeness 2 = .ok (.aload_n 0, 1) := by decide +kernel
theorem dL_likeness_3 : decode cL_likeness 3 = .ok (.iload_n 1, 1) := by decide +kernel
theorem dL_likeness_4 : decode cL_likeness 4 = .ok (.iload_n 2, 1) := by decide +kernel
theorem dL_likeness_5 : decode cL_likeness 5 = .ok (.invokevirtual 91, 3) := by decide +kernel
theorem dL_likeness_8 : decode cL_likeness 8 = .ok (.i2l, 1) := by decide +kernel
theorem dL_likeness_9 : decode cL_likeness 9 = .ok (.lastore, 1) := by decide +kernel
theorem dL_likeness_10 : decode cL_likeness 10 = .ok (.goto 7, 3) := by decide +kernel
theorem dL_likeness_13 : decode cL_likeness 13 = .ok (.astore 4, 2) := by decide +kernel
theorem dL_likeness_15 : decode cL_likeness 15 = .ok (.iconst 1, 1) := by decide +kernel
theorem dL_likeness_16 : decode cL_likeness 16 = .ok (.ireturn, 1) := by decide +kernel
theorem dL_likeness_17 : decode cL_likeness 17 = .ok (.iconst 0, 1) := by decide +kernel
theorem dL_likeness_18 : decode cL_likeness 18 = .ok (.ireturn, 1) := by decide +kernel
theorem dL_meets_0 : decode cL_meets 0 = .ok (.aload_n 2, 1) := by decide +kernel
theorem dL_meets_1 : decode cL_meets 1 = .ok (.iconst 0, 1) := by decide +kernel
theorem dL_meets_2 : decode cL_meets 2 = .ok (.aload_n 0, 1) := by decide +kernel
theorem dL_meets_3 : decode cL_meets 3 = .ok (.iload_n 1, 1) := by decide +kernel
theorem dL_meets_4 : decode cL_meets 4 = .ok (.invokevirtual 94, 3) := by decide +kernel
theorem dL_meets_7 : decode cL_meets 7 = .ok (.ifCond .eq 7, 3) := by decide +kernel
theorem dL_meets_10 : decode cL_meets 10 = .ok (.lconst 1, 1) := by decide +kernel
theorem dL_meets_11 : decode cL_meets 11 = .ok (.goto 4, 3) := by decide +kernel
theorem dL_meets_14 : decode cL_meets 14 = .ok (.lconst 0, 1) := by decide +kernel
theorem dL_meets_15 : decode cL_meets 15 = .ok (.lastore, 1) := by decide +kernel
theorem dL_meets_16 : decode cL_meets 16 = .ok (.goto 6, 3) := by decide +kernel
theorem dL_meets_19 : decode cL_meets 19 = .ok (.astore_n 3, 1) := by decide +kernel
theorem dL_meets_20 : decode cL_meets 20 = .ok (.iconst 1, 1) := by decide +kernel
theorem dL_meets_21 : decode cL_meets 21 = .ok (.ireturn, 1) := by decide +kernel
theorem dL_meets_22 : decode cL_meets 22 = .ok (.iconst 0, 1) := by decide +kernel
theorem dL_meets_23 : decode cL_meets 23 = .ok (.ireturn, 1) := by decide +kernel
theorem dL_copyOf_0 : decode cL_copyOf 0 = .ok (.aload_n 2, 1) := by decide +kernel
theorem dL_copyOf_1 : decode cL_copyOf 1 = .ok (.iconst 0, 1) := by decide +kernel
theorem dL_copyOf_2 : decode cL_copyOf 2 = .ok (.aload_n 0, 1) := by decide +kernel
theorem dL_copyOf_3 : decode cL_copyOf 3 = .ok (.iload_n 1, 1) := by decide +kernel
theorem dL_copyOf_4 : decode cL_copyOf 4 = .ok (.invokevirtual 98, 3) := by decide +kernel
theorem dL_copyOf_7 : decode cL_copyOf 7 = .ok (.i2l, 1) := by decide +kernel
theorem dL_copyOf_8 : decode cL_copyOf 8 = .ok (.lastore, 1) := by decide +kernel
theorem dL_copyOf_9 : decode cL_copyOf 9 = .ok (.goto 6, 3) := by decide +kernel
theorem dL_copyOf_12 : decode cL_copyOf 12 = .ok (.astore_n 3, 1) := by decide +kernel
theorem dL_copyOf_13 : decode cL_copyOf 13 = .ok (.iconst 1, 1) := by decide +kernel
theorem dL_copyOf_14 : decode cL_copyOf 14 = .ok (.ireturn, 1) := by decide +kernel
theorem dL_copyOf_15 : decode cL_copyOf 15 = .ok (.iconst 0, 1) := by decide +kernel
theorem dL_copyOf_16 : decode cL_copyOf 16 = .ok (.ireturn, 1) := by decide +kernel
theorem dL_hangs_0 : decode cL_hangs 0 = .ok (.aload_n 2, 1) := by decide +kernel
theorem dL_hangs_1 : decode cL_hangs 1 = .ok (.iconst 0, 1) := by decide +kernel
theorem dL_hangs_2 : decode cL_hangs 2 = .ok (.aload_n 0, 1) := by decide +kernel
theorem dL_hangs_3 : decode cL_hangs 3 = .ok (.iload_n 1, 1) := by decide +kernel
theorem dL_hangs_4 : decode cL_hangs 4 = .ok (.invokevirtual 101, 3) := by decide +kernel
theorem dL_hangs_7 : decode cL_hangs 7 = .ok (.i2l, 1) := by decide +kernel
theorem dL_hangs_8 : decode cL_hangs 8 = .ok (.lastore, 1) := by decide +kernel
theorem dL_hangs_9 : decode cL_hangs 9 = .ok (.goto 6, 3) := by decide +kernel
theorem dL_hangs_12 : decode cL_hangs 12 = .ok (.astore_n 3, 1) := by decide +kernel
theorem dL_hangs_13 : decode cL_hangs 13 = .ok (.iconst 1, 1) := by decide +kernel
theorem dL_hangs_14 : decode cL_hangs 14 = .ok (.ireturn, 1) := by decide +kernel
theorem dL_hangs_15 : decode cL_hangs 15 = .ok (.iconst 0, 1) := by decide +kernel
theorem dL_hangs_16 : decode cL_hangs 16 = .ok (.ireturn, 1) := by decide +kernel
theorem dL_onWall_0 : decode cL_onWall 0 = .ok (.aload_n 3, 1) := by decide +kernel
theorem dL_onWall_1 : decode cL_onWall 1 = .ok (.iconst 0, 1) := by decide +kernel
theorem dL_onWall_2 : decode cL_onWall 2 = .ok (.aload_n 0, 1) := by decide +kernel
theorem dL_onWall_3 : decode cL_onWall 3 = .ok (.iload_n 1, 1) := by decide +kernel
theorem dL_onWall_4 : decode cL_onWall 4 = .ok (.iload_n 2, 1) := by decide +kernel
theorem dL_onWall_5 : decode cL_onWall 5 = .ok (.invokevirtual 104, 3) := by decide +kernel
theorem dL_onWall_8 : decode cL_onWall 8 = .ok (.i2l, 1) := by decide +kernel
theorem dL_onWall_9 : decode cL_onWall 9 = .ok (.lastore, 1) := by decide +kernel
theorem dL_onWall_10 : decode cL_onWall 10 = .ok (.goto 7, 3) := by decide +kernel
theorem dL_onWall_13 : decode cL_onWall 13 = .ok (.astore 4, 2) := by decide +kernel
theorem dL_onWall_15 : decode cL_onWall 15 = .ok (.iconst 1, 1) := by decide +kernel
theorem dL_onWall_16 : decode cL_onWall 16 = .ok (.ireturn, 1) := by decide +kernel
theorem dL_onWall_17 : decode cL_onWall 17 = .ok (.iconst 0, 1) := by decide +kernel
theorem dL_onWall_18 : decode cL_onWall 18 = .ok (.ireturn, 1) := by decide +kernel
theorem dL_hung_0 : decode cL_hung 0 = .ok (.aload_n 2, 1) := by decide +kernel
theorem dL_hung_1 : decode cL_hung 1 = .ok (.iconst 0, 1) := by decide +kernel
theorem dL_hung_2 : decode cL_hung 2 = .ok (.aload_n 0, 1) := by decide +kernel
theorem dL_hung_3 : decode cL_hung 3 = .ok (.iload_n 1, 1) := by decide +kernel
theorem dL_hung_4 : decode cL_hung 4 = .ok (.invokevirtual 107, 3) := by decide +kernel
theorem dL_hung_7 : decode cL_hung 7 = .ok (.i2l, 1) := by decide +kernel
theorem dL_hung_8 : decode cL_hung 8 = .ok (.lastore, 1) := by decide +kernel
theorem dL_hung_9 : decode cL_hung 9 = .ok (.goto 6, 3) := by decide +kernel
theorem dL_hung_12 : decode cL_hung 12 = .ok (.astore_n 3, 1) := by decide +kernel
theorem dL_hung_13 : decode cL_hung 13 = .ok (.iconst 1, 1) := by decide +kernel
theorem dL_hung_14 : decode cL_hung 14 = .ok (.ireturn, 1) := by decide +kernel
theorem dL_hung_15 : decode cL_hung 15 = .ok (.iconst 0, 1) := by decide +kernel
theorem dL_hung_16 : decode cL_hung 16 = .ok (.ireturn, 1) := by decide +kernel
theorem dL_law_0 : decode cL_law 0 = .ok (.new 8, 3) := by decide +kernel
theorem dL_law_3 : decode cL_law 3 = .ok (.dup, 1) := by decide +kernel
theorem dL_law_4 : decode cL_law 4 = .ok (.invokespecial 110, 3) := by decide +kernel
theorem dL_law_7 : decode cL_law 7 = .ok (.astore_n 1, 1) := by decide +kernel
theorem dL_law_8 : decode cL_law 8 = .ok (.new 111, 3) := by decide +kernel
theorem dL_law_11 : decode cL_law 11 = .ok (.dup, 1) := by decide +kernel
theorem dL_law_12 : decode cL_law 12 = .ok (.invokespecial 113, 3) := by decide +kernel
theorem dL_law_15 : decode cL_law 15 = .ok (.astore_n 2, 1) := by decide +kernel
theorem dL_law_16 : decode cL_law 16 = .ok (.iconst 1, 1) := by decide +kernel
theorem dL_law_17 : decode cL_law 17 = .ok (.newarray .long, 2) := by decide +kernel
theorem dL_law_19 : decode cL_law 19 = .ok (.astore_n 3, 1) := by decide +kernel
theorem dL_law_20 : decode cL_law 20 = .ok (.iconst 0, 1) := by decide +kernel
theorem dL_law_21 : decode cL_law 21 = .ok (.istore 4, 2) := by decide +kernel
theorem dL_law_23 : decode cL_law 23 = .ok (.iload 4, 2) := by decide +kernel
theorem dL_law_25 : decode cL_law 25 = .ok (.aload_n 0, 1) := by decide +kernel
theorem dL_law_26 : decode cL_law 26 = .ok (.arraylength, 1) := by decide +kernel
theorem dL_law_27 : decode cL_law 27 = .ok (.iconst 5, 1) := by decide +kernel
theorem dL_law_28 : decode cL_law 28 = .ok (.isub, 1) := by decide +kernel
theorem dL_law_29 : decode cL_law 29 = .ok (.if_icmp .gt 2192, 3) := by decide +kernel
theorem dL_law_32 : decode cL_law 32 = .ok (.aload_n 0, 1) := by decide +kernel
theorem dL_law_33 : decode cL_law 33 = .ok (.iload 4, 2) := by decide +kernel
theorem dL_law_35 : decode cL_law 35 = .ok (.iaload, 1) := by decide +kernel
theorem dL_law_36 : decode cL_law 36 = .ok (.bipush 31, 2) := by decide +kernel
theorem dL_law_38 : decode cL_law 38 = .ok (.iand, 1) := by decide +kernel
theorem dL_law_39 : decode cL_law 39 = .ok (.tableswitch 2176 0 31 #[141, 225, 309, 381, 477, 573, 657, 713, 769, 813, 826, 882, 962, 1042, 1110, 1201, 1269, 1282, 1295, 1351, 1407, 1463, 1531, 1646, 1721, 1796, 1864, 1877, 1940, 1996, 2052, 2120], 141) := by decide +kernel
theorem dL_law_180 : decode cL_law 180 = .ok (.aload_n 1, 1) := by decide +kernel
theorem dL_law_181 : decode cL_law 181 = .ok (.aload_n 0, 1) := by decide +kernel
theorem dL_law_182 : decode cL_law 182 = .ok (.iload 4, 2) := by decide +kernel
theorem dL_law_184 : decode cL_law 184 = .ok (.iconst 1, 1) := by decide +kernel
theorem dL_law_185 : decode cL_law 185 = .ok (.iadd, 1) := by decide +kernel
theorem dL_law_186 : decode cL_law 186 = .ok (.iaload, 1) := by decide +kernel
theorem dL_law_187 : decode cL_law 187 = .ok (.aload_n 0, 1) := by decide +kernel
theorem dL_law_188 : decode cL_law 188 = .ok (.iload 4, 2) := by decide +kernel
theorem dL_law_190 : decode cL_law 190 = .ok (.iconst 2, 1) := by decide +kernel
theorem dL_law_191 : decode cL_law 191 = .ok (.iadd, 1) := by decide +kernel
theorem dL_law_192 : decode cL_law 192 = .ok (.iaload, 1) := by decide +kernel
theorem dL_law_193 : decode cL_law 193 = .ok (.ifCond .eq 7, 3) := by decide +kernel
theorem dL_law_196 : decode cL_law 196 = .ok (.iconst 1, 1) := by decide +kernel
theorem dL_law_197 : decode cL_law 197 = .ok (.goto 4, 3) := by decide +kernel
theorem dL_law_200 : decode cL_law 200 = .ok (.iconst 0, 1) := by decide +kernel
theorem dL_law_201 : decode cL_law 201 = .ok (.aload_n 3, 1) := by decide +kernel
theorem dL_law_202 : decode cL_law 202 = .ok (.invokestatic 114, 3) := by decide +kernel
theorem dL_law_205 : decode cL_law 205 = .ok (.istore 5, 2) := by decide +kernel
theorem dL_law_207 : decode cL_law 207 = .ok (.aload_n 2, 1) := by decide +kernel
theorem dL_law_208 : decode cL_law 208 = .ok (.aload_n 0, 1) := by decide +kernel
theorem dL_law_209 : decode cL_law 209 = .ok (.iload 4, 2) := by decide +kernel
theorem dL_law_211 : decode cL_law 211 = .ok (.iconst 1, 1) := by decide +kernel
theorem dL_law_212 : decode cL_law 212 = .ok (.iadd, 1) := by decide +kernel
theorem dL_law_213 : decode cL_law 213 = .ok (.iaload, 1) := by decide +kernel
theorem dL_law_214 : decode cL_law 214 = .ok (.aload_n 0, 1) := by decide +kernel
theorem dL_law_215 : decode cL_law 215 = .ok (.iload 4, 2) := by decide +kernel
theorem dL_law_217 : decode cL_law 217 = .ok (.iconst 2, 1) := by decide +kernel
theorem dL_law_218 : decode cL_law 218 = .ok (.iadd, 1) := by decide +kernel
theorem dL_law_219 : decode cL_law 219 = .ok (.iaload, 1) := by decide +kernel
theorem dL_law_220 : decode cL_law 220 = .ok (.ifCond .eq 7, 3) := by decide +kernel
theorem dL_law_223 : decode cL_law 223 = .ok (.iconst 1, 1) := by decide +kernel
theorem dL_law_224 : decode cL_law 224 = .ok (.goto 4, 3) := by decide +kernel
theorem dL_law_227 : decode cL_law 227 = .ok (.iconst 0, 1) := by decide +kernel
theorem dL_law_228 : decode cL_law 228 = .ok (.invokevirtual 119, 3) := by decide +kernel
theorem dL_law_231 : decode cL_law 231 = .ok (.istore 6, 2) := by decide +kernel
theorem dL_law_233 : decode cL_law 233 = .ok (.aload_n 2, 1) := by decide +kernel
theorem dL_law_234 : decode cL_law 234 = .ok (.invokevirtual 120, 3) := by decide +kernel
theorem dL_law_237 : decode cL_law 237 = .ok (.iload 5, 2) := by decide +kernel
theorem dL_law_239 : decode cL_law 239 = .ok (.if_icmp .eq 5, 3) := by decide +kernel
theorem dL_law_242 : decode cL_law 242 = .ok (.iconst 0, 1) := by decide +kernel
theorem dL_law_243 : decode cL_law 243 = .ok (.ireturn, 1) := by decide +kernel
theorem dL_law_244 : decode cL_law 244 = .ok (.iload 5, 2) := by decide +kernel
theorem dL_law_246 : decode cL_law 246 = .ok (.ifCond .ne 15, 3) := by decide +kernel
theorem dL_law_249 : decode cL_law 249 = .ok (.aload_n 3, 1) := by decide +kernel
theorem dL_law_250 : decode cL_law 250 = .ok (.iconst 0, 1) := by decide +kernel
theorem dL_law_251 : decode cL_law 251 = .ok (.laload, 1) := by decide +kernel
theorem dL_law_252 : decode cL_law 252 = .ok (.iload 6, 2) := by decide +kernel
theorem dL_law_254 : decode cL_law 254 = .ok (.i2l, 1) := by decide +kernel
theorem dL_law_255 : decode cL_law 255 = .ok (.lcmp, 1) := by decide +kernel
theorem dL_law_256 : decode cL_law 256 = .ok (.ifCond .eq 5, 3) := by decide +kernel
theorem dL_law_259 : decode cL_law 259 = .ok (.iconst 0, 1) := by decide +kernel
theorem dL_law_260 : decode cL_law 260 = .ok (.ireturn, 1) := by decide +kernel
theorem dL_law_261 : decode cL_law 261 = .ok (.goto 1954, 3) := by decide +kernel
theorem dL_law_264 : decode cL_law 264 = .ok (.aload_n 1, 1) := by decide +kernel
theorem dL_law_265 : decode cL_law 265 = .ok (.aload_n 0, 1) := by decide +kernel
theorem dL_law_266 : decode cL_law 266 = .ok (.iload 4, 2) := by decide +kernel
theorem dL_law_268 : decode cL_law 268 = .ok (.iconst 1, 1) := by decide +kernel
theorem dL_law_269 : decode cL_law 269 = .ok (.iadd, 1) := by decide +kernel
theorem dL_law_270 : decode cL_law 270 = .ok (.iaload, 1) := by decide +kernel
theorem dL_law_271 : decode cL_law 271 = .ok (.aload_n 0, 1) := by decide +kernel
theorem dL_law_272 : decode cL_law 272 = .ok (.iload 4, 2) := by decide +kernel
theorem dL_law_274 : decode cL_law 274 = .ok (.iconst 2, 1) := by decide +kernel
theorem dL_law_275 : decode cL_law 275 = .ok (.iadd, 1) := by decide +kernel
theorem dL_law_276 : decode cL_law 276 = .ok (.iaload, 1) := by decide +kernel
theorem dL_law_277 : decode cL_law 277 = .ok (.ifCond .eq 7, 3) := by decide +kernel
theorem dL_law_280 : decode cL_law 280 = .ok (.iconst 1, 1) := by decide +kernel
theorem dL_law_281 : decode cL_law 281 = .ok (.goto 4, 3) := by decide +kernel
theorem dL_law_284 : decode cL_law 284 = .ok (.iconst 0, 1) := by decide +kernel
theorem dL_law_285 : decode cL_law 285 = .ok (.aload_n 3, 1) := by decide +kernel
theorem dL_law_286 : decode cL_law 286 = .ok (.invokestatic 123, 3) := by decide +kernel
theorem dL_law_289 : decode cL_law 289 = .ok (.istore 5, 2) := by decide +kernel
theorem dL_law_291 : decode cL_law 291 = .ok (.aload_n 2, 1) := by decide +kernel
theorem dL_law_292 : decode cL_law 292 = .ok (.aload_n 0, 1) := by decide +kernel
theorem dL_law_293 : decode cL_law 293 = .ok (.iload 4, 2) := by decide +kernel
theorem dL_law_295 : decode cL_law 295 = .ok (.iconst 1, 1) := by decide +kernel
theorem dL_law_296 : decode cL_law 296 = .ok (.iadd, 1) := by decide +kernel
theorem dL_law_297 : decode cL_law 297 = .ok (.iaload, 1) := by decide +kernel
theorem dL_law_298 : decode cL_law 298 = .ok (.aload_n 0, 1) := by decide +kernel
theorem dL_law_299 : decode cL_law 299 = .ok (.iload 4, 2) := by decide +kernel
theorem dL_law_301 : decode cL_law 301 = .ok (.iconst 2, 1) := by decide +kernel
theorem dL_law_302 : decode cL_law 302 = .ok (.iadd, 1) := by decide +kernel
theorem dL_law_303 : decode cL_law 303 = .ok (.iaload, 1) := by decide +kernel
theorem dL_law_304 : decode cL_law 304 = .ok (.ifCond .eq 7, 3) := by decide +kernel
theorem dL_law_307 : decode cL_law 307 = .ok (.iconst 1, 1) := by decide +kernel
theorem dL_law_308 : decode cL_law 308 = .ok (.goto 4, 3) := by decide +kernel
theorem dL_law_311 : decode cL_law 311 = .ok (.iconst 0, 1) := by decide +kernel
theorem dL_law_312 : decode cL_law 312 = .ok (.invokevirtual 125, 3) := by decide +kernel
theorem dL_law_315 : decode cL_law 315 = .ok (.istore 6, 2) := by decide +kernel
theorem dL_law_317 : decode cL_law 317 = .ok (.aload_n 2, 1) := by decide +kernel
theorem dL_law_318 : decode cL_law 318 = .ok (.invokevirtual 120, 3) := by decide +kernel
theorem dL_law_321 : decode cL_law 321 = .ok (.iload 5, 2) := by decide +kernel
theorem dL_law_323 : decode cL_law 323 = .ok (.if_icmp .eq 5, 3) := by decide +kernel
theorem dL_law_326 : decode cL_law 326 = .ok (.iconst 0, 1) := by decide +kernel
theorem dL_law_327 : decode cL_law 327 = .ok (.ireturn, 1) := by decide +kernel
theorem dL_law_328 : decode cL_law 328 = .ok (.iload 5, 2) := by decide +kernel
theorem dL_law_330 : decode cL_law 330 = .ok (.ifCond .ne 15, 3) := by decide +kernel
theorem dL_law_333 : decode cL_law 333 = .ok (.aload_n 3, 1) := by decide +kernel
theorem dL_law_334 : decode cL_law 334 = .ok (.iconst 0, 1) := by decide +kernel
theorem dL_law_335 : decode cL_law 335 = .ok (.laload, 1) := by decide +kernel
theorem dL_law_336 : decode cL_law 336 = .ok (.iload 6, 2) := by decide +kernel
theorem dL_law_338 : decode cL_law 338 = .ok (.i2l, 1) := by decide +kernel
theorem dL_law_339 : decode cL_law 339 = .ok (.lcmp, 1) := by decide +kernel
theorem dL_law_340 : decode cL_law 340 = .ok (.ifCond .eq 5, 3) := by decide +kernel
theorem dL_law_343 : decode cL_law 343 = .ok (.iconst 0, 1) := by decide +kernel
theorem dL_law_344 : decode cL_law 344 = .ok (.ireturn, 1) := by decide +kernel
theorem dL_law_345 : decode cL_law 345 = .ok (.goto 1870, 3) := by decide +kernel
theorem dL_law_348 : decode cL_law 348 = .ok (.aload_n 1, 1) := by decide +kernel
theorem dL_law_349 : decode cL_law 349 = .ok (.aload_n 0, 1) := by decide +kernel
theorem dL_law_350 : decode cL_law 350 = .ok (.iload 4, 2) := by decide +kernel
theorem dL_law_352 : decode cL_law 352 = .ok (.iconst 1, 1) := by decide +kernel
theorem dL_law_353 : decode cL_law 353 = .ok (.iadd, 1) := by decide +kernel
theorem dL_law_354 : decode cL_law 354 = .ok (.iaload, 1) := by decide +kernel
theorem dL_law_355 : decode cL_law 355 = .ok (.ifCond .eq 7, 3) := by decide +kernel
theorem dL_law_358 : decode cL_law 358 = .ok (.iconst 1, 1) := by decide +kernel
theorem dL_law_359 : decode cL_law 359 = .ok (.goto 4, 3) := by decide +kernel
theorem dL_law_362 : decode cL_law 362 = .ok (.iconst 0, 1) := by decide +kernel
theorem dL_law_363 : decode cL_law 363 = .ok (.aload_n 3, 1) := by decide +kernel
theorem dL_law_364 : decode cL_law 364 = .ok (.invokestatic 126, 3) := by decide +kernel
theorem dL_law_367 : decode cL_law 367 = .ok (.istore 5, 2) := by decide +kernel
theorem dL_law_369 : decode cL_law 369 = .ok (.aload_n 2, 1) := by decide +kernel
theorem dL_law_370 : decode cL_law 370 = .ok (.aload_n 0, 1) := by decide +kernel
theorem dL_law_371 : decode cL_law 371 = .ok (.iload 4, 2) := by decide +kernel
theorem dL_law_373 : decode cL_law 373 = .ok (.iconst 1, 1) := by decide +kernel
theorem dL_law_374 : decode cL_law 374 = .ok (.iadd, 1) := by decide +kernel
theorem dL_law_375 : decode cL_law 375 = .ok (.iaload, 1) := by decide +kernel
theorem dL_law_376 : decode cL_law 376 = .ok (.ifCond .eq 7, 3) := by decide +kernel
theorem dL_law_379 : decode cL_law 379 = .ok (.iconst 1, 1) := by decide +kernel
theorem dL_law_380 : decode cL_law 380 = .ok (.goto 4, 3) := by decide +kernel
theorem dL_law_383 : decode cL_law 383 = .ok (.iconst 0, 1) := by decide +kernel
theorem dL_law_384 : decode cL_law 384 = .ok (.invokevirtual 129, 3) := by decide +kernel
theorem dL_law_387 : decode cL_law 387 = .ok (.istore 6, 2) := by decide +kernel
theorem dL_law_389 : decode cL_law 389 = .ok (.aload_n 2, 1) := by decide +kernel
theorem dL_law_390 : decode cL_law 390 = .ok (.invokevirtual 120, 3) := by decide +kernel
theorem dL_law_393 : decode cL_law 393 = .ok (.iload 5, 2) := by decide +kernel
theorem dL_law_395 : decode cL_law 395 = .ok (.if_icmp .eq 5, 3) := by decide +kernel
theorem dL_law_398 : decode cL_law 398 = .ok (.iconst 0, 1) := by decide +kernel
theorem dL_law_399 : decode cL_law 399 = .ok (.ireturn, 1) := by decide +kernel
theorem dL_law_400 : decode cL_law 400 = .ok (.iload 5, 2) := by decide +kernel
theorem dL_law_402 : decode cL_law 402 = .ok (.ifCond .ne 15, 3) := by decide +kernel
theorem dL_law_405 : decode cL_law 405 = .ok (.aload_n 3, 1) := by decide +kernel
theorem dL_law_406 : decode cL_law 406 = .ok (.iconst 0, 1) := by decide +kernel
theorem dL_law_407 : decode cL_law 407 = .ok (.laload, 1) := by decide +kernel
theorem dL_law_408 : decode cL_law 408 = .ok (.iload 6, 2) := by decide +kernel
theorem dL_law_410 : decode cL_law 410 = .ok (.i2l, 1) := by decide +kernel
theorem dL_law_411 : decode cL_law 411 = .ok (.lcmp, 1) := by decide +kernel
theorem dL_law_412 : decode cL_law 412 = .ok (.ifCond .eq 5, 3) := by decide +kernel
theorem dL_law_415 : decode cL_law 415 = .ok (.iconst 0, 1) := by decide +kernel
theorem dL_law_416 : decode cL_law 416 = .ok (.ireturn, 1) := by decide +kernel
theorem dL_law_417 : decode cL_law 417 = .ok (.goto 1798, 3) := by decide +kernel
theorem dL_law_420 : decode cL_law 420 = .ok (.aload_n 1, 1) := by decide +kernel
theorem dL_law_421 : decode cL_law 421 = .ok (.aload_n 0, 1) := by decide +kernel
theorem dL_law_422 : decode cL_law 422 = .ok (.iload 4, 2) := by decide +kernel
theorem dL_law_424 : decode cL_law 424 = .ok (.iconst 1, 1) := by decide +kernel
theorem dL_law_425 : decode cL_law 425 = .ok (.iadd, 1) := by decide +kernel
theorem dL_law_426 : decode cL_law 426 = .ok (.iaload, 1) := by decide +kernel
theorem dL_law_427 : decode cL_law 427 = .ok (.aload_n 0, 1) := by decide +kernel
theorem dL_law_428 : decode cL_law 428 = .ok (.iload 4, 2) := by decide +kernel
theorem dL_law_430 : decode cL_law 430 = .ok (.iconst 2, 1) := by decide +kernel
theorem dL_law_431 : decode cL_law 431 = .ok (.iadd, 1) := by decide +kernel
theorem dL_law_432 : decode cL_law 432 = .ok (.iaload, 1) := by decide +kernel
theorem dL_law_433 : decode cL_law 433 = .ok (.aload_n 0, 1) := by decide +kernel
theorem dL_law_434 : decode cL_law 434 = .ok (.iload 4, 2) := by decide +kernel
theorem dL_law_436 : decode cL_law 436 = .ok (.iconst 3, 1) := by decide +kernel
theorem dL_law_437 : decode cL_law 437 = .ok (.iadd, 1) := by decide +kernel
theorem dL_law_438 : decode cL_law 438 = .ok (.iaload, 1) := by decide +kernel
theorem dL_law_439 : decode cL_law 439 = .ok (.ifCond .eq 7, 3) := by decide +kernel
theorem dL_law_442 : decode cL_law 442 = .ok (.iconst 1, 1) := by decide +kernel
theorem dL_law_443 : decode cL_law 443 = .ok (.goto 4, 3) := by decide +kernel
theorem dL_law_446 : decode cL_law 446 = .ok (.iconst 0, 1) := by decide +kernel
theorem dL_law_447 : decode cL_law 447 = .ok (.aload_n 3, 1) := by decide +kernel
theorem dL_law_448 : decode cL_law 448 = .ok (.invokestatic 130, 3) := by decide +kernel
theorem dL_law_451 : decode cL_law 451 = .ok (.istore 5, 2) := by decide +kernel
theorem dL_law_453 : decode cL_law 453 = .ok (.aload_n 2, 1) := by decide +kernel
theorem dL_law_454 : decode cL_law 454 = .ok (.aload_n 0, 1) := by decide +kernel
theorem dL_law_455 : decode cL_law 455 = .ok (.iload 4, 2) := by decide +kernel
theorem dL_law_457 : decode cL_law 457 = .ok (.iconst 1, 1) := by decide +kernel
theorem dL_law_458 : decode cL_law 458 = .ok (.iadd, 1) := by decide +kernel
theorem dL_law_459 : decode cL_law 459 = .ok (.iaload, 1) := by decide +kernel
theorem dL_law_460 : decode cL_law 460 = .ok (.aload_n 0, 1) := by decide +kernel
theorem dL_law_461 : decode cL_law 461 = .ok (.iload 4, 2) := by decide +kernel
theorem dL_law_463 : decode cL_law 463 = .ok (.iconst 2, 1) := by decide +kernel
theorem dL_law_464 : decode cL_law 464 = .ok (.iadd, 1) := by decide +kernel
theorem dL_law_465 : decode cL_law 465 = .ok (.iaload, 1) := by decide +kernel
theorem dL_law_466 : decode cL_law 466 = .ok (.aload_n 0, 1) := by decide +kernel
theorem dL_law_467 : decode cL_law 467 = .ok (.iload 4, 2) := by decide +kernel
theorem dL_law_469 : decode cL_law 469 = .ok (.iconst 3, 1) := by decide +kernel
theorem dL_law_470 : decode cL_law 470 = .ok (.iadd, 1) := by decide +kernel
theorem dL_law_471 : decode cL_law 471 = .ok (.iaload, 1) := by decide +kernel
theorem dL_law_472 : decode cL_law 472 = .ok (.ifCond .eq 7, 3) := by decide +kernel
theorem dL_law_475 : decode cL_law 475 = .ok (.iconst 1, 1) := by decide +kernel
theorem dL_law_476 : decode cL_law 476 = .ok (.goto 4, 3) := by decide +kernel
theorem dL_law_479 : decode cL_law 479 = .ok (.iconst 0, 1) := by decide +kernel
theorem dL_law_480 : decode cL_law 480 = .ok (.invokevirtual 133, 3) := by decide +kernel
theorem dL_law_483 : decode cL_law 483 = .ok (.istore 6, 2) := by decide +kernel
theorem dL_law_485 : decode cL_law 485 = .ok (.aload_n 2, 1) := by decide +kernel
theorem dL_law_486 : decode cL_law 486 = .ok (.invokevirtual 120, 3) := by decide +kernel
theorem dL_law_489 : decode cL_law 489 = .ok (.iload 5, 2) := by decide +kernel
theorem dL_law_491 : decode cL_law 491 = .ok (.if_icmp .eq 5, 3) := by decide +kernel
theorem dL_law_494 : decode cL_law 494 = .ok (.iconst 0, 1) := by decide +kernel
theorem dL_law_495 : decode cL_law 495 = .ok (.ireturn, 1) := by decide +kernel
theorem dL_law_496 : decode cL_law 496 = .ok (.iload 5, 2) := by decide +kernel
theorem dL_law_498 : decode cL_law 498 = .ok (.ifCond .ne 15, 3) := by decide +kernel
theorem dL_law_501 : decode cL_law 501 = .ok (.aload_n 3, 1) := by decide +kernel
theorem dL_law_502 : decode cL_law 502 = .ok (.iconst 0, 1) := by decide +kernel
theorem dL_law_503 : decode cL_law 503 = .ok (.laload, 1) := by decide +kernel
theorem dL_law_504 : decode cL_law 504 = .ok (.iload 6, 2) := by decide +kernel
theorem dL_law_506 : decode cL_law 506 = .ok (.i2l, 1) := by decide +kernel
theorem dL_law_507 : decode cL_law 507 = .ok (.lcmp, 1) := by decide +kernel
theorem dL_law_508 : decode cL_law 508 = .ok (.ifCond .eq 5, 3) := by decide +kernel
theorem dL_law_511 : decode cL_law 511 = .ok (.iconst 0, 1) := by decide +kernel
theorem dL_law_512 : decode cL_law 512 = .ok (.ireturn, 1) := by decide +kernel
theorem dL_law_513 : decode cL_law 513 = .ok (.goto 1702, 3) := by decide +kernel
theorem dL_law_516 : decode cL_law 516 = .ok (.aload_n 1, 1) := by decide +kernel
theorem dL_law_517 : decode cL_law 517 = .ok (.aload_n 0, 1) := by decide +kernel
theorem dL_law_518 : decode cL_law 518 = .ok (.iload 4, 2) := by decide +kernel
theorem dL_law_520 : decode cL_law 520 = .ok (.iconst 1, 1) := by decide +kernel
theorem dL_law_521 : decode cL_law 521 = .ok (.iadd, 1) := by decide +kernel
theorem dL_law_522 : decode cL_law 522 = .ok (.iaload, 1) := by decide +kernel
theorem dL_law_523 : decode cL_law 523 = .ok (.aload_n 0, 1) := by decide +kernel
theorem dL_law_524 : decode cL_law 524 = .ok (.iload 4, 2) := by decide +kernel
theorem dL_law_526 : decode cL_law 526 = .ok (.iconst 2, 1) := by decide +kernel
theorem dL_law_527 : decode cL_law 527 = .ok (.iadd, 1) := by decide +kernel
theorem dL_law_528 : decode cL_law 528 = .ok (.iaload, 1) := by decide +kernel
theorem dL_law_529 : decode cL_law 529 = .ok (.aload_n 0, 1) := by decide +kernel
theorem dL_law_530 : decode cL_law 530 = .ok (.iload 4, 2) := by decide +kernel
theorem dL_law_532 : decode cL_law 532 = .ok (.iconst 3, 1) := by decide +kernel
theorem dL_law_533 : decode cL_law 533 = .ok (.iadd, 1) := by decide +kernel
theorem dL_law_534 : decode cL_law 534 = .ok (.iaload, 1) := by decide +kernel
theorem dL_law_535 : decode cL_law 535 = .ok (.ifCond .eq 7, 3) := by decide +kernel
theorem dL_law_538 : decode cL_law 538 = .ok (.iconst 1, 1) := by decide +kernel
theorem dL_law_539 : decode cL_law 539 = .ok (.goto 4, 3) := by decide +kernel
theorem dL_law_542 : decode cL_law 542 = .ok (.iconst 0, 1) := by decide +kernel
theorem dL_law_543 : decode cL_law 543 = .ok (.aload_n 3, 1) := by decide +kernel
theorem dL_law_544 : decode cL_law 544 = .ok (.invokestatic 134, 3) := by decide +kernel
theorem dL_law_547 : decode cL_law 547 = .ok (.istore 5, 2) := by decide +kernel
theorem dL_law_549 : decode cL_law 549 = .ok (.aload_n 2, 1) := by decide +kernel
theorem dL_law_550 : decode cL_law 550 = .ok (.aload_n 0, 1) := by decide +kernel
theorem dL_law_551 : decode cL_law 551 = .ok (.iload 4, 2) := by decide +kernel
theorem dL_law_553 : decode cL_law 553 = .ok (.iconst 1, 1) := by decide +kernel
theorem dL_law_554 : decode cL_law 554 = .ok (.iadd, 1) := by decide +kernel
theorem dL_law_555 : decode cL_law 555 = .ok (.iaload, 1) := by decide +kernel
theorem dL_law_556 : decode cL_law 556 = .ok (.aload_n 0, 1) := by decide +kernel
theorem dL_law_557 : decode cL_law 557 = .ok (.iload 4, 2) := by decide +kernel
theorem dL_law_559 : decode cL_law 559 = .ok (.iconst 2, 1) := by decide +kernel
theorem dL_law_560 : decode cL_law 560 = .ok (.iadd, 1) := by decide +kernel
theorem dL_law_561 : decode cL_law 561 = .ok (.iaload, 1) := by decide +kernel
theorem dL_law_562 : decode cL_law 562 = .ok (.aload_n 0, 1) := by decide +kernel
theorem dL_law_563 : decode cL_law 563 = .ok (.iload 4, 2) := by decide +kernel
theorem dL_law_565 : decode cL_law 565 = .ok (.iconst 3, 1) := by decide +kernel
theorem dL_law_566 : decode cL_law 566 = .ok (.iadd, 1) := by decide +kernel
theorem dL_law_567 : decode cL_law 567 = .ok (.iaload, 1) := by decide +kernel
theorem dL_law_568 : decode cL_law 568 = .ok (.ifCond .eq 7, 3) := by decide +kernel
theorem dL_law_571 : decode cL_law 571 = .ok (.iconst 1, 1) := by decide +kernel
theorem dL_law_572 : decode cL_law 572 = .ok (.goto 4, 3) := by decide +kernel
theorem dL_law_575 : decode cL_law 575 = .ok (.iconst 0, 1) := by decide +kernel
theorem dL_law_576 : decode cL_law 576 = .ok (.invokevirtual 136, 3) := by decide +kernel
theorem dL_law_579 : decode cL_law 579 = .ok (.istore 6, 2) := by decide +kernel
theorem dL_law_581 : decode cL_law 581 = .ok (.aload_n 2, 1) := by decide +kernel
theorem dL_law_582 : decode cL_law 582 = .ok (.invokevirtual 120, 3) := by decide +kernel
theorem dL_law_585 : decode cL_law 585 = .ok (.iload 5, 2) := by decide +kernel
theorem dL_law_587 : decode cL_law 587 = .ok (.if_icmp .eq 5, 3) := by decide +kernel
theorem dL_law_590 : decode cL_law 590 = .ok (.iconst 0, 1) := by decide +kernel
theorem dL_law_591 : decode cL_law 591 = .ok (.ireturn, 1) := by decide +kernel
theorem dL_law_592 : decode cL_law 592 = .ok (.iload 5, 2) := by decide +kernel
theorem dL_law_594 : decode cL_law 594 = .ok (.ifCond .ne 15, 3) := by decide +kernel
theorem dL_law_597 : decode cL_law 597 = .ok (.aload_n 3, 1) := by decide +kernel
theorem dL_law_598 : decode cL_law 598 = .ok (.iconst 0, 1) := by decide +kernel
theorem dL_law_599 : decode cL_law 599 = .ok (.laload, 1) := by decide +kernel
theorem dL_law_600 : decode cL_law 600 = .ok (.iload 6, 2) := by decide +kernel
theorem dL_law_602 : decode cL_law 602 = .ok (.i2l, 1) := by decide +kernel
theorem dL_law_603 : decode cL_law 603 = .ok (.lcmp, 1) := by decide +kernel
theorem dL_law_604 : decode cL_law 604 = .ok (.ifCond .eq 5, 3) := by decide +kernel
theorem dL_law_607 : decode cL_law 607 = .ok (.iconst 0, 1) := by decide +kernel
theorem dL_law_608 : decode cL_law 608 = .ok (.ireturn, 1) := by decide +kernel
theorem dL_law_609 : decode cL_law 609 = .ok (.goto 1606, 3) := by decide +kernel
theorem dL_law_612 : decode cL_law 612 = .ok (.aload_n 1, 1) := by decide +kernel
theorem dL_law_613 : decode cL_law 613 = .ok (.aload_n 0, 1) := by decide +kernel
theorem dL_law_614 : decode cL_law 614 = .ok (.iload 4, 2) := by decide +kernel
theorem dL_law_616 : decode cL_law 616 = .ok (.iconst 1, 1) := by decide +kernel
theorem dL_law_617 : decode cL_law 617 = .ok (.iadd, 1) := by decide +kernel
theorem dL_law_618 : decode cL_law 618 = .ok (.iaload, 1) := by decide +kernel
theorem dL_law_619 : decode cL_law 619 = .ok (.aload_n 0, 1) := by decide +kernel
theorem dL_law_620 : decode cL_law 620 = .ok (.iload 4, 2) := by decide +kernel
theorem dL_law_622 : decode cL_law 622 = .ok (.iconst 2, 1) := by decide +kernel
theorem dL_law_623 : decode cL_law 623 = .ok (.iadd, 1) := by decide +kernel
theorem dL_law_624 : decode cL_law 624 = .ok (.iaload, 1) := by decide +kernel
theorem dL_law_625 : decode cL_law 625 = .ok (.ifCond .eq 7, 3) := by decide +kernel
theorem dL_law_628 : decode cL_law 628 = .ok (.iconst 1, 1) := by decide +kernel
theorem dL_law_629 : decode cL_law 629 = .ok (.goto 4, 3) := by decide +kernel
theorem dL_law_632 : decode cL_law 632 = .ok (.iconst 0, 1) := by decide +kernel
theorem dL_law_633 : decode cL_law 633 = .ok (.aload_n 3, 1) := by decide +kernel
theorem dL_law_634 : decode cL_law 634 = .ok (.invokestatic 137, 3) := by decide +kernel
theorem dL_law_637 : decode cL_law 637 = .ok (.istore 5, 2) := by decide +kernel
theorem dL_law_639 : decode cL_law 639 = .ok (.aload_n 2, 1) := by decide +kernel
theorem dL_law_640 : decode cL_law 640 = .ok (.aload_n 0, 1) := by decide +kernel
theorem dL_law_641 : decode cL_law 641 = .ok (.iload 4, 2) := by decide +kernel
theorem dL_law_643 : decode cL_law 643 = .ok (.iconst 1, 1) := by decide +kernel
theorem dL_law_644 : decode cL_law 644 = .ok (.iadd, 1) := by decide +kernel
theorem dL_law_645 : decode cL_law 645 = .ok (.iaload, 1) := by decide +kernel
theorem dL_law_646 : decode cL_law 646 = .ok (.aload_n 0, 1) := by decide +kernel
theorem dL_law_647 : decode cL_law 647 = .ok (.iload 4, 2) := by decide +kernel
theorem dL_law_649 : decode cL_law 649 = .ok (.iconst 2, 1) := by decide +kernel
theorem dL_law_650 : decode cL_law 650 = .ok (.iadd, 1) := by decide +kernel
theorem dL_law_651 : decode cL_law 651 = .ok (.iaload, 1) := by decide +kernel
theorem dL_law_652 : decode cL_law 652 = .ok (.ifCond .eq 7, 3) := by decide +kernel
theorem dL_law_655 : decode cL_law 655 = .ok (.iconst 1, 1) := by decide +kernel
theorem dL_law_656 : decode cL_law 656 = .ok (.goto 4, 3) := by decide +kernel
theorem dL_law_659 : decode cL_law 659 = .ok (.iconst 0, 1) := by decide +kernel
theorem dL_law_660 : decode cL_law 660 = .ok (.invokevirtual 139, 3) := by decide +kernel
theorem dL_law_663 : decode cL_law 663 = .ok (.istore 6, 2) := by decide +kernel
theorem dL_law_665 : decode cL_law 665 = .ok (.aload_n 2, 1) := by decide +kernel
theorem dL_law_666 : decode cL_law 666 = .ok (.invokevirtual 120, 3) := by decide +kernel
theorem dL_law_669 : decode cL_law 669 = .ok (.iload 5, 2) := by decide +kernel
theorem dL_law_671 : decode cL_law 671 = .ok (.if_icmp .eq 5, 3) := by decide +kernel
theorem dL_law_674 : decode cL_law 674 = .ok (.iconst 0, 1) := by decide +kernel
theorem dL_law_675 : decode cL_law 675 = .ok (.ireturn, 1) := by decide +kernel
theorem dL_law_676 : decode cL_law 676 = .ok (.iload 5, 2) := by decide +kernel
theorem dL_law_678 : decode cL_law 678 = .ok (.ifCond .ne 15, 3) := by decide +kernel
theorem dL_law_681 : decode cL_law 681 = .ok (.aload_n 3, 1) := by decide +kernel
theorem dL_law_682 : decode cL_law 682 = .ok (.iconst 0, 1) := by decide +kernel
theorem dL_law_683 : decode cL_law 683 = .ok (.laload, 1) := by decide +kernel
theorem dL_law_684 : decode cL_law 684 = .ok (.iload 6, 2) := by decide +kernel
theorem dL_law_686 : decode cL_law 686 = .ok (.i2l, 1) := by decide +kernel
theorem dL_law_687 : decode cL_law 687 = .ok (.lcmp, 1) := by decide +kernel
theorem dL_law_688 : decode cL_law 688 = .ok (.ifCond .eq 5, 3) := by decide +kernel
theorem dL_law_691 : decode cL_law 691 = .ok (.iconst 0, 1) := by decide +kernel
theorem dL_law_692 : decode cL_law 692 = .ok (.ireturn, 1) := by decide +kernel
theorem dL_law_693 : decode cL_law 693 = .ok (.goto 1522, 3) := by decide +kernel
theorem dL_law_696 : decode cL_law 696 = .ok (.aload_n 1, 1) := by decide +kernel
theorem dL_law_697 : decode cL_law 697 = .ok (.aload_n 0, 1) := by decide +kernel
theorem dL_law_698 : decode cL_law 698 = .ok (.iload 4, 2) := by decide +kernel
theorem dL_law_700 : decode cL_law 700 = .ok (.iconst 1, 1) := by decide +kernel
theorem dL_law_701 : decode cL_law 701 = .ok (.iadd, 1) := by decide +kernel
theorem dL_law_702 : decode cL_law 702 = .ok (.iaload, 1) := by decide +kernel
theorem dL_law_703 : decode cL_law 703 = .ok (.aload_n 3, 1) := by decide +kernel
theorem dL_law_704 : decode cL_law 704 = .ok (.invokestatic 140, 3) := by decide +kernel
theorem dL_law_707 : decode cL_law 707 = .ok (.istore 5, 2) := by decide +kernel
theorem dL_law_709 : decode cL_law 709 = .ok (.aload_n 2, 1) := by decide +kernel
theorem dL_law_710 : decode cL_law 710 = .ok (.aload_n 0, 1) := by decide +kernel
theorem dL_law_711 : decode cL_law 711 = .ok (.iload 4, 2) := by decide +kernel
theorem dL_law_713 : decode cL_law 713 = .ok (.iconst 1, 1) := by decide +kernel
theorem dL_law_714 : decode cL_law 714 = .ok (.iadd, 1) := by decide +kernel
theorem dL_law_715 : decode cL_law 715 = .ok (.iaload, 1) := by decide +kernel
theorem dL_law_716 : decode cL_law 716 = .ok (.invokevirtual 143, 3) := by decide +kernel
theorem dL_law_719 : decode cL_law 719 = .ok (.istore 6, 2) := by decide +kernel
theorem dL_law_721 : decode cL_law 721 = .ok (.aload_n 2, 1) := by decide +kernel
theorem dL_law_722 : decode cL_law 722 = .ok (.invokevirtual 120, 3) := by decide +kernel
theorem dL_law_725 : decode cL_law 725 = .ok (.iload 5, 2) := by decide +kernel
theorem dL_law_727 : decode cL_law 727 = .ok (.if_icmp .eq 5, 3) := by decide +kernel
theorem dL_law_730 : decode cL_law 730 = .ok (.iconst 0, 1) := by decide +kernel
theorem dL_law_731 : decode cL_law 731 = .ok (.ireturn, 1) := by decide +kernel
theorem dL_law_732 : decode cL_law 732 = .ok (.iload 5, 2) := by decide +kernel
theorem dL_law_734 : decode cL_law 734 = .ok (.ifCond .ne 15, 3) := by decide +kernel
theorem dL_law_737 : decode cL_law 737 = .ok (.aload_n 3, 1) := by decide +kernel
theorem dL_law_738 : decode cL_law 738 = .ok (.iconst 0, 1) := by decide +kernel
theorem dL_law_739 : decode cL_law 739 = .ok (.laload, 1) := by decide +kernel
theorem dL_law_740 : decode cL_law 740 = .ok (.iload 6, 2) := by decide +kernel
theorem dL_law_742 : decode cL_law 742 = .ok (.i2l, 1) := by decide +kernel
theorem dL_law_743 : decode cL_law 743 = .ok (.lcmp, 1) := by decide +kernel
theorem dL_law_744 : decode cL_law 744 = .ok (.ifCond .eq 5, 3) := by decide +kernel
theorem dL_law_747 : decode cL_law 747 = .ok (.iconst 0, 1) := by decide +kernel
theorem dL_law_748 : decode cL_law 748 = .ok (.ireturn, 1) := by decide +kernel
theorem dL_law_749 : decode cL_law 749 = .ok (.goto 1466, 3) := by decide +kernel
theorem dL_law_752 : decode cL_law 752 = .ok (.aload_n 1, 1) := by decide +kernel
theorem dL_law_753 : decode cL_law 753 = .ok (.aload_n 0, 1) := by decide +kernel
theorem dL_law_754 : decode cL_law 754 = .ok (.iload 4, 2) := by decide +kernel
theorem dL_law_756 : decode cL_law 756 = .ok (.iconst 1, 1) := by decide +kernel
theorem dL_law_757 : decode cL_law 757 = .ok (.iadd, 1) := by decide +kernel
theorem dL_law_758 : decode cL_law 758 = .ok (.iaload, 1) := by decide +kernel
theorem dL_law_759 : decode cL_law 759 = .ok (.aload_n 3, 1) := by decide +kernel
theorem dL_law_760 : decode cL_law 760 = .ok (.invokestatic 144, 3) := by decide +kernel
theorem dL_law_763 : decode cL_law 763 = .ok (.istore 5, 2) := by decide +kernel
theorem dL_law_765 : decode cL_law 765 = .ok (.aload_n 2, 1) := by decide +kernel
theorem dL_law_766 : decode cL_law 766 = .ok (.aload_n 0, 1) := by decide +kernel
theorem dL_law_767 : decode cL_law 767 = .ok (.iload 4, 2) := by decide +kernel
theorem dL_law_769 : decode cL_law 769 = .ok (.iconst 1, 1) := by decide +kernel
theorem dL_law_770 : decode cL_law 770 = .ok (.iadd, 1) := by decide +kernel
theorem dL_law_771 : decode cL_law 771 = .ok (.iaload, 1) := by decide +kernel
theorem dL_law_772 : decode cL_law 772 = .ok (.invokevirtual 146, 3) := by decide +kernel
theorem dL_law_775 : decode cL_law 775 = .ok (.istore 6, 2) := by decide +kernel
theorem dL_law_777 : decode cL_law 777 = .ok (.aload_n 2, 1) := by decide +kernel
theorem dL_law_778 : decode cL_law 778 = .ok (.invokevirtual 120, 3) := by decide +kernel
theorem dL_law_781 : decode cL_law 781 = .ok (.iload 5, 2) := by decide +kernel
theorem dL_law_783 : decode cL_law 783 = .ok (.if_icmp .eq 5, 3) := by decide +kernel
theorem dL_law_786 : decode cL_law 786 = .ok (.iconst 0, 1) := by decide +kernel
theorem dL_law_787 : decode cL_law 787 = .ok (.ireturn, 1) := by decide +kernel
theorem dL_law_788 : decode cL_law 788 = .ok (.iload 5, 2) := by decide +kernel
theorem dL_law_790 : decode cL_law 790 = .ok (.ifCond .ne 15, 3) := by decide +kernel
theorem dL_law_793 : decode cL_law 793 = .ok (.aload_n 3, 1) := by decide +kernel
theorem dL_law_794 : decode cL_law 794 = .ok (.iconst 0, 1) := by decide +kernel
theorem dL_law_795 : decode cL_law 795 = .ok (.laload, 1) := by decide +kernel
theorem dL_law_796 : decode cL_law 796 = .ok (.iload 6, 2) := by decide +kernel
theorem dL_law_798 : decode cL_law 798 = .ok (.i2l, 1) := by decide +kernel
theorem dL_law_799 : decode cL_law 799 = .ok (.lcmp, 1) := by decide +kernel
theorem dL_law_800 : decode cL_law 800 = .ok (.ifCond .eq 5, 3) := by decide +kernel
theorem dL_law_803 : decode cL_law 803 = .ok (.iconst 0, 1) := by decide +kernel
theorem dL_law_804 : decode cL_law 804 = .ok (.ireturn, 1) := by decide +kernel
theorem dL_law_805 : decode cL_law 805 = .ok (.goto 1410, 3) := by decide +kernel
theorem dL_law_808 : decode cL_law 808 = .ok (.aload_n 1, 1) := by decide +kernel
theorem dL_law_809 : decode cL_law 809 = .ok (.aload_n 3, 1) := by decide +kernel
theorem dL_law_810 : decode cL_law 810 = .ok (.invokestatic 147, 3) := by decide +kernel
theorem dL_law_813 : decode cL_law 813 = .ok (.istore 5, 2) := by decide +kernel
theorem dL_law_815 : decode cL_law 815 = .ok (.aload_n 2, 1) := by decide +kernel
theorem dL_law_816 : decode cL_law 816 = .ok (.invokevirtual 150, 3) := by decide +kernel
theorem dL_law_819 : decode cL_law 819 = .ok (.istore 6, 2) := by decide +kernel
theorem dL_law_821 : decode cL_law 821 = .ok (.aload_n 2, 1) := by decide +kernel
theorem dL_law_822 : decode cL_law 822 = .ok (.invokevirtual 120, 3) := by decide +kernel
theorem dL_law_825 : decode cL_law 825 = .ok (.iload 5, 2) := by decide +kernel
theorem dL_law_827 : decode cL_law 827 = .ok (.if_icmp .eq 5, 3) := by decide +kernel
theorem dL_law_830 : decode cL_law 830 = .ok (.iconst 0, 1) := by decide +kernel
theorem dL_law_831 : decode cL_law 831 = .ok (.ireturn, 1) := by decide +kernel
theorem dL_law_832 : decode cL_law 832 = .ok (.iload 5, 2) := by decide +kernel
theorem dL_law_834 : decode cL_law 834 = .ok (.ifCond .ne 15, 3) := by decide +kernel
theorem dL_law_837 : decode cL_law 837 = .ok (.aload_n 3, 1) := by decide +kernel
theorem dL_law_838 : decode cL_law 838 = .ok (.iconst 0, 1) := by decide +kernel
theorem dL_law_839 : decode cL_law 839 = .ok (.laload, 1) := by decide +kernel
theorem dL_law_840 : decode cL_law 840 = .ok (.iload 6, 2) := by decide +kernel
theorem dL_law_842 : decode cL_law 842 = .ok (.i2l, 1) := by decide +kernel
theorem dL_law_843 : decode cL_law 843 = .ok (.lcmp, 1) := by decide +kernel
theorem dL_law_844 : decode cL_law 844 = .ok (.ifCond .eq 5, 3) := by decide +kernel
theorem dL_law_847 : decode cL_law 847 = .ok (.iconst 0, 1) := by decide +kernel
theorem dL_law_848 : decode cL_law 848 = .ok (.ireturn, 1) := by decide +kernel
theorem dL_law_849 : decode cL_law 849 = .ok (.goto 1366, 3) := by decide +kernel
theorem dL_law_852 : decode cL_law 852 = .ok (.aload_n 1, 1) := by decide +kernel
theorem dL_law_853 : decode cL_law 853 = .ok (.invokevirtual 151, 3) := by decide +kernel
theorem dL_law_856 : decode cL_law 856 = .ok (.aload_n 2, 1) := by decide +kernel
theorem dL_law_857 : decode cL_law 857 = .ok (.invokevirtual 154, 3) := by decide +kernel
theorem dL_law_860 : decode cL_law 860 = .ok (.if_icmp .eq 1355, 3) := by decide +kernel
theorem dL_law_863 : decode cL_law 863 = .ok (.iconst 0, 1) := by decide +kernel
theorem dL_law_864 : decode cL_law 864 = .ok (.ireturn, 1) := by decide +kernel
theorem dL_law_865 : decode cL_law 865 = .ok (.aload_n 1, 1) := by decide +kernel
theorem dL_law_866 : decode cL_law 866 = .ok (.aload_n 0, 1) := by decide +kernel
theorem dL_law_867 : decode cL_law 867 = .ok (.iload 4, 2) := by decide +kernel
theorem dL_law_869 : decode cL_law 869 = .ok (.iconst 1, 1) := by decide +kernel
theorem dL_law_870 : decode cL_law 870 = .ok (.iadd, 1) := by decide +kernel
theorem dL_law_871 : decode cL_law 871 = .ok (.iaload, 1) := by decide +kernel
theorem dL_law_872 : decode cL_law 872 = .ok (.aload_n 3, 1) := by decide +kernel
theorem dL_law_873 : decode cL_law 873 = .ok (.invokestatic 155, 3) := by decide +kernel
theorem dL_law_876 : decode cL_law 876 = .ok (.istore 5, 2) := by decide +kernel
theorem dL_law_878 : decode cL_law 878 = .ok (.aload_n 2, 1) := by decide +kernel
theorem dL_law_879 : decode cL_law 879 = .ok (.aload_n 0, 1) := by decide +kernel
theorem dL_law_880 : decode cL_law 880 = .ok (.iload 4, 2) := by decide +kernel
theorem dL_law_882 : decode cL_law 882 = .ok (.iconst 1, 1) := by decide +kernel
theorem dL_law_883 : decode cL_law 883 = .ok (.iadd, 1) := by decide +kernel
theorem dL_law_884 : decode cL_law 884 = .ok (.iaload, 1) := by decide +kernel
theorem dL_law_885 : decode cL_law 885 = .ok (.invokevirtual 157, 3) := by decide +kernel
theorem dL_law_888 : decode cL_law 888 = .ok (.istore 6, 2) := by decide +kernel
theorem dL_law_890 : decode cL_law 890 = .ok (.aload_n 2, 1) := by decide +kernel
theorem dL_law_891 : decode cL_law 891 = .ok (.invokevirtual 120, 3) := by decide +kernel
theorem dL_law_894 : decode cL_law 894 = .ok (.iload 5, 2) := by decide +kernel
theorem dL_law_896 : decode cL_law 896 = .ok (.if_icmp .eq 5, 3) := by decide +kernel
theorem dL_law_899 : decode cL_law 899 = .ok (.iconst 0, 1) := by decide +kernel
theorem dL_law_900 : decode cL_law 900 = .ok (.ireturn, 1) := by decide +kernel
theorem dL_law_901 : decode cL_law 901 = .ok (.iload 5, 2) := by decide +kernel
theorem dL_law_903 : decode cL_law 903 = .ok (.ifCond .ne 15, 3) := by decide +kernel
theorem dL_law_906 : decode cL_law 906 = .ok (.aload_n 3, 1) := by decide +kernel
theorem dL_law_907 : decode cL_law 907 = .ok (.iconst 0, 1) := by decide +kernel
theorem dL_law_908 : decode cL_law 908 = .ok (.laload, 1) := by decide +kernel
theorem dL_law_909 : decode cL_law 909 = .ok (.iload 6, 2) := by decide +kernel
theorem dL_law_911 : decode cL_law 911 = .ok (.i2l, 1) := by decide +kernel
theorem dL_law_912 : decode cL_law 912 = .ok (.lcmp, 1) := by decide +kernel
theorem dL_law_913 : decode cL_law 913 = .ok (.ifCond .eq 5, 3) := by decide +kernel
theorem dL_law_916 : decode cL_law 916 = .ok (.iconst 0, 1) := by decide +kernel
theorem dL_law_917 : decode cL_law 917 = .ok (.ireturn, 1) := by decide +kernel
theorem dL_law_918 : decode cL_law 918 = .ok (.goto 1297, 3) := by decide +kernel
theorem dL_law_921 : decode cL_law 921 = .ok (.aload_n 1, 1) := by decide +kernel
theorem dL_law_922 : decode cL_law 922 = .ok (.aload_n 0, 1) := by decide +kernel
theorem dL_law_923 : decode cL_law 923 = .ok (.iload 4, 2) := by decide +kernel
theorem dL_law_925 : decode cL_law 925 = .ok (.iconst 1, 1) := by decide +kernel
theorem dL_law_926 : decode cL_law 926 = .ok (.iadd, 1) := by decide +kernel
theorem dL_law_927 : decode cL_law 927 = .ok (.iaload, 1) := by decide +kernel
theorem dL_law_928 : decode cL_law 928 = .ok (.aload_n 0, 1) := by decide +kernel
theorem dL_law_929 : decode cL_law 929 = .ok (.iload 4, 2) := by decide +kernel
theorem dL_law_931 : decode cL_law 931 = .ok (.iconst 2, 1) := by decide +kernel
theorem dL_law_932 : decode cL_law 932 = .ok (.iadd, 1) := by decide +kernel
theorem dL_law_933 : decode cL_law 933 = .ok (.iaload, 1) := by decide +kernel
theorem dL_law_934 : decode cL_law 934 = .ok (.aload_n 0, 1) := by decide +kernel
theorem dL_law_935 : decode cL_law 935 = .ok (.iload 4, 2) := by decide +kernel
theorem dL_law_937 : decode cL_law 937 = .ok (.iconst 3, 1) := by decide +kernel
theorem dL_law_938 : decode cL_law 938 = .ok (.iadd, 1) := by decide +kernel
theorem dL_law_939 : decode cL_law 939 = .ok (.iaload, 1) := by decide +kernel
theorem dL_law_940 : decode cL_law 940 = .ok (.aload_n 3, 1) := by decide +kernel
theorem dL_law_941 : decode cL_law 941 = .ok (.invokestatic 158, 3) := by decide +kernel
theorem dL_law_944 : decode cL_law 944 = .ok (.istore 5, 2) := by decide +kernel
theorem dL_law_946 : decode cL_law 946 = .ok (.aload_n 2, 1) := by decide +kernel
theorem dL_law_947 : decode cL_law 947 = .ok (.aload_n 0, 1) := by decide +kernel
theorem dL_law_948 : decode cL_law 948 = .ok (.iload 4, 2) := by decide +kernel
theorem dL_law_950 : decode cL_law 950 = .ok (.iconst 1, 1) := by decide +kernel
theorem dL_law_951 : decode cL_law 951 = .ok (.iadd, 1) := by decide +kernel
theorem dL_law_952 : decode cL_law 952 = .ok (.iaload, 1) := by decide +kernel
theorem dL_law_953 : decode cL_law 953 = .ok (.aload_n 0, 1) := by decide +kernel
theorem dL_law_954 : decode cL_law 954 = .ok (.iload 4, 2) := by decide +kernel
theorem dL_law_956 : decode cL_law 956 = .ok (.iconst 2, 1) := by decide +kernel
theorem dL_law_957 : decode cL_law 957 = .ok (.iadd, 1) := by decide +kernel
theorem dL_law_958 : decode cL_law 958 = .ok (.iaload, 1) := by decide +kernel
theorem dL_law_959 : decode cL_law 959 = .ok (.aload_n 0, 1) := by decide +kernel
theorem dL_law_960 : decode cL_law 960 = .ok (.iload 4, 2) := by decide +kernel
theorem dL_law_962 : decode cL_law 962 = .ok (.iconst 3, 1) := by decide +kernel
theorem dL_law_963 : decode cL_law 963 = .ok (.iadd, 1) := by decide +kernel
theorem dL_law_964 : decode cL_law 964 = .ok (.iaload, 1) := by decide +kernel
theorem dL_law_965 : decode cL_law 965 = .ok (.invokevirtual 161, 3) := by decide +kernel
theorem dL_law_968 : decode cL_law 968 = .ok (.istore 6, 2) := by decide +kernel
theorem dL_law_970 : decode cL_law 970 = .ok (.aload_n 2, 1) := by decide +kernel
theorem dL_law_971 : decode cL_law 971 = .ok (.invokevirtual 120, 3) := by decide +kernel
theorem dL_law_974 : decode cL_law 974 = .ok (.iload 5, 2) := by decide +kernel
theorem dL_law_976 : decode cL_law 976 = .ok (.if_icmp .eq 5, 3) := by decide +kernel
theorem dL_law_979 : decode cL_law 979 = .ok (.iconst 0, 1) := by decide +kernel
theorem dL_law_980 : decode cL_law 980 = .ok (.ireturn, 1) := by decide +kernel
theorem dL_law_981 : decode cL_law 981 = .ok (.iload 5, 2) := by decide +kernel
theorem dL_law_983 : decode cL_law 983 = .ok (.ifCond .ne 15, 3) := by decide +kernel
theorem dL_law_986 : decode cL_law 986 = .ok (.aload_n 3, 1) := by decide +kernel
theorem dL_law_987 : decode cL_law 987 = .ok (.iconst 0, 1) := by decide +kernel
theorem dL_law_988 : decode cL_law 988 = .ok (.laload, 1) := by decide +kernel
theorem dL_law_989 : decode cL_law 989 = .ok (.iload 6, 2) := by decide +kernel
theorem dL_law_991 : decode cL_law 991 = .ok (.i2l, 1) := by decide +kernel
theorem dL_law_992 : decode cL_law 992 = .ok (.lcmp, 1) := by decide +kernel
theorem dL_law_993 : decode cL_law 993 = .ok (.ifCond .eq 5, 3) := by decide +kernel
theorem dL_law_996 : decode cL_law 996 = .ok (.iconst 0, 1) := by decide +kernel
theorem dL_law_997 : decode cL_law 997 = .ok (.ireturn, 1) := by decide +kernel
theorem dL_law_998 : decode cL_law 998 = .ok (.goto 1217, 3) := by decide +kernel
theorem dL_law_1001 : decode cL_law 1001 = .ok (.aload_n 1, 1) := by decide +kernel
theorem dL_law_1002 : decode cL_law 1002 = .ok (.aload_n 0, 1) := by decide +kernel
theorem dL_law_1003 : decode cL_law 1003 = .ok (.iload 4, 2) := by decide +kernel
theorem dL_law_1005 : decode cL_law 1005 = .ok (.iconst 1, 1) := by decide +kernel
theorem dL_law_1006 : decode cL_law 1006 = .ok (.iadd, 1) := by decide +kernel
theorem dL_law_1007 : decode cL_law 1007 = .ok (.iaload, 1) := by decide +kernel
theorem dL_law_1008 : decode cL_law 1008 = .ok (.aload_n 0, 1) := by decide +kernel
theorem dL_law_1009 : decode cL_law 1009 = .ok (.iload 4, 2) := by decide +kernel
theorem dL_law_1011 : decode cL_law 1011 = .ok (.iconst 2, 1) := by decide +kernel
theorem dL_law_1012 : decode cL_law 1012 = .ok (.iadd, 1) := by decide +kernel
theorem dL_law_1013 : decode cL_law 1013 = .ok (.iaload, 1) := by decide +kernel
theorem dL_law_1014 : decode cL_law 1014 = .ok (.aload_n 0, 1) := by decide +kernel
theorem dL_law_1015 : decode cL_law 1015 = .ok (.iload 4, 2) := by decide +kernel
theorem dL_law_1017 : decode cL_law 1017 = .ok (.iconst 3, 1) := by decide +kernel
theorem dL_law_1018 : decode cL_law 1018 = .ok (.iadd, 1) := by decide +kernel
theorem dL_law_1019 : decode cL_law 1019 = .ok (.iaload, 1) := by decide +kernel
theorem dL_law_1020 : decode cL_law 1020 = .ok (.aload_n 3, 1) := by decide +kernel
theorem dL_law_1021 : decode cL_law 1021 = .ok (.invokestatic 162, 3) := by decide +kernel
theorem dL_law_1024 : decode cL_law 1024 = .ok (.istore 5, 2) := by decide +kernel
theorem dL_law_1026 : decode cL_law 1026 = .ok (.aload_n 2, 1) := by decide +kernel
theorem dL_law_1027 : decode cL_law 1027 = .ok (.aload_n 0, 1) := by decide +kernel
theorem dL_law_1028 : decode cL_law 1028 = .ok (.iload 4, 2) := by decide +kernel
theorem dL_law_1030 : decode cL_law 1030 = .ok (.iconst 1, 1) := by decide +kernel
theorem dL_law_1031 : decode cL_law 1031 = .ok (.iadd, 1) := by decide +kernel
theorem dL_law_1032 : decode cL_law 1032 = .ok (.iaload, 1) := by decide +kernel
theorem dL_law_1033 : decode cL_law 1033 = .ok (.aload_n 0, 1) := by decide +kernel
theorem dL_law_1034 : decode cL_law 1034 = .ok (.iload 4, 2) := by decide +kernel
theorem dL_law_1036 : decode cL_law 1036 = .ok (.iconst 2, 1) := by decide +kernel
theorem dL_law_1037 : decode cL_law 1037 = .ok (.iadd, 1) := by decide +kernel
theorem dL_law_1038 : decode cL_law 1038 = .ok (.iaload, 1) := by decide +kernel
theorem dL_law_1039 : decode cL_law 1039 = .ok (.aload_n 0, 1) := by decide +kernel
theorem dL_law_1040 : decode cL_law 1040 = .ok (.iload 4, 2) := by decide +kernel
theorem dL_law_1042 : decode cL_law 1042 = .ok (.iconst 3, 1) := by decide +kernel
theorem dL_law_1043 : decode cL_law 1043 = .ok (.iadd, 1) := by decide +kernel
theorem dL_law_1044 : decode cL_law 1044 = .ok (.iaload, 1) := by decide +kernel
theorem dL_law_1045 : decode cL_law 1045 = .ok (.invokevirtual 164, 3) := by decide +kernel
theorem dL_law_1048 : decode cL_law 1048 = .ok (.istore 6, 2) := by decide +kernel
theorem dL_law_1050 : decode cL_law 1050 = .ok (.aload_n 2, 1) := by decide +kernel
theorem dL_law_1051 : decode cL_law 1051 = .ok (.invokevirtual 120, 3) := by decide +kernel
theorem dL_law_1054 : decode cL_law 1054 = .ok (.iload 5, 2) := by decide +kernel
theorem dL_law_1056 : decode cL_law 1056 = .ok (.if_icmp .eq 5, 3) := by decide +kernel
theorem dL_law_1059 : decode cL_law 1059 = .ok (.iconst 0, 1) := by decide +kernel
theorem dL_law_1060 : decode cL_law 1060 = .ok (.ireturn, 1) := by decide +kernel
theorem dL_law_1061 : decode cL_law 1061 = .ok (.iload 5, 2) := by decide +kernel
theorem dL_law_1063 : decode cL_law 1063 = .ok (.ifCond .ne 15, 3) := by decide +kernel
theorem dL_law_1066 : decode cL_law 1066 = .ok (.aload_n 3, 1) := by decide +kernel
theorem dL_law_1067 : decode cL_law 1067 = .ok (.iconst 0, 1) := by decide +kernel
theorem dL_law_1068 : decode cL_law 1068 = .ok (.laload, 1) := by decide +kernel
theorem dL_law_1069 : decode cL_law 1069 = .ok (.iload 6, 2) := by decide +kernel
theorem dL_law_1071 : decode cL_law 1071 = .ok (.i2l, 1) := by decide +kernel
theorem dL_law_1072 : decode cL_law 1072 = .ok (.lcmp, 1) := by decide +kernel
theorem dL_law_1073 : decode cL_law 1073 = .ok (.ifCond .eq 5, 3) := by decide +kernel
theorem dL_law_1076 : decode cL_law 1076 = .ok (.iconst 0, 1) := by decide +kernel
theorem dL_law_1077 : decode cL_law 1077 = .ok (.ireturn, 1) := by decide +kernel
theorem dL_law_1078 : decode cL_law 1078 = .ok (.goto 1137, 3) := by decide +kernel
theorem dL_law_1081 : decode cL_law 1081 = .ok (.aload_n 1, 1) := by decide +kernel
theorem dL_law_1082 : decode cL_law 1082 = .ok (.aload_n 0, 1) := by decide +kernel
theorem dL_law_1083 : decode cL_law 1083 = .ok (.iload 4, 2) := by decide +kernel
theorem dL_law_1085 : decode cL_law 1085 = .ok (.iconst 1, 1) := by decide +kernel
theorem dL_law_1086 : decode cL_law 1086 = .ok (.iadd, 1) := by decide +kernel
theorem dL_law_1087 : decode cL_law 1087 = .ok (.iaload, 1) := by decide +kernel
theorem dL_law_1088 : decode cL_law 1088 = .ok (.aload_n 0, 1) := by decide +kernel
theorem dL_law_1089 : decode cL_law 1089 = .ok (.iload 4, 2) := by decide +kernel
theorem dL_law_1091 : decode cL_law 1091 = .ok (.iconst 2, 1) := by decide +kernel
theorem dL_law_1092 : decode cL_law 1092 = .ok (.iadd, 1) := by decide +kernel
theorem dL_law_1093 : decode cL_law 1093 = .ok (.iaload, 1) := by decide +kernel
theorem dL_law_1094 : decode cL_law 1094 = .ok (.aload_n 3, 1) := by decide +kernel
theorem dL_law_1095 : decode cL_law 1095 = .ok (.invokestatic 165, 3) := by decide +kernel
theorem dL_law_1098 : decode cL_law 1098 = .ok (.istore 5, 2) := by decide +kernel
theorem dL_law_1100 : decode cL_law 1100 = .ok (.aload_n 2, 1) := by decide +kernel
theorem dL_law_1101 : decode cL_law 1101 = .ok (.aload_n 0, 1) := by decide +kernel
theorem dL_law_1102 : decode cL_law 1102 = .ok (.iload 4, 2) := by decide +kernel
theorem dL_law_1104 : decode cL_law 1104 = .ok (.iconst 1, 1) := by decide +kernel
theorem dL_law_1105 : decode cL_law 1105 = .ok (.iadd, 1) := by decide +kernel
theorem dL_law_1106 : decode cL_law 1106 = .ok (.iaload, 1) := by decide +kernel
theorem dL_law_1107 : decode cL_law 1107 = .ok (.aload_n 0, 1) := by decide +kernel
theorem dL_law_1108 : decode cL_law 1108 = .ok (.iload 4, 2) := by decide +kernel
theorem dL_law_1110 : decode cL_law 1110 = .ok (.iconst 2, 1) := by decide +kernel
theorem dL_law_1111 : decode cL_law 1111 = .ok (.iadd, 1) := by decide +kernel
theorem dL_law_1112 : decode cL_law 1112 = .ok (.iaload, 1) := by decide +kernel
theorem dL_law_1113 : decode cL_law 1113 = .ok (.invokevirtual 168, 3) := by decide +kernel
theorem dL_law_1116 : decode cL_law 1116 = .ok (.istore 6, 2) := by decide +kernel
theorem dL_law_1118 : decode cL_law 1118 = .ok (.aload_n 2, 1) := by decide +kernel
theorem dL_law_1119 : decode cL_law 1119 = .ok (.invokevirtual 120, 3) := by decide +kernel
theorem dL_law_1122 : decode cL_law 1122 = .ok (.iload 5, 2) := by decide +kernel
theorem dL_law_1124 : decode cL_law 1124 = .ok (.if_icmp .eq 5, 3) := by decide +kernel
theorem dL_law_1127 : decode cL_law 1127 = .ok (.iconst 0, 1) := by decide +kernel
theorem dL_law_1128 : decode cL_law 1128 = .ok (.ireturn, 1) := by decide +kernel
theorem dL_law_1129 : decode cL_law 1129 = .ok (.iload 5, 2) := by decide +kernel
theorem dL_law_1131 : decode cL_law 1131 = .ok (.ifCond .ne 15, 3) := by decide +kernel
theorem dL_law_1134 : decode cL_law 1134 = .ok (.aload_n 3, 1) := by decide +kernel
theorem dL_law_1135 : decode cL_law 1135 = .ok (.iconst 0, 1) := by decide +kernel
theorem dL_law_1136 : decode cL_law 1136 = .ok (.laload, 1) := by decide +kernel
theorem dL_law_1137 : decode cL_law 1137 = .ok (.iload 6, 2) := by decide +kernel
theorem dL_law_1139 : decode cL_law 1139 = .ok (.i2l, 1) := by decide +kernel
theorem dL_law_1140 : decode cL_law 1140 = .ok (.lcmp, 1) := by decide +kernel
theorem dL_law_1141 : decode cL_law 1141 = .ok (.ifCond .eq 5, 3) := by decide +kernel
theorem dL_law_1144 : decode cL_law 1144 = .ok (.iconst 0, 1) := by decide +kernel
theorem dL_law_1145 : decode cL_law 1145 = .ok (.ireturn, 1) := by decide +kernel
theorem dL_law_1146 : decode cL_law 1146 = .ok (.goto 1069, 3) := by decide +kernel
theorem dL_law_1149 : decode cL_law 1149 = .ok (.aload_n 1, 1) := by decide +kernel
theorem dL_law_1150 : decode cL_law 1150 = .ok (.aload_n 0, 1) := by decide +kernel
theorem dL_law_1151 : decode cL_law 1151 = .ok (.iload 4, 2) := by decide +kernel
theorem dL_law_1153 : decode cL_law 1153 = .ok (.iconst 1, 1) := by decide +kernel
theorem dL_law_1154 : decode cL_law 1154 = .ok (.iadd, 1) := by decide +kernel
theorem dL_law_1155 : decode cL_law 1155 = .ok (.iaload, 1) := by decide +kernel
theorem dL_law_1156 : decode cL_law 1156 = .ok (.aload_n 0, 1) := by decide +kernel
theorem dL_law_1157 : decode cL_law 1157 = .ok (.iload 4, 2) := by decide +kernel
theorem dL_law_1159 : decode cL_law 1159 = .ok (.iconst 2, 1) := by decide +kernel
theorem dL_law_1160 : decode cL_law 1160 = .ok (.iadd, 1) := by decide +kernel
theorem dL_law_1161 : decode cL_law 1161 = .ok (.iaload, 1) := by decide +kernel
theorem dL_law_1162 : decode cL_law 1162 = .ok (.ifCond .eq 7, 3) := by decide +kernel
theorem dL_law_1165 : decode cL_law 1165 = .ok (.iconst 1, 1) := by decide +kernel
theorem dL_law_1166 : decode cL_law 1166 = .ok (.goto 4, 3) := by decide +kernel
theorem dL_law_1169 : decode cL_law 1169 = .ok (.iconst 0, 1) := by decide +kernel
theorem dL_law_1170 : decode cL_law 1170 = .ok (.aload_n 3, 1) := by decide +kernel
theorem dL_law_1171 : decode cL_law 1171 = .ok (.invokestatic 169, 3) := by decide +kernel
theorem dL_law_1174 : decode cL_law 1174 = .ok (.istore 5, 2) := by decide +kernel
theorem dL_law_1176 : decode cL_law 1176 = .ok (.aload_n 2, 1) := by decide +kernel
theorem dL_law_1177 : decode cL_law 1177 = .ok (.aload_n 0, 1) := by decide +kernel
theorem dL_law_1178 : decode cL_law 1178 = .ok (.iload 4, 2) := by decide +kernel
theorem dL_law_1180 : decode cL_law 1180 = .ok (.iconst 1, 1) := by decide +kernel
theorem dL_law_1181 : decode cL_law 1181 = .ok (.iadd, 1) := by decide +kernel
theorem dL_law_1182 : decode cL_law 1182 = .ok (.iaload, 1) := by decide +kernel
theorem dL_law_1183 : decode cL_law 1183 = .ok (.aload_n 0, 1) := by decide +kernel
theorem dL_law_1184 : decode cL_law 1184 = .ok (.iload 4, 2) := by decide +kernel
theorem dL_law_1186 : decode cL_law 1186 = .ok (.iconst 2, 1) := by decide +kernel
theorem dL_law_1187 : decode cL_law 1187 = .ok (.iadd, 1) := by decide +kernel
theorem dL_law_1188 : decode cL_law 1188 = .ok (.iaload, 1) := by decide +kernel
theorem dL_law_1189 : decode cL_law 1189 = .ok (.ifCond .eq 7, 3) := by decide +kernel
theorem dL_law_1192 : decode cL_law 1192 = .ok (.iconst 1, 1) := by decide +kernel
theorem dL_law_1193 : decode cL_law 1193 = .ok (.goto 4, 3) := by decide +kernel
theorem dL_law_1196 : decode cL_law 1196 = .ok (.iconst 0, 1) := by decide +kernel
theorem dL_law_1197 : decode cL_law 1197 = .ok (.invokevirtual 171, 3) := by decide +kernel
theorem dL_law_1200 : decode cL_law 1200 = .ok (.istore 6, 2) := by decide +kernel
theorem dL_law_1202 : decode cL_law 1202 = .ok (.aload_n 2, 1) := by decide +kernel
theorem dL_law_1203 : decode cL_law 1203 = .ok (.invokevirtual 120, 3) := by decide +kernel
theorem dL_law_1206 : decode cL_law 1206 = .ok (.iload 5, 2) := by decide +kernel
theorem dL_law_1208 : decode cL_law 1208 = .ok (.if_icmp .eq 5, 3) := by decide +kernel
theorem dL_law_1211 : decode cL_law 1211 = .ok (.iconst 0, 1) := by decide +kernel
theorem dL_law_1212 : decode cL_law 1212 = .ok (.ireturn, 1) := by decide +kernel
theorem dL_law_1213 : decode cL_law 1213 = .ok (.iload 5, 2) := by decide +kernel
theorem dL_law_1215 : decode cL_law 1215 = .ok (.ifCond .ne 22, 3) := by decide +kernel
theorem dL_law_1218 : decode cL_law 1218 = .ok (.aload_n 3, 1) := by decide +kernel
theorem dL_law_1219 : decode cL_law 1219 = .ok (.iconst 0, 1) := by decide +kernel
theorem dL_law_1220 : decode cL_law 1220 = .ok (.laload, 1) := by decide +kernel
theorem dL_law_1221 : decode cL_law 1221 = .ok (.iload 6, 2) := by decide +kernel
theorem dL_law_1223 : decode cL_law 1223 = .ok (.ifCond .eq 7, 3) := by decide +kernel
theorem dL_law_1226 : decode cL_law 1226 = .ok (.lconst 1, 1) := by decide +kernel
theorem dL_law_1227 : decode cL_law 1227 = .ok (.goto 4, 3) := by decide +kernel
theorem dL_law_1230 : decode cL_law 1230 = .ok (.lconst 0, 1) := by decide +kernel
theorem dL_law_1231 : decode cL_law 1231 = .ok (.lcmp, 1) := by decide +kernel
theorem dL_law_1232 : decode cL_law 1232 = .ok (.ifCond .eq 5, 3) := by decide +kernel
theorem dL_law_1235 : decode cL_law 1235 = .ok (.iconst 0, 1) := by decide +kernel
theorem dL_law_1236 : decode cL_law 1236 = .ok (.ireturn, 1) := by decide +kernel
theorem dL_law_1237 : decode cL_law 1237 = .ok (.goto 978, 3) := by decide +kernel
theorem dL_law_1240 : decode cL_law 1240 = .ok (.aload_n 1, 1) := by decide +kernel
theorem dL_law_1241 : decode cL_law 1241 = .ok (.aload_n 0, 1) := by decide +kernel
theorem dL_law_1242 : decode cL_law 1242 = .ok (.iload 4, 2) := by decide +kernel
theorem dL_law_1244 : decode cL_law 1244 = .ok (.iconst 1, 1) := by decide +kernel
theorem dL_law_1245 : decode cL_law 1245 = .ok (.iadd, 1) := by decide +kernel
theorem dL_law_1246 : decode cL_law 1246 = .ok (.iaload, 1) := by decide +kernel
theorem dL_law_1247 : decode cL_law 1247 = .ok (.aload_n 0, 1) := by decide +kernel
theorem dL_law_1248 : decode cL_law 1248 = .ok (.iload 4, 2) := by decide +kernel
theorem dL_law_1250 : decode cL_law 1250 = .ok (.iconst 2, 1) := by decide +kernel
theorem dL_law_1251 : decode cL_law 1251 = .ok (.iadd, 1) := by decide +kernel
theorem dL_law_1252 : decode cL_law 1252 = .ok (.iaload, 1) := by decide +kernel
theorem dL_law_1253 : decode cL_law 1253 = .ok (.aload_n 3, 1) := by decide +kernel
theorem dL_law_1254 : decode cL_law 1254 = .ok (.invokestatic 172, 3) := by decide +kernel
theorem dL_law_1257 : decode cL_law 1257 = .ok (.istore 5, 2) := by decide +kernel
theorem dL_law_1259 : decode cL_law 1259 = .ok (.aload_n 2, 1) := by decide +kernel
theorem dL_law_1260 : decode cL_law 1260 = .ok (.aload_n 0, 1) := by decide +kernel
theorem dL_law_1261 : decode cL_law 1261 = .ok (.iload 4, 2) := by decide +kernel
theorem dL_law_1263 : decode cL_law 1263 = .ok (.iconst 1, 1) := by decide +kernel
theorem dL_law_1264 : decode cL_law 1264 = .ok (.iadd, 1) := by decide +kernel
theorem dL_law_1265 : decode cL_law 1265 = .ok (.iaload, 1) := by decide +kernel
theorem dL_law_1266 : decode cL_law 1266 = .ok (.aload_n 0, 1) := by decide +kernel
theorem dL_law_1267 : decode cL_law 1267 = .ok (.iload 4, 2) := by decide +kernel
theorem dL_law_1269 : decode cL_law 1269 = .ok (.iconst 2, 1) := by decide +kernel
theorem dL_law_1270 : decode cL_law 1270 = .ok (.iadd, 1) := by decide +kernel
theorem dL_law_1271 : decode cL_law 1271 = .ok (.iaload, 1) := by decide +kernel
theorem dL_law_1272 : decode cL_law 1272 = .ok (.invokevirtual 174, 3) := by decide +kernel
theorem dL_law_1275 : decode cL_law 1275 = .ok (.istore 6, 2) := by decide +kernel
theorem dL_law_1277 : decode cL_law 1277 = .ok (.aload_n 2, 1) := by decide +kernel
theorem dL_law_1278 : decode cL_law 1278 = .ok (.invokevirtual 120, 3) := by decide +kernel
theorem dL_law_1281 : decode cL_law 1281 = .ok (.iload 5, 2) := by decide +kernel
theorem dL_law_1283 : decode cL_law 1283 = .ok (.if_icmp .eq 5, 3) := by decide +kernel
theorem dL_law_1286 : decode cL_law 1286 = .ok (.iconst 0, 1) := by decide +kernel
theorem dL_law_1287 : decode cL_law 1287 = .ok (.ireturn, 1) := by decide +kernel
theorem dL_law_1288 : decode cL_law 1288 = .ok (.iload 5, 2) := by decide +kernel
theorem dL_law_1290 : decode cL_law 1290 = .ok (.ifCond .ne 15, 3) := by decide +kernel
theorem dL_law_1293 : decode cL_law 1293 = .ok (.aload_n 3, 1) := by decide +kernel
theorem dL_law_1294 : decode cL_law 1294 = .ok (.iconst 0, 1) := by decide +kernel
theorem dL_law_1295 : decode cL_law 1295 = .ok (.laload, 1) := by decide +kernel
theorem dL_law_1296 : decode cL_law 1296 = .ok (.iload 6, 2) := by decide +kernel
theorem dL_law_1298 : decode cL_law 1298 = .ok (.i2l, 1) := by decide +kernel
theorem dL_law_1299 : decode cL_law 1299 = .ok (.lcmp, 1) := by decide +kernel
theorem dL_law_1300 : decode cL_law 1300 = .ok (.ifCond .eq 5, 3) := by decide +kernel
theorem dL_law_1303 : decode cL_law 1303 = .ok (.iconst 0, 1) := by decide +kernel
theorem dL_law_1304 : decode cL_law 1304 = .ok (.ireturn, 1) := by decide +kernel
theorem dL_law_1305 : decode cL_law 1305 = .ok (.goto 910, 3) := by decide +kernel
theorem dL_law_1308 : decode cL_law 1308 = .ok (.aload_n 1, 1) := by decide +kernel
theorem dL_law_1309 : decode cL_law 1309 = .ok (.invokevirtual 175, 3) := by decide +kernel
theorem dL_law_1312 : decode cL_law 1312 = .ok (.aload_n 2, 1) := by decide +kernel
theorem dL_law_1313 : decode cL_law 1313 = .ok (.invokevirtual 178, 3) := by decide +kernel
theorem dL_law_1316 : decode cL_law 1316 = .ok (.if_icmp .eq 899, 3) := by decide +kernel
theorem dL_law_1319 : decode cL_law 1319 = .ok (.iconst 0, 1) := by decide +kernel
theorem dL_law_1320 : decode cL_law 1320 = .ok (.ireturn, 1) := by decide +kernel
theorem dL_law_1321 : decode cL_law 1321 = .ok (.aload_n 1, 1) := by decide +kernel
theorem dL_law_1322 : decode cL_law 1322 = .ok (.invokevirtual 179, 3) := by decide +kernel
theorem dL_law_1325 : decode cL_law 1325 = .ok (.aload_n 2, 1) := by decide +kernel
theorem dL_law_1326 : decode cL_law 1326 = .ok (.invokevirtual 182, 3) := by decide +kernel
theorem dL_law_1329 : decode cL_law 1329 = .ok (.if_icmp .eq 886, 3) := by decide +kernel
theorem dL_law_1332 : decode cL_law 1332 = .ok (.iconst 0, 1) := by decide +kernel
theorem dL_law_1333 : decode cL_law 1333 = .ok (.ireturn, 1) := by decide +kernel
theorem dL_law_1334 : decode cL_law 1334 = .ok (.aload_n 1, 1) := by decide +kernel
theorem dL_law_1335 : decode cL_law 1335 = .ok (.aload_n 0, 1) := by decide +kernel
theorem dL_law_1336 : decode cL_law 1336 = .ok (.iload 4, 2) := by decide +kernel
theorem dL_law_1338 : decode cL_law 1338 = .ok (.iconst 1, 1) := by decide +kernel
theorem dL_law_1339 : decode cL_law 1339 = .ok (.iadd, 1) := by decide +kernel
theorem dL_law_1340 : decode cL_law 1340 = .ok (.iaload, 1) := by decide +kernel
theorem dL_law_1341 : decode cL_law 1341 = .ok (.aload_n 3, 1) := by decide +kernel
theorem dL_law_1342 : decode cL_law 1342 = .ok (.invokestatic 183, 3) := by decide +kernel
theorem dL_law_1345 : decode cL_law 1345 = .ok (.istore 5, 2) := by decide +kernel
theorem dL_law_1347 : decode cL_law 1347 = .ok (.aload_n 2, 1) := by decide +kernel
theorem dL_law_1348 : decode cL_law 1348 = .ok (.aload_n 0, 1) := by decide +kernel
theorem dL_law_1349 : decode cL_law 1349 = .ok (.iload 4, 2) := by decide +kernel
theorem dL_law_1351 : decode cL_law 1351 = .ok (.iconst 1, 1) := by decide +kernel
theorem dL_law_1352 : decode cL_law 1352 = .ok (.iadd, 1) := by decide +kernel
theorem dL_law_1353 : decode cL_law 1353 = .ok (.iaload, 1) := by decide +kernel
theorem dL_law_1354 : decode cL_law 1354 = .ok (.invokevirtual 185, 3) := by decide +kernel
theorem dL_law_1357 : decode cL_law 1357 = .ok (.istore 6, 2) := by decide +kernel
theorem dL_law_1359 : decode cL_law 1359 = .ok (.aload_n 2, 1) := by decide +kernel
theorem dL_law_1360 : decode cL_law 1360 = .ok (.invokevirtual 120, 3) := by decide +kernel
theorem dL_law_1363 : decode cL_law 1363 = .ok (.iload 5, 2) := by decide +kernel
theorem dL_law_1365 : decode cL_law 1365 = .ok (.if_icmp .eq 5, 3) := by decide +kernel
theorem dL_law_1368 : decode cL_law 1368 = .ok (.iconst 0, 1) := by decide +kernel
theorem dL_law_1369 : decode cL_law 1369 = .ok (.ireturn, 1) := by decide +kernel
theorem dL_law_1370 : decode cL_law 1370 = .ok (.iload 5, 2) := by decide +kernel
theorem dL_law_1372 : decode cL_law 1372 = .ok (.ifCond .ne 15, 3) := by decide +kernel
theorem dL_law_1375 : decode cL_law 1375 = .ok (.aload_n 3, 1) := by decide +kernel
theorem dL_law_1376 : decode cL_law 1376 = .ok (.iconst 0, 1) := by decide +kernel
theorem dL_law_1377 : decode cL_law 1377 = .ok (.laload, 1) := by decide +kernel
theorem dL_law_1378 : decode cL_law 1378 = .ok (.iload 6, 2) := by decide +kernel
theorem dL_law_1380 : decode cL_law 1380 = .ok (.i2l, 1) := by decide +kernel
theorem dL_law_1381 : decode cL_law 1381 = .ok (.lcmp, 1) := by decide +kernel
theorem dL_law_1382 : decode cL_law 1382 = .ok (.ifCond .eq 5, 3) := by decide +kernel
theorem dL_law_1385 : decode cL_law 1385 = .ok (.iconst 0, 1) := by decide +kernel
theorem dL_law_1386 : decode cL_law 1386 = .ok (.ireturn, 1) := by decide +kernel
theorem dL_law_1387 : decode cL_law 1387 = .ok (.goto 828, 3) := by decide +kernel
theorem dL_law_1390 : decode cL_law 1390 = .ok (.aload_n 1, 1) := by decide +kernel
theorem dL_law_1391 : decode cL_law 1391 = .ok (.aload_n 0, 1) := by decide +kernel
theorem dL_law_1392 : decode cL_law 1392 = .ok (.iload 4, 2) := by decide +kernel
theorem dL_law_1394 : decode cL_law 1394 = .ok (.iconst 1, 1) := by decide +kernel
theorem dL_law_1395 : decode cL_law 1395 = .ok (.iadd, 1) := by decide +kernel
theorem dL_law_1396 : decode cL_law 1396 = .ok (.iaload, 1) := by decide +kernel
theorem dL_law_1397 : decode cL_law 1397 = .ok (.aload_n 3, 1) := by decide +kernel
theorem dL_law_1398 : decode cL_law 1398 = .ok (.invokestatic 186, 3) := by decide +kernel
theorem dL_law_1401 : decode cL_law 1401 = .ok (.istore 5, 2) := by decide +kernel
theorem dL_law_1403 : decode cL_law 1403 = .ok (.aload_n 2, 1) := by decide +kernel
theorem dL_law_1404 : decode cL_law 1404 = .ok (.aload_n 0, 1) := by decide +kernel
theorem dL_law_1405 : decode cL_law 1405 = .ok (.iload 4, 2) := by decide +kernel
theorem dL_law_1407 : decode cL_law 1407 = .ok (.iconst 1, 1) := by decide +kernel
theorem dL_law_1408 : decode cL_law 1408 = .ok (.iadd, 1) := by decide +kernel
theorem dL_law_1409 : decode cL_law 1409 = .ok (.iaload, 1) := by decide +kernel
theorem dL_law_1410 : decode cL_law 1410 = .ok (.invokevirtual 188, 3) := by decide +kernel
theorem dL_law_1413 : decode cL_law 1413 = .ok (.istore 6, 2) := by decide +kernel
theorem dL_law_1415 : decode cL_law 1415 = .ok (.aload_n 2, 1) := by decide +kernel
theorem dL_law_1416 : decode cL_law 1416 = .ok (.invokevirtual 120, 3) := by decide +kernel
theorem dL_law_1419 : decode cL_law 1419 = .ok (.iload 5, 2) := by decide +kernel
theorem dL_law_1421 : decode cL_law 1421 = .ok (.if_icmp .eq 5, 3) := by decide +kernel
theorem dL_law_1424 : decode cL_law 1424 = .ok (.iconst 0, 1) := by decide +kernel
theorem dL_law_1425 : decode cL_law 1425 = .ok (.ireturn, 1) := by decide +kernel
theorem dL_law_1426 : decode cL_law 1426 = .ok (.iload 5, 2) := by decide +kernel
theorem dL_law_1428 : decode cL_law 1428 = .ok (.ifCond .ne 15, 3) := by decide +kernel
theorem dL_law_1431 : decode cL_law 1431 = .ok (.aload_n 3, 1) := by decide +kernel
theorem dL_law_1432 : decode cL_law 1432 = .ok (.iconst 0, 1) := by decide +kernel
theorem dL_law_1433 : decode cL_law 1433 = .ok (.laload, 1) := by decide +kernel
theorem dL_law_1434 : decode cL_law 1434 = .ok (.iload 6, 2) := by decide +kernel
theorem dL_law_1436 : decode cL_law 1436 = .ok (.i2l, 1) := by decide +kernel
theorem dL_law_1437 : decode cL_law 1437 = .ok (.lcmp, 1) := by decide +kernel
theorem dL_law_1438 : decode cL_law 1438 = .ok (.ifCond .eq 5, 3) := by decide +kernel
theorem dL_law_1441 : decode cL_law 1441 = .ok (.iconst 0, 1) := by decide +kernel
theorem dL_law_1442 : decode cL_law 1442 = .ok (.ireturn, 1) := by decide +kernel
theorem dL_law_1443 : decode cL_law 1443 = .ok (.goto 772, 3) := by decide +kernel
theorem dL_law_1446 : decode cL_law 1446 = .ok (.aload_n 1, 1) := by decide +kernel
theorem dL_law_1447 : decode cL_law 1447 = .ok (.aload_n 0, 1) := by decide +kernel
theorem dL_law_1448 : decode cL_law 1448 = .ok (.iload 4, 2) := by decide +kernel
theorem dL_law_1450 : decode cL_law 1450 = .ok (.iconst 1, 1) := by decide +kernel
theorem dL_law_1451 : decode cL_law 1451 = .ok (.iadd, 1) := by decide +kernel
theorem dL_law_1452 : decode cL_law 1452 = .ok (.iaload, 1) := by decide +kernel
theorem dL_law_1453 : decode cL_law 1453 = .ok (.aload_n 3, 1) := by decide +kernel
theorem dL_law_1454 : decode cL_law 1454 = .ok (.invokestatic 189, 3) := by decide +kernel
theorem dL_law_1457 : decode cL_law 1457 = .ok (.istore 5, 2) := by decide +kernel
theorem dL_law_1459 : decode cL_law 1459 = .ok (.aload_n 2, 1) := by decide +kernel
theorem dL_law_1460 : decode cL_law 1460 = .ok (.aload_n 0, 1) := by decide +kernel
theorem dL_law_1461 : decode cL_law 1461 = .ok (.iload 4, 2) := by decide +kernel
theorem dL_law_1463 : decode cL_law 1463 = .ok (.iconst 1, 1) := by decide +kernel
theorem dL_law_1464 : decode cL_law 1464 = .ok (.iadd, 1) := by decide +kernel
theorem dL_law_1465 : decode cL_law 1465 = .ok (.iaload, 1) := by decide +kernel
theorem dL_law_1466 : decode cL_law 1466 = .ok (.invokevirtual 191, 3) := by decide +kernel
theorem dL_law_1469 : decode cL_law 1469 = .ok (.istore 6, 2) := by decide +kernel
theorem dL_law_1471 : decode cL_law 1471 = .ok (.aload_n 2, 1) := by decide +kernel
theorem dL_law_1472 : decode cL_law 1472 = .ok (.invokevirtual 120, 3) := by decide +kernel
theorem dL_law_1475 : decode cL_law 1475 = .ok (.iload 5, 2) := by decide +kernel
theorem dL_law_1477 : decode cL_law 1477 = .ok (.if_icmp .eq 5, 3) := by decide +kernel
theorem dL_law_1480 : decode cL_law 1480 = .ok (.iconst 0, 1) := by decide +kernel
theorem dL_law_1481 : decode cL_law 1481 = .ok (.ireturn, 1) := by decide +kernel
theorem dL_law_1482 : decode cL_law 1482 = .ok (.iload 5, 2) := by decide +kernel
theorem dL_law_1484 : decode cL_law 1484 = .ok (.ifCond .ne 15, 3) := by decide +kernel
theorem dL_law_1487 : decode cL_law 1487 = .ok (.aload_n 3, 1) := by decide +kernel
theorem dL_law_1488 : decode cL_law 1488 = .ok (.iconst 0, 1) := by decide +kernel
theorem dL_law_1489 : decode cL_law 1489 = .ok (.laload, 1) := by decide +kernel
theorem dL_law_1490 : decode cL_law 1490 = .ok (.iload 6, 2) := by decide +kernel
theorem dL_law_1492 : decode cL_law 1492 = .ok (.i2l, 1) := by decide +kernel
theorem dL_law_1493 : decode cL_law 1493 = .ok (.lcmp, 1) := by decide +kernel
theorem dL_law_1494 : decode cL_law 1494 = .ok (.ifCond .eq 5, 3) := by decide +kernel
theorem dL_law_1497 : decode cL_law 1497 = .ok (.iconst 0, 1) := by decide +kernel
theorem dL_law_1498 : decode cL_law 1498 = .ok (.ireturn, 1) := by decide +kernel
theorem dL_law_1499 : decode cL_law 1499 = .ok (.goto 716, 3) := by decide +kernel
theorem dL_law_1502 : decode cL_law 1502 = .ok (.aload_n 1, 1) := by decide +kernel
theorem dL_law_1503 : decode cL_law 1503 = .ok (.aload_n 0, 1) := by decide +kernel
theorem dL_law_1504 : decode cL_law 1504 = .ok (.iload 4, 2) := by decide +kernel
theorem dL_law_1506 : decode cL_law 1506 = .ok (.iconst 1, 1) := by decide +kernel
theorem dL_law_1507 : decode cL_law 1507 = .ok (.iadd, 1) := by decide +kernel
theorem dL_law_1508 : decode cL_law 1508 = .ok (.iaload, 1) := by decide +kernel
theorem dL_law_1509 : decode cL_law 1509 = .ok (.aload_n 0, 1) := by decide +kernel
theorem dL_law_1510 : decode cL_law 1510 = .ok (.iload 4, 2) := by decide +kernel
theorem dL_law_1512 : decode cL_law 1512 = .ok (.iconst 2, 1) := by decide +kernel
theorem dL_law_1513 : decode cL_law 1513 = .ok (.iadd, 1) := by decide +kernel
theorem dL_law_1514 : decode cL_law 1514 = .ok (.iaload, 1) := by decide +kernel
theorem dL_law_1515 : decode cL_law 1515 = .ok (.aload_n 3, 1) := by decide +kernel
theorem dL_law_1516 : decode cL_law 1516 = .ok (.invokestatic 192, 3) := by decide +kernel
theorem dL_law_1519 : decode cL_law 1519 = .ok (.istore 5, 2) := by decide +kernel
theorem dL_law_1521 : decode cL_law 1521 = .ok (.aload_n 2, 1) := by decide +kernel
theorem dL_law_1522 : decode cL_law 1522 = .ok (.aload_n 0, 1) := by decide +kernel
theorem dL_law_1523 : decode cL_law 1523 = .ok (.iload 4, 2) := by decide +kernel
theorem dL_law_1525 : decode cL_law 1525 = .ok (.iconst 1, 1) := by decide +kernel
theorem dL_law_1526 : decode cL_law 1526 = .ok (.iadd, 1) := by decide +kernel
theorem dL_law_1527 : decode cL_law 1527 = .ok (.iaload, 1) := by decide +kernel
theorem dL_law_1528 : decode cL_law 1528 = .ok (.aload_n 0, 1) := by decide +kernel
theorem dL_law_1529 : decode cL_law 1529 = .ok (.iload 4, 2) := by decide +kernel
theorem dL_law_1531 : decode cL_law 1531 = .ok (.iconst 2, 1) := by decide +kernel
theorem dL_law_1532 : decode cL_law 1532 = .ok (.iadd, 1) := by decide +kernel
theorem dL_law_1533 : decode cL_law 1533 = .ok (.iaload, 1) := by decide +kernel
theorem dL_law_1534 : decode cL_law 1534 = .ok (.invokevirtual 194, 3) := by decide +kernel
theorem dL_law_1537 : decode cL_law 1537 = .ok (.istore 6, 2) := by decide +kernel
theorem dL_law_1539 : decode cL_law 1539 = .ok (.aload_n 2, 1) := by decide +kernel
theorem dL_law_1540 : decode cL_law 1540 = .ok (.invokevirtual 120, 3) := by decide +kernel
theorem dL_law_1543 : decode cL_law 1543 = .ok (.iload 5, 2) := by decide +kernel
theorem dL_law_1545 : decode cL_law 1545 = .ok (.if_icmp .eq 5, 3) := by decide +kernel
theorem dL_law_1548 : decode cL_law 1548 = .ok (.iconst 0, 1) := by decide +kernel
theorem dL_law_1549 : decode cL_law 1549 = .ok (.ireturn, 1) := by decide +kernel
theorem dL_law_1550 : decode cL_law 1550 = .ok (.iload 5, 2) := by decide +kernel
theorem dL_law_1552 : decode cL_law 1552 = .ok (.ifCond .ne 15, 3) := by decide +kernel
theorem dL_law_1555 : decode cL_law 1555 = .ok (.aload_n 3, 1) := by decide +kernel
theorem dL_law_1556 : decode cL_law 1556 = .ok (.iconst 0, 1) := by decide +kernel
theorem dL_law_1557 : decode cL_law 1557 = .ok (.laload, 1) := by decide +kernel
theorem dL_law_1558 : decode cL_law 1558 = .ok (.iload 6, 2) := by decide +kernel
theorem dL_law_1560 : decode cL_law 1560 = .ok (.i2l, 1) := by decide +kernel
theorem dL_law_1561 : decode cL_law 1561 = .ok (.lcmp, 1) := by decide +kernel
theorem dL_law_1562 : decode cL_law 1562 = .ok (.ifCond .eq 5, 3) := by decide +kernel
theorem dL_law_1565 : decode cL_law 1565 = .ok (.iconst 0, 1) := by decide +kernel
theorem dL_law_1566 : decode cL_law 1566 = .ok (.ireturn, 1) := by decide +kernel
theorem dL_law_1567 : decode cL_law 1567 = .ok (.goto 648, 3) := by decide +kernel
theorem dL_law_1570 : decode cL_law 1570 = .ok (.aload_n 1, 1) := by decide +kernel
theorem dL_law_1571 : decode cL_law 1571 = .ok (.aload_n 0, 1) := by decide +kernel
theorem dL_law_1572 : decode cL_law 1572 = .ok (.iload 4, 2) := by decide +kernel
theorem dL_law_1574 : decode cL_law 1574 = .ok (.iconst 1, 1) := by decide +kernel
theorem dL_law_1575 : decode cL_law 1575 = .ok (.iadd, 1) := by decide +kernel
theorem dL_law_1576 : decode cL_law 1576 = .ok (.iaload, 1) := by decide +kernel
theorem dL_law_1577 : decode cL_law 1577 = .ok (.aload_n 0, 1) := by decide +kernel
theorem dL_law_1578 : decode cL_law 1578 = .ok (.iload 4, 2) := by decide +kernel
theorem dL_law_1580 : decode cL_law 1580 = .ok (.iconst 2, 1) := by decide +kernel
theorem dL_law_1581 : decode cL_law 1581 = .ok (.iadd, 1) := by decide +kernel
theorem dL_law_1582 : decode cL_law 1582 = .ok (.iaload, 1) := by decide +kernel
theorem dL_law_1583 : decode cL_law 1583 = .ok (.aload_n 0, 1) := by decide +kernel
theorem dL_law_1584 : decode cL_law 1584 = .ok (.iload 4, 2) := by decide +kernel
theorem dL_law_1586 : decode cL_law 1586 = .ok (.iconst 3, 1) := by decide +kernel
theorem dL_law_1587 : decode cL_law 1587 = .ok (.iadd, 1) := by decide +kernel
theorem dL_law_1588 : decode cL_law 1588 = .ok (.iaload, 1) := by decide +kernel
theorem dL_law_1589 : decode cL_law 1589 = .ok (.aload_n 0, 1) := by decide +kernel
theorem dL_law_1590 : decode cL_law 1590 = .ok (.iload 4, 2) := by decide +kernel
theorem dL_law_1592 : decode cL_law 1592 = .ok (.iconst 4, 1) := by decide +kernel
theorem dL_law_1593 : decode cL_law 1593 = .ok (.iadd, 1) := by decide +kernel
theorem dL_law_1594 : decode cL_law 1594 = .ok (.iaload, 1) := by decide +kernel
theorem dL_law_1595 : decode cL_law 1595 = .ok (.ifCond .eq 7, 3) := by decide +kernel
theorem dL_law_1598 : decode cL_law 1598 = .ok (.iconst 1, 1) := by decide +kernel
theorem dL_law_1599 : decode cL_law 1599 = .ok (.goto 4, 3) := by decide +kernel
theorem dL_law_1602 : decode cL_law 1602 = .ok (.iconst 0, 1) := by decide +kernel
theorem dL_law_1603 : decode cL_law 1603 = .ok (.aload_n 3, 1) := by decide +kernel
theorem dL_law_1604 : decode cL_law 1604 = .ok (.invokestatic 195, 3) := by decide +kernel
theorem dL_law_1607 : decode cL_law 1607 = .ok (.istore 5, 2) := by decide +kernel
theorem dL_law_1609 : decode cL_law 1609 = .ok (.aload_n 2, 1) := by decide +kernel
theorem dL_law_1610 : decode cL_law 1610 = .ok (.aload_n 0, 1) := by decide +kernel
theorem dL_law_1611 : decode cL_law 1611 = .ok (.iload 4, 2) := by decide +kernel
theorem dL_law_1613 : decode cL_law 1613 = .ok (.iconst 1, 1) := by decide +kernel
theorem dL_law_1614 : decode cL_law 1614 = .ok (.iadd, 1) := by decide +kernel
theorem dL_law_1615 : decode cL_law 1615 = .ok (.iaload, 1) := by decide +kernel
theorem dL_law_1616 : decode cL_law 1616 = .ok (.aload_n 0, 1) := by decide +kernel
theorem dL_law_1617 : decode cL_law 1617 = .ok (.iload 4, 2) := by decide +kernel
theorem dL_law_1619 : decode cL_law 1619 = .ok (.iconst 2, 1) := by decide +kernel
theorem dL_law_1620 : decode cL_law 1620 = .ok (.iadd, 1) := by decide +kernel
theorem dL_law_1621 : decode cL_law 1621 = .ok (.iaload, 1) := by decide +kernel
theorem dL_law_1622 : decode cL_law 1622 = .ok (.aload_n 0, 1) := by decide +kernel
theorem dL_law_1623 : decode cL_law 1623 = .ok (.iload 4, 2) := by decide +kernel
theorem dL_law_1625 : decode cL_law 1625 = .ok (.iconst 3, 1) := by decide +kernel
theorem dL_law_1626 : decode cL_law 1626 = .ok (.iadd, 1) := by decide +kernel
theorem dL_law_1627 : decode cL_law 1627 = .ok (.iaload, 1) := by decide +kernel
theorem dL_law_1628 : decode cL_law 1628 = .ok (.aload_n 0, 1) := by decide +kernel
theorem dL_law_1629 : decode cL_law 1629 = .ok (.iload 4, 2) := by decide +kernel
theorem dL_law_1631 : decode cL_law 1631 = .ok (.iconst 4, 1) := by decide +kernel
theorem dL_law_1632 : decode cL_law 1632 = .ok (.iadd, 1) := by decide +kernel
theorem dL_law_1633 : decode cL_law 1633 = .ok (.iaload, 1) := by decide +kernel
theorem dL_law_1634 : decode cL_law 1634 = .ok (.ifCond .eq 7, 3) := by decide +kernel
theorem dL_law_1637 : decode cL_law 1637 = .ok (.iconst 1, 1) := by decide +kernel
theorem dL_law_1638 : decode cL_law 1638 = .ok (.goto 4, 3) := by decide +kernel
theorem dL_law_1641 : decode cL_law 1641 = .ok (.iconst 0, 1) := by decide +kernel
theorem dL_law_1642 : decode cL_law 1642 = .ok (.invokevirtual 198, 3) := by decide +kernel
theorem dL_law_1645 : decode cL_law 1645 = .ok (.istore 6, 2) := by decide +kernel
theorem dL_law_1647 : decode cL_law 1647 = .ok (.aload_n 2, 1) := by decide +kernel
theorem dL_law_1648 : decode cL_law 1648 = .ok (.invokevirtual 120, 3) := by decide +kernel
theorem dL_law_1651 : decode cL_law 1651 = .ok (.iload 5, 2) := by decide +kernel
theorem dL_law_1653 : decode cL_law 1653 = .ok (.if_icmp .eq 5, 3) := by decide +kernel
theorem dL_law_1656 : decode cL_law 1656 = .ok (.iconst 0, 1) := by decide +kernel
theorem dL_law_1657 : decode cL_law 1657 = .ok (.ireturn, 1) := by decide +kernel
theorem dL_law_1658 : decode cL_law 1658 = .ok (.iload 5, 2) := by decide +kernel
theorem dL_law_1660 : decode cL_law 1660 = .ok (.ifCond .ne 22, 3) := by decide +kernel
theorem dL_law_1663 : decode cL_law 1663 = .ok (.aload_n 3, 1) := by decide +kernel
theorem dL_law_1664 : decode cL_law 1664 = .ok (.iconst 0, 1) := by decide +kernel
theorem dL_law_1665 : decode cL_law 1665 = .ok (.laload, 1) := by decide +kernel
theorem dL_law_1666 : decode cL_law 1666 = .ok (.iload 6, 2) := by decide +kernel
theorem dL_law_1668 : decode cL_law 1668 = .ok (.ifCond .eq 7, 3) := by decide +kernel
theorem dL_law_1671 : decode cL_law 1671 = .ok (.lconst 1, 1) := by decide +kernel
theorem dL_law_1672 : decode cL_law 1672 = .ok (.goto 4, 3) := by decide +kernel
theorem dL_law_1675 : decode cL_law 1675 = .ok (.lconst 0, 1) := by decide +kernel
theorem dL_law_1676 : decode cL_law 1676 = .ok (.lcmp, 1) := by decide +kernel
theorem dL_law_1677 : decode cL_law 1677 = .ok (.ifCond .eq 5, 3) := by decide +kernel
theorem dL_law_1680 : decode cL_law 1680 = .ok (.iconst 0, 1) := by decide +kernel
theorem dL_law_1681 : decode cL_law 1681 = .ok (.ireturn, 1) := by decide +kernel
theorem dL_law_1682 : decode cL_law 1682 = .ok (.goto 533, 3) := by decide +kernel
theorem dL_law_1685 : decode cL_law 1685 = .ok (.aload_n 1, 1) := by decide +kernel
theorem dL_law_1686 : decode cL_law 1686 = .ok (.aload_n 0, 1) := by decide +kernel
theorem dL_law_1687 : decode cL_law 1687 = .ok (.iload 4, 2) := by decide +kernel
theorem dL_law_1689 : decode cL_law 1689 = .ok (.iconst 1, 1) := by decide +kernel
theorem dL_law_1690 : decode cL_law 1690 = .ok (.iadd, 1) := by decide +kernel
theorem dL_law_1691 : decode cL_law 1691 = .ok (.iaload, 1) := by decide +kernel
theorem dL_law_1692 : decode cL_law 1692 = .ok (.aload_n 0, 1) := by decide +kernel
theorem dL_law_1693 : decode cL_law 1693 = .ok (.iload 4, 2) := by decide +kernel
theorem dL_law_1695 : decode cL_law 1695 = .ok (.iconst 2, 1) := by decide +kernel
theorem dL_law_1696 : decode cL_law 1696 = .ok (.iadd, 1) := by decide +kernel
theorem dL_law_1697 : decode cL_law 1697 = .ok (.iaload, 1) := by decide +kernel
theorem dL_law_1698 : decode cL_law 1698 = .ok (.aload_n 3, 1) := by decide +kernel
theorem dL_law_1699 : decode cL_law 1699 = .ok (.invokestatic 199, 3) := by decide +kernel
theorem dL_law_1702 : decode cL_law 1702 = .ok (.istore 5, 2) := by decide +kernel
theorem dL_law_1704 : decode cL_law 1704 = .ok (.aload_n 2, 1) := by decide +kernel
theorem dL_law_1705 : decode cL_law 1705 = .ok (.aload_n 0, 1) := by decide +kernel
theorem dL_law_1706 : decode cL_law 1706 = .ok (.iload 4, 2) := by decide +kernel
theorem dL_law_1708 : decode cL_law 1708 = .ok (.iconst 1, 1) := by decide +kernel
theorem dL_law_1709 : decode cL_law 1709 = .ok (.iadd, 1) := by decide +kernel
theorem dL_law_1710 : decode cL_law 1710 = .ok (.iaload, 1) := by decide +kernel
theorem dL_law_1711 : decode cL_law 1711 = .ok (.aload_n 0, 1) := by decide +kernel
theorem dL_law_1712 : decode cL_law 1712 = .ok (.iload 4, 2) := by decide +kernel
theorem dL_law_1714 : decode cL_law 1714 = .ok (.iconst 2, 1) := by decide +kernel
theorem dL_law_1715 : decode cL_law 1715 = .ok (.iadd, 1) := by decide +kernel
theorem dL_law_1716 : decode cL_law 1716 = .ok (.iaload, 1) := by decide +kernel
theorem dL_law_1717 : decode cL_law 1717 = .ok (.invokevirtual 201, 3) := by decide +kernel
theorem dL_law_1720 : decode cL_law 1720 = .ok (.istore 6, 2) := by decide +kernel
theorem dL_law_1722 : decode cL_law 1722 = .ok (.aload_n 2, 1) := by decide +kernel
theorem dL_law_1723 : decode cL_law 1723 = .ok (.invokevirtual 120, 3) := by decide +kernel
theorem dL_law_1726 : decode cL_law 1726 = .ok (.iload 5, 2) := by decide +kernel
theorem dL_law_1728 : decode cL_law 1728 = .ok (.if_icmp .eq 5, 3) := by decide +kernel
theorem dL_law_1731 : decode cL_law 1731 = .ok (.iconst 0, 1) := by decide +kernel
theorem dL_law_1732 : decode cL_law 1732 = .ok (.ireturn, 1) := by decide +kernel
theorem dL_law_1733 : decode cL_law 1733 = .ok (.iload 5, 2) := by decide +kernel
theorem dL_law_1735 : decode cL_law 1735 = .ok (.ifCond .ne 22, 3) := by decide +kernel
theorem dL_law_1738 : decode cL_law 1738 = .ok (.aload_n 3, 1) := by decide +kernel
theorem dL_law_1739 : decode cL_law 1739 = .ok (.iconst 0, 1) := by decide +kernel
theorem dL_law_1740 : decode cL_law 1740 = .ok (.laload, 1) := by decide +kernel
theorem dL_law_1741 : decode cL_law 1741 = .ok (.iload 6, 2) := by decide +kernel
theorem dL_law_1743 : decode cL_law 1743 = .ok (.ifCond .eq 7, 3) := by decide +kernel
theorem dL_law_1746 : decode cL_law 1746 = .ok (.lconst 1, 1) := by decide +kernel
theorem dL_law_1747 : decode cL_law 1747 = .ok (.goto 4, 3) := by decide +kernel
theorem dL_law_1750 : decode cL_law 1750 = .ok (.lconst 0, 1) := by decide +kernel
theorem dL_law_1751 : decode cL_law 1751 = .ok (.lcmp, 1) := by decide +kernel
theorem dL_law_1752 : decode cL_law 1752 = .ok (.ifCond .eq 5, 3) := by decide +kernel
theorem dL_law_1755 : decode cL_law 1755 = .ok (.iconst 0, 1) := by decide +kernel
theorem dL_law_1756 : decode cL_law 1756 = .ok (.ireturn, 1) := by decide +kernel
theorem dL_law_1757 : decode cL_law 1757 = .ok (.goto 458, 3) := by decide +kernel
theorem dL_law_1760 : decode cL_law 1760 = .ok (.aload_n 1, 1) := by decide +kernel
theorem dL_law_1761 : decode cL_law 1761 = .ok (.aload_n 0, 1) := by decide +kernel
theorem dL_law_1762 : decode cL_law 1762 = .ok (.iload 4, 2) := by decide +kernel
theorem dL_law_1764 : decode cL_law 1764 = .ok (.iconst 1, 1) := by decide +kernel
theorem dL_law_1765 : decode cL_law 1765 = .ok (.iadd, 1) := by decide +kernel
theorem dL_law_1766 : decode cL_law 1766 = .ok (.iaload, 1) := by decide +kernel
theorem dL_law_1767 : decode cL_law 1767 = .ok (.aload_n 0, 1) := by decide +kernel
theorem dL_law_1768 : decode cL_law 1768 = .ok (.iload 4, 2) := by decide +kernel
theorem dL_law_1770 : decode cL_law 1770 = .ok (.iconst 2, 1) := by decide +kernel
theorem dL_law_1771 : decode cL_law 1771 = .ok (.iadd, 1) := by decide +kernel
theorem dL_law_1772 : decode cL_law 1772 = .ok (.iaload, 1) := by decide +kernel
theorem dL_law_1773 : decode cL_law 1773 = .ok (.aload_n 3, 1) := by decide +kernel
theorem dL_law_1774 : decode cL_law 1774 = .ok (.invokestatic 202, 3) := by decide +kernel
theorem dL_law_1777 : decode cL_law 1777 = .ok (.istore 5, 2) := by decide +kernel
theorem dL_law_1779 : decode cL_law 1779 = .ok (.aload_n 2, 1) := by decide +kernel
theorem dL_law_1780 : decode cL_law 1780 = .ok (.aload_n 0, 1) := by decide +kernel
theorem dL_law_1781 : decode cL_law 1781 = .ok (.iload 4, 2) := by decide +kernel
theorem dL_law_1783 : decode cL_law 1783 = .ok (.iconst 1, 1) := by decide +kernel
theorem dL_law_1784 : decode cL_law 1784 = .ok (.iadd, 1) := by decide +kernel
theorem dL_law_1785 : decode cL_law 1785 = .ok (.iaload, 1) := by decide +kernel
theorem dL_law_1786 : decode cL_law 1786 = .ok (.aload_n 0, 1) := by decide +kernel
theorem dL_law_1787 : decode cL_law 1787 = .ok (.iload 4, 2) := by decide +kernel
theorem dL_law_1789 : decode cL_law 1789 = .ok (.iconst 2, 1) := by decide +kernel
theorem dL_law_1790 : decode cL_law 1790 = .ok (.iadd, 1) := by decide +kernel
theorem dL_law_1791 : decode cL_law 1791 = .ok (.iaload, 1) := by decide +kernel
theorem dL_law_1792 : decode cL_law 1792 = .ok (.invokevirtual 204, 3) := by decide +kernel
theorem dL_law_1795 : decode cL_law 1795 = .ok (.istore 6, 2) := by decide +kernel
theorem dL_law_1797 : decode cL_law 1797 = .ok (.aload_n 2, 1) := by decide +kernel
theorem dL_law_1798 : decode cL_law 1798 = .ok (.invokevirtual 120, 3) := by decide +kernel
theorem dL_law_1801 : decode cL_law 1801 = .ok (.iload 5, 2) := by decide +kernel
theorem dL_law_1803 : decode cL_law 1803 = .ok (.if_icmp .eq 5, 3) := by decide +kernel
theorem dL_law_1806 : decode cL_law 1806 = .ok (.iconst 0, 1) := by decide +kernel
theorem dL_law_1807 : decode cL_law 1807 = .ok (.ireturn, 1) := by decide +kernel
theorem dL_law_1808 : decode cL_law 1808 = .ok (.iload 5, 2) := by decide +kernel
theorem dL_law_1810 : decode cL_law 1810 = .ok (.ifCond .ne 22, 3) := by decide +kernel
theorem dL_law_1813 : decode cL_law 1813 = .ok (.aload_n 3, 1) := by decide +kernel
theorem dL_law_1814 : decode cL_law 1814 = .ok (.iconst 0, 1) := by decide +kernel
theorem dL_law_1815 : decode cL_law 1815 = .ok (.laload, 1) := by decide +kernel
theorem dL_law_1816 : decode cL_law 1816 = .ok (.iload 6, 2) := by decide +kernel
theorem dL_law_1818 : decode cL_law 1818 = .ok (.ifCond .eq 7, 3) := by decide +kernel
theorem dL_law_1821 : decode cL_law 1821 = .ok (.lconst 1, 1) := by decide +kernel
theorem dL_law_1822 : decode cL_law 1822 = .ok (.goto 4, 3) := by decide +kernel
theorem dL_law_1825 : decode cL_law 1825 = .ok (.lconst 0, 1) := by decide +kernel
theorem dL_law_1826 : decode cL_law 1826 = .ok (.lcmp, 1) := by decide +kernel
theorem dL_law_1827 : decode cL_law 1827 = .ok (.ifCond .eq 5, 3) := by decide +kernel
theorem dL_law_1830 : decode cL_law 1830 = .ok (.iconst 0, 1) := by decide +kernel
theorem dL_law_1831 : decode cL_law 1831 = .ok (.ireturn, 1) := by decide +kernel
theorem dL_law_1832 : decode cL_law 1832 = .ok (.goto 383, 3) := by decide +kernel
theorem dL_law_1835 : decode cL_law 1835 = .ok (.aload_n 1, 1) := by decide +kernel
theorem dL_law_1836 : decode cL_law 1836 = .ok (.aload_n 0, 1) := by decide +kernel
theorem dL_law_1837 : decode cL_law 1837 = .ok (.iload 4, 2) := by decide +kernel
theorem dL_law_1839 : decode cL_law 1839 = .ok (.iconst 1, 1) := by decide +kernel
theorem dL_law_1840 : decode cL_law 1840 = .ok (.iadd, 1) := by decide +kernel
theorem dL_law_1841 : decode cL_law 1841 = .ok (.iaload, 1) := by decide +kernel
theorem dL_law_1842 : decode cL_law 1842 = .ok (.aload_n 0, 1) := by decide +kernel
theorem dL_law_1843 : decode cL_law 1843 = .ok (.iload 4, 2) := by decide +kernel
theorem dL_law_1845 : decode cL_law 1845 = .ok (.iconst 2, 1) := by decide +kernel
theorem dL_law_1846 : decode cL_law 1846 = .ok (.iadd, 1) := by decide +kernel
theorem dL_law_1847 : decode cL_law 1847 = .ok (.iaload, 1) := by decide +kernel
theorem dL_law_1848 : decode cL_law 1848 = .ok (.aload_n 3, 1) := by decide +kernel
theorem dL_law_1849 : decode cL_law 1849 = .ok (.invokestatic 205, 3) := by decide +kernel
theorem dL_law_1852 : decode cL_law 1852 = .ok (.istore 5, 2) := by decide +kernel
theorem dL_law_1854 : decode cL_law 1854 = .ok (.aload_n 2, 1) := by decide +kernel
theorem dL_law_1855 : decode cL_law 1855 = .ok (.aload_n 0, 1) := by decide +kernel
theorem dL_law_1856 : decode cL_law 1856 = .ok (.iload 4, 2) := by decide +kernel
theorem dL_law_1858 : decode cL_law 1858 = .ok (.iconst 1, 1) := by decide +kernel
theorem dL_law_1859 : decode cL_law 1859 = .ok (.iadd, 1) := by decide +kernel
theorem dL_law_1860 : decode cL_law 1860 = .ok (.iaload, 1) := by decide +kernel
theorem dL_law_1861 : decode cL_law 1861 = .ok (.aload_n 0, 1) := by decide +kernel
theorem dL_law_1862 : decode cL_law 1862 = .ok (.iload 4, 2) := by decide +kernel
theorem dL_law_1864 : decode cL_law 1864 = .ok (.iconst 2, 1) := by decide +kernel
theorem dL_law_1865 : decode cL_law 1865 = .ok (.iadd, 1) := by decide +kernel
theorem dL_law_1866 : decode cL_law 1866 = .ok (.iaload, 1) := by decide +kernel
theorem dL_law_1867 : decode cL_law 1867 = .ok (.invokevirtual 207, 3) := by decide +kernel
theorem dL_law_1870 : decode cL_law 1870 = .ok (.istore 6, 2) := by decide +kernel
theorem dL_law_1872 : decode cL_law 1872 = .ok (.aload_n 2, 1) := by decide +kernel
theorem dL_law_1873 : decode cL_law 1873 = .ok (.invokevirtual 120, 3) := by decide +kernel
theorem dL_law_1876 : decode cL_law 1876 = .ok (.iload 5, 2) := by decide +kernel
theorem dL_law_1878 : decode cL_law 1878 = .ok (.if_icmp .eq 5, 3) := by decide +kernel
theorem dL_law_1881 : decode cL_law 1881 = .ok (.iconst 0, 1) := by decide +kernel
theorem dL_law_1882 : decode cL_law 1882 = .ok (.ireturn, 1) := by decide +kernel
theorem dL_law_1883 : decode cL_law 1883 = .ok (.iload 5, 2) := by decide +kernel
theorem dL_law_1885 : decode cL_law 1885 = .ok (.ifCond .ne 15, 3) := by decide +kernel
theorem dL_law_1888 : decode cL_law 1888 = .ok (.aload_n 3, 1) := by decide +kernel
theorem dL_law_1889 : decode cL_law 1889 = .ok (.iconst 0, 1) := by decide +kernel
theorem dL_law_1890 : decode cL_law 1890 = .ok (.laload, 1) := by decide +kernel
theorem dL_law_1891 : decode cL_law 1891 = .ok (.iload 6, 2) := by decide +kernel
theorem dL_law_1893 : decode cL_law 1893 = .ok (.i2l, 1) := by decide +kernel
theorem dL_law_1894 : decode cL_law 1894 = .ok (.lcmp, 1) := by decide +kernel
theorem dL_law_1895 : decode cL_law 1895 = .ok (.ifCond .eq 5, 3) := by decide +kernel
theorem dL_law_1898 : decode cL_law 1898 = .ok (.iconst 0, 1) := by decide +kernel
theorem dL_law_1899 : decode cL_law 1899 = .ok (.ireturn, 1) := by decide +kernel
theorem dL_law_1900 : decode cL_law 1900 = .ok (.goto 315, 3) := by decide +kernel
theorem dL_law_1903 : decode cL_law 1903 = .ok (.aload_n 1, 1) := by decide +kernel
theorem dL_law_1904 : decode cL_law 1904 = .ok (.invokevirtual 208, 3) := by decide +kernel
theorem dL_law_1907 : decode cL_law 1907 = .ok (.aload_n 2, 1) := by decide +kernel
theorem dL_law_1908 : decode cL_law 1908 = .ok (.invokevirtual 211, 3) := by decide +kernel
theorem dL_law_1911 : decode cL_law 1911 = .ok (.if_icmp .eq 304, 3) := by decide +kernel
theorem dL_law_1914 : decode cL_law 1914 = .ok (.iconst 0, 1) := by decide +kernel
theorem dL_law_1915 : decode cL_law 1915 = .ok (.ireturn, 1) := by decide +kernel
theorem dL_law_1916 : decode cL_law 1916 = .ok (.aload_n 1, 1) := by decide +kernel
theorem dL_law_1917 : decode cL_law 1917 = .ok (.aload_n 0, 1) := by decide +kernel
theorem dL_law_1918 : decode cL_law 1918 = .ok (.iload 4, 2) := by decide +kernel
theorem dL_law_1920 : decode cL_law 1920 = .ok (.iconst 1, 1) := by decide +kernel
theorem dL_law_1921 : decode cL_law 1921 = .ok (.iadd, 1) := by decide +kernel
theorem dL_law_1922 : decode cL_law 1922 = .ok (.iaload, 1) := by decide +kernel
theorem dL_law_1923 : decode cL_law 1923 = .ok (.aload_n 3, 1) := by decide +kernel
theorem dL_law_1924 : decode cL_law 1924 = .ok (.invokestatic 212, 3) := by decide +kernel
theorem dL_law_1927 : decode cL_law 1927 = .ok (.istore 5, 2) := by decide +kernel
theorem dL_law_1929 : decode cL_law 1929 = .ok (.aload_n 2, 1) := by decide +kernel
theorem dL_law_1930 : decode cL_law 1930 = .ok (.aload_n 0, 1) := by decide +kernel
theorem dL_law_1931 : decode cL_law 1931 = .ok (.iload 4, 2) := by decide +kernel
theorem dL_law_1933 : decode cL_law 1933 = .ok (.iconst 1, 1) := by decide +kernel
theorem dL_law_1934 : decode cL_law 1934 = .ok (.iadd, 1) := by decide +kernel
theorem dL_law_1935 : decode cL_law 1935 = .ok (.iaload, 1) := by decide +kernel
theorem dL_law_1936 : decode cL_law 1936 = .ok (.invokevirtual 214, 3) := by decide +kernel
theorem dL_law_1939 : decode cL_law 1939 = .ok (.istore 6, 2) := by decide +kernel
theorem dL_law_1941 : decode cL_law 1941 = .ok (.aload_n 2, 1) := by decide +kernel
theorem dL_law_1942 : decode cL_law 1942 = .ok (.invokevirtual 120, 3) := by decide +kernel
theorem dL_law_1945 : decode cL_law 1945 = .ok (.iload 5, 2) := by decide +kernel
theorem dL_law_1947 : decode cL_law 1947 = .ok (.if_icmp .eq 5, 3) := by decide +kernel
theorem dL_law_1950 : decode cL_law 1950 = .ok (.iconst 0, 1) := by decide +kernel
theorem dL_law_1951 : decode cL_law 1951 = .ok (.ireturn, 1) := by decide +kernel
theorem dL_law_1952 : decode cL_law 1952 = .ok (.iload 5, 2) := by decide +kernel
theorem dL_law_1954 : decode cL_law 1954 = .ok (.ifCond .ne 22, 3) := by decide +kernel
theorem dL_law_1957 : decode cL_law 1957 = .ok (.aload_n 3, 1) := by decide +kernel
theorem dL_law_1958 : decode cL_law 1958 = .ok (.iconst 0, 1) := by decide +kernel
theorem dL_law_1959 : decode cL_law 1959 = .ok (.laload, 1) := by decide +kernel
theorem dL_law_1960 : decode cL_law 1960 = .ok (.iload 6, 2) := by decide +kernel
theorem dL_law_1962 : decode cL_law 1962 = .ok (.ifCond .eq 7, 3) := by decide +kernel
theorem dL_law_1965 : decode cL_law 1965 = .ok (.lconst 1, 1) := by decide +kernel
theorem dL_law_1966 : decode cL_law 1966 = .ok (.goto 4, 3) := by decide +kernel
theorem dL_law_1969 : decode cL_law 1969 = .ok (.lconst 0, 1) := by decide +kernel
theorem dL_law_1970 : decode cL_law 1970 = .ok (.lcmp, 1) := by decide +kernel
theorem dL_law_1971 : decode cL_law 1971 = .ok (.ifCond .eq 5, 3) := by decide +kernel
theorem dL_law_1974 : decode cL_law 1974 = .ok (.iconst 0, 1) := by decide +kernel
theorem dL_law_1975 : decode cL_law 1975 = .ok (.ireturn, 1) := by decide +kernel
theorem dL_law_1976 : decode cL_law 1976 = .ok (.goto 239, 3) := by decide +kernel
theorem dL_law_1979 : decode cL_law 1979 = .ok (.aload_n 1, 1) := by decide +kernel
theorem dL_law_1980 : decode cL_law 1980 = .ok (.aload_n 0, 1) := by decide +kernel
theorem dL_law_1981 : decode cL_law 1981 = .ok (.iload 4, 2) := by decide +kernel
theorem dL_law_1983 : decode cL_law 1983 = .ok (.iconst 1, 1) := by decide +kernel
theorem dL_law_1984 : decode cL_law 1984 = .ok (.iadd, 1) := by decide +kernel
theorem dL_law_1985 : decode cL_law 1985 = .ok (.iaload, 1) := by decide +kernel
theorem dL_law_1986 : decode cL_law 1986 = .ok (.aload_n 3, 1) := by decide +kernel
theorem dL_law_1987 : decode cL_law 1987 = .ok (.invokestatic 215, 3) := by decide +kernel
theorem dL_law_1990 : decode cL_law 1990 = .ok (.istore 5, 2) := by decide +kernel
theorem dL_law_1992 : decode cL_law 1992 = .ok (.aload_n 2, 1) := by decide +kernel
theorem dL_law_1993 : decode cL_law 1993 = .ok (.aload_n 0, 1) := by decide +kernel
theorem dL_law_1994 : decode cL_law 1994 = .ok (.iload 4, 2) := by decide +kernel
theorem dL_law_1996 : decode cL_law 1996 = .ok (.iconst 1, 1) := by decide +kernel
theorem dL_law_1997 : decode cL_law 1997 = .ok (.iadd, 1) := by decide +kernel
theorem dL_law_1998 : decode cL_law 1998 = .ok (.iaload, 1) := by decide +kernel
theorem dL_law_1999 : decode cL_law 1999 = .ok (.invokevirtual 217, 3) := by decide +kernel
theorem dL_law_2002 : decode cL_law 2002 = .ok (.istore 6, 2) := by decide +kernel
theorem dL_law_2004 : decode cL_law 2004 = .ok (.aload_n 2, 1) := by decide +kernel
theorem dL_law_2005 : decode cL_law 2005 = .ok (.invokevirtual 120, 3) := by decide +kernel
theorem dL_law_2008 : decode cL_law 2008 = .ok (.iload 5, 2) := by decide +kernel
theorem dL_law_2010 : decode cL_law 2010 = .ok (.if_icmp .eq 5, 3) := by decide +kernel
theorem dL_law_2013 : decode cL_law 2013 = .ok (.iconst 0, 1) := by decide +kernel
theorem dL_law_2014 : decode cL_law 2014 = .ok (.ireturn, 1) := by decide +kernel
theorem dL_law_2015 : decode cL_law 2015 = .ok (.iload 5, 2) := by decide +kernel
theorem dL_law_2017 : decode cL_law 2017 = .ok (.ifCond .ne 15, 3) := by decide +kernel
theorem dL_law_2020 : decode cL_law 2020 = .ok (.aload_n 3, 1) := by decide +kernel
theorem dL_law_2021 : decode cL_law 2021 = .ok (.iconst 0, 1) := by decide +kernel
theorem dL_law_2022 : decode cL_law 2022 = .ok (.laload, 1) := by decide +kernel
theorem dL_law_2023 : decode cL_law 2023 = .ok (.iload 6, 2) := by decide +kernel
theorem dL_law_2025 : decode cL_law 2025 = .ok (.i2l, 1) := by decide +kernel
theorem dL_law_2026 : decode cL_law 2026 = .ok (.lcmp, 1) := by decide +kernel
theorem dL_law_2027 : decode cL_law 2027 = .ok (.ifCond .eq 5, 3) := by decide +kernel
theorem dL_law_2030 : decode cL_law 2030 = .ok (.iconst 0, 1) := by decide +kernel
theorem dL_law_2031 : decode cL_law 2031 = .ok (.ireturn, 1) := by decide +kernel
theorem dL_law_2032 : decode cL_law 2032 = .ok (.goto 183, 3) := by decide +kernel
theorem dL_law_2035 : decode cL_law 2035 = .ok (.aload_n 1, 1) := by decide +kernel
theorem dL_law_2036 : decode cL_law 2036 = .ok (.aload_n 0, 1) := by decide +kernel
theorem dL_law_2037 : decode cL_law 2037 = .ok (.iload 4, 2) := by decide +kernel
theorem dL_law_2039 : decode cL_law 2039 = .ok (.iconst 1, 1) := by decide +kernel
theorem dL_law_2040 : decode cL_law 2040 = .ok (.iadd, 1) := by decide +kernel
theorem dL_law_2041 : decode cL_law 2041 = .ok (.iaload, 1) := by decide +kernel
theorem dL_law_2042 : decode cL_law 2042 = .ok (.aload_n 3, 1) := by decide +kernel
theorem dL_law_2043 : decode cL_law 2043 = .ok (.invokestatic 218, 3) := by decide +kernel
theorem dL_law_2046 : decode cL_law 2046 = .ok (.istore 5, 2) := by decide +kernel
theorem dL_law_2048 : decode cL_law 2048 = .ok (.aload_n 2, 1) := by decide +kernel
theorem dL_law_2049 : decode cL_law 2049 = .ok (.aload_n 0, 1) := by decide +kernel
theorem dL_law_2050 : decode cL_law 2050 = .ok (.iload 4, 2) := by decide +kernel
theorem dL_law_2052 : decode cL_law 2052 = .ok (.iconst 1, 1) := by decide +kernel
theorem dL_law_2053 : decode cL_law 2053 = .ok (.iadd, 1) := by decide +kernel
theorem dL_law_2054 : decode cL_law 2054 = .ok (.iaload, 1) := by decide +kernel
theorem dL_law_2055 : decode cL_law 2055 = .ok (.invokevirtual 220, 3) := by decide +kernel
theorem dL_law_2058 : decode cL_law 2058 = .ok (.istore 6, 2) := by decide +kernel
theorem dL_law_2060 : decode cL_law 2060 = .ok (.aload_n 2, 1) := by decide +kernel
theorem dL_law_2061 : decode cL_law 2061 = .ok (.invokevirtual 120, 3) := by decide +kernel
theorem dL_law_2064 : decode cL_law 2064 = .ok (.iload 5, 2) := by decide +kernel
theorem dL_law_2066 : decode cL_law 2066 = .ok (.if_icmp .eq 5, 3) := by decide +kernel
theorem dL_law_2069 : decode cL_law 2069 = .ok (.iconst 0, 1) := by decide +kernel
theorem dL_law_2070 : decode cL_law 2070 = .ok (.ireturn, 1) := by decide +kernel
theorem dL_law_2071 : decode cL_law 2071 = .ok (.iload 5, 2) := by decide +kernel
theorem dL_law_2073 : decode cL_law 2073 = .ok (.ifCond .ne 15, 3) := by decide +kernel
theorem dL_law_2076 : decode cL_law 2076 = .ok (.aload_n 3, 1) := by decide +kernel
theorem dL_law_2077 : decode cL_law 2077 = .ok (.iconst 0, 1) := by decide +kernel
theorem dL_law_2078 : decode cL_law 2078 = .ok (.laload, 1) := by decide +kernel
theorem dL_law_2079 : decode cL_law 2079 = .ok (.iload 6, 2) := by decide +kernel
theorem dL_law_2081 : decode cL_law 2081 = .ok (.i2l, 1) := by decide +kernel
theorem dL_law_2082 : decode cL_law 2082 = .ok (.lcmp, 1) := by decide +kernel
theorem dL_law_2083 : decode cL_law 2083 = .ok (.ifCond .eq 5, 3) := by decide +kernel
theorem dL_law_2086 : decode cL_law 2086 = .ok (.iconst 0, 1) := by decide +kernel
theorem dL_law_2087 : decode cL_law 2087 = .ok (.ireturn, 1) := by decide +kernel
theorem dL_law_2088 : decode cL_law 2088 = .ok (.goto 127, 3) := by decide +kernel
theorem dL_law_2091 : decode cL_law 2091 = .ok (.aload_n 1, 1) := by decide +kernel
theorem dL_law_2092 : decode cL_law 2092 = .ok (.aload_n 0, 1) := by decide +kernel
theorem dL_law_2093 : decode cL_law 2093 = .ok (.iload 4, 2) := by decide +kernel
theorem dL_law_2095 : decode cL_law 2095 = .ok (.iconst 1, 1) := by decide +kernel
theorem dL_law_2096 : decode cL_law 2096 = .ok (.iadd, 1) := by decide +kernel
theorem dL_law_2097 : decode cL_law 2097 = .ok (.iaload, 1) := by decide +kernel
theorem dL_law_2098 : decode cL_law 2098 = .ok (.aload_n 0, 1) := by decide +kernel
theorem dL_law_2099 : decode cL_law 2099 = .ok (.iload 4, 2) := by decide +kernel
theorem dL_law_2101 : decode cL_law 2101 = .ok (.iconst 2, 1) := by decide +kernel
theorem dL_law_2102 : decode cL_law 2102 = .ok (.iadd, 1) := by decide +kernel
theorem dL_law_2103 : decode cL_law 2103 = .ok (.iaload, 1) := by decide +kernel
theorem dL_law_2104 : decode cL_law 2104 = .ok (.aload_n 3, 1) := by decide +kernel
theorem dL_law_2105 : decode cL_law 2105 = .ok (.invokestatic 221, 3) := by decide +kernel
theorem dL_law_2108 : decode cL_law 2108 = .ok (.istore 5, 2) := by decide +kernel
theorem dL_law_2110 : decode cL_law 2110 = .ok (.aload_n 2, 1) := by decide +kernel
theorem dL_law_2111 : decode cL_law 2111 = .ok (.aload_n 0, 1) := by decide +kernel
theorem dL_law_2112 : decode cL_law 2112 = .ok (.iload 4, 2) := by decide +kernel
theorem dL_law_2114 : decode cL_law 2114 = .ok (.iconst 1, 1) := by decide +kernel
theorem dL_law_2115 : decode cL_law 2115 = .ok (.iadd, 1) := by decide +kernel
theorem dL_law_2116 : decode cL_law 2116 = .ok (.iaload, 1) := by decide +kernel
theorem dL_law_2117 : decode cL_law 2117 = .ok (.aload_n 0, 1) := by decide +kernel
theorem dL_law_2118 : decode cL_law 2118 = .ok (.iload 4, 2) := by decide +kernel
theorem dL_law_2120 : decode cL_law 2120 = .ok (.iconst 2, 1) := by decide +kernel
theorem dL_law_2121 : decode cL_law 2121 = .ok (.iadd, 1) := by decide +kernel
theorem dL_law_2122 : decode cL_law 2122 = .ok (.iaload, 1) := by decide +kernel
theorem dL_law_2123 : decode cL_law 2123 = .ok (.invokevirtual 223, 3) := by decide +kernel
theorem dL_law_2126 : decode cL_law 2126 = .ok (.istore 6, 2) := by decide +kernel
theorem dL_law_2128 : decode cL_law 2128 = .ok (.aload_n 2, 1) := by decide +kernel
theorem dL_law_2129 : decode cL_law 2129 = .ok (.invokevirtual 120, 3) := by decide +kernel
theorem dL_law_2132 : decode cL_law 2132 = .ok (.iload 5, 2) := by decide +kernel
theorem dL_law_2134 : decode cL_law 2134 = .ok (.if_icmp .eq 5, 3) := by decide +kernel
theorem dL_law_2137 : decode cL_law 2137 = .ok (.iconst 0, 1) := by decide +kernel
theorem dL_law_2138 : decode cL_law 2138 = .ok (.ireturn, 1) := by decide +kernel
theorem dL_law_2139 : decode cL_law 2139 = .ok (.iload 5, 2) := by decide +kernel
theorem dL_law_2141 : decode cL_law 2141 = .ok (.ifCond .ne 15, 3) := by decide +kernel
theorem dL_law_2144 : decode cL_law 2144 = .ok (.aload_n 3, 1) := by decide +kernel
theorem dL_law_2145 : decode cL_law 2145 = .ok (.iconst 0, 1) := by decide +kernel
theorem dL_law_2146 : decode cL_law 2146 = .ok (.laload, 1) := by decide +kernel
theorem dL_law_2147 : decode cL_law 2147 = .ok (.iload 6, 2) := by decide +kernel
theorem dL_law_2149 : decode cL_law 2149 = .ok (.i2l, 1) := by decide +kernel
theorem dL_law_2150 : decode cL_law 2150 = .ok (.lcmp, 1) := by decide +kernel
theorem dL_law_2151 : decode cL_law 2151 = .ok (.ifCond .eq 5, 3) := by decide +kernel
theorem dL_law_2154 : decode cL_law 2154 = .ok (.iconst 0, 1) := by decide +kernel
theorem dL_law_2155 : decode cL_law 2155 = .ok (.ireturn, 1) := by decide +kernel
theorem dL_law_2156 : decode cL_law 2156 = .ok (.goto 59, 3) := by decide +kernel
theorem dL_law_2159 : decode cL_law 2159 = .ok (.aload_n 1, 1) := by decide +kernel
theorem dL_law_2160 : decode cL_law 2160 = .ok (.aload_n 0, 1) := by decide +kernel
theorem dL_law_2161 : decode cL_law 2161 = .ok (.iload 4, 2) := by decide +kernel
theorem dL_law_2163 : decode cL_law 2163 = .ok (.iconst 1, 1) := by decide +kernel
theorem dL_law_2164 : decode cL_law 2164 = .ok (.iadd, 1) := by decide +kernel
theorem dL_law_2165 : decode cL_law 2165 = .ok (.iaload, 1) := by decide +kernel
theorem dL_law_2166 : decode cL_law 2166 = .ok (.aload_n 3, 1) := by decide +kernel
theorem dL_law_2167 : decode cL_law 2167 = .ok (.invokestatic 224, 3) := by decide +kernel
theorem dL_law_2170 : decode cL_law 2170 = .ok (.istore 5, 2) := by decide +kernel
theorem dL_law_2172 : decode cL_law 2172 = .ok (.aload_n 2, 1) := by decide +kernel
theorem dL_law_2173 : decode cL_law 2173 = .ok (.aload_n 0, 1) := by decide +kernel
theorem dL_law_2174 : decode cL_law 2174 = .ok (.iload 4, 2) := by decide +kernel
theorem dL_law_2176 : decode cL_law 2176 = .ok (.iconst 1, 1) := by decide +kernel
theorem dL_law_2177 : decode cL_law 2177 = .ok (.iadd, 1) := by decide +kernel
theorem dL_law_2178 : decode cL_law 2178 = .ok (.iaload, 1) := by decide +kernel
theorem dL_law_2179 : decode cL_law 2179 = .ok (.invokevirtual 226, 3) := by decide +kernel
theorem dL_law_2182 : decode cL_law 2182 = .ok (.istore 6, 2) := by decide +kernel
theorem dL_law_2184 : decode cL_law 2184 = .ok (.aload_n 2, 1) := by decide +kernel
theorem dL_law_2185 : decode cL_law 2185 = .ok (.invokevirtual 120, 3) := by decide +kernel
theorem dL_law_2188 : decode cL_law 2188 = .ok (.iload 5, 2) := by decide +kernel
theorem dL_law_2190 : decode cL_law 2190 = .ok (.if_icmp .eq 5, 3) := by decide +kernel
theorem dL_law_2193 : decode cL_law 2193 = .ok (.iconst 0, 1) := by decide +kernel
theorem dL_law_2194 : decode cL_law 2194 = .ok (.ireturn, 1) := by decide +kernel
theorem dL_law_2195 : decode cL_law 2195 = .ok (.iload 5, 2) := by decide +kernel
theorem dL_law_2197 : decode cL_law 2197 = .ok (.ifCond .ne 15, 3) := by decide +kernel
theorem dL_law_2200 : decode cL_law 2200 = .ok (.aload_n 3, 1) := by decide +kernel
theorem dL_law_2201 : decode cL_law 2201 = .ok (.iconst 0, 1) := by decide +kernel
theorem dL_law_2202 : decode cL_law 2202 = .ok (.laload, 1) := by decide +kernel
theorem dL_law_2203 : decode cL_law 2203 = .ok (.iload 6, 2) := by decide +kernel
theorem dL_law_2205 : decode cL_law 2205 = .ok (.i2l, 1) := by decide +kernel
theorem dL_law_2206 : decode cL_law 2206 = .ok (.lcmp, 1) := by decide +kernel
theorem dL_law_2207 : decode cL_law 2207 = .ok (.ifCond .eq 5, 3) := by decide +kernel
theorem dL_law_2210 : decode cL_law 2210 = .ok (.iconst 0, 1) := by decide +kernel
theorem dL_law_2211 : decode cL_law 2211 = .ok (.ireturn, 1) := by decide +kernel
theorem dL_law_2212 : decode cL_law 2212 = .ok (.goto 3, 3) := by decide +kernel
theorem dL_law_2215 : decode cL_law 2215 = .ok (.iinc 4 5, 3) := by decide +kernel
theorem dL_law_2218 : decode cL_law 2218 = .ok (.goto (-2195), 3) := by decide +kernel
theorem dL_law_2221 : decode cL_law 2221 = .ok (.iconst 1, 1) := by decide +kernel
theorem dL_law_2222 : decode cL_law 2222 = .ok (.ireturn, 1) := by decide +kernel
end
section
def fN : Nat → Nat := fun c => match c with
  | 0 => 2
  | 1 => 4
  | 2 => 7
  | 3 => 3
  | 4 => 4
  | 5 => 8
  | 6 => 2
  | 7 => 9
  | 8 => 4
  | 9 => 3
  | 10 => 7
  | 11 => 11
  | 12 => 49
  | _ => 0
def tyOf : Nat → Nat → FieldType := fun c => match c with
  | 0 => tyX0
  | 1 => tyX1
  | 2 => tyX2
  | 3 => tyX3
  | 4 => tyX4
  | 5 => tyX5
  | 6 => tyX6
  | 7 => tyX7
  | 8 => tyX8
  | 9 => tyX9
  | 10 => tyX10
  | 11 => tyX11
  | _ => tyX12
def nestW : List Cond := [Cond.methodLinkNest "TurtleChalk$Run" 11 ⟨"TurtleChalk$Turtle", "<init>", "()V"⟩ "TurtleChalk", Cond.fieldLinkNest "TurtleChalk" 195 "TurtleChalk$Drawing" "strokeCount" "I" "TurtleChalk", Cond.fieldLinkNest "TurtleChalk$Run" 66 "TurtleChalk$Order" "kind" "I" "TurtleChalk", Cond.fieldLinkNest "TurtleChalk$Draft" 32 "TurtleChalk$Order" "kind" "I" "TurtleChalk", Cond.fieldLinkNest "TurtleChalk$Program" 63 "TurtleChalk$Order" "kind" "I" "TurtleChalk", Cond.fieldLinkNest "TurtleChalk$Run" 98 "TurtleChalk$Order" "target" "I" "TurtleChalk", Cond.fieldLinkNest "TurtleChalk$Draft" 35 "TurtleChalk$Order" "target" "I" "TurtleChalk", Cond.fieldLinkNest "TurtleChalk$Program" 78 "TurtleChalk$Order" "target" "I" "TurtleChalk", Cond.fieldLinkNest "TurtleChalk$Run" 119 "TurtleChalk$Order" "value" "I" "TurtleChalk", Cond.fieldLinkNest "TurtleChalk$Program" 91 "TurtleChalk$Order" "value" "I" "TurtleChalk", Cond.fieldLinkNest "TurtleChalk$Run" 115 "TurtleChalk$Order" "isName" "Z" "TurtleChalk", Cond.fieldLinkNest "TurtleChalk$Program" 87 "TurtleChalk$Order" "isName" "Z" "TurtleChalk", Cond.fieldLinkNest "TurtleChalk" 259 "TurtleChalk$Program" "pupil" "I" "TurtleChalk", Cond.fieldLinkNest "TurtleChalk" 222 "TurtleChalk$Program" "form" "[I" "TurtleChalk", Cond.fieldLinkNest "TurtleChalk$Exercise" 34 "TurtleChalk$Program" "drawing" "LTurtleChalk$Drawing;" "TurtleChalk", Cond.fieldLinkNest "TurtleChalk$Work" 39 "TurtleChalk$Program" "drawing" "LTurtleChalk$Drawing;" "TurtleChalk", Cond.fieldLinkNest "TurtleChalk$Wall" 28 "TurtleChalk$Program" "drawing" "LTurtleChalk$Drawing;" "TurtleChalk", Cond.fieldLinkNest "TurtleChalk" 114 "TurtleChalk$Program" "drawing" "LTurtleChalk$Drawing;" "TurtleChalk", Cond.fieldLinkNest "TurtleChalk$Exercise" 22 "TurtleChalk$Program" "brokenBy" "I" "TurtleChalk", Cond.fieldLinkNest "TurtleChalk" 191 "TurtleChalk$Program" "brokenBy" "I" "TurtleChalk", Cond.fieldLinkNest "TurtleChalk$Exercise" 31 "TurtleChalk$Program" "counted" "I" "TurtleChalk", Cond.fieldLinkNest "TurtleChalk" 193 "TurtleChalk$Program" "counted" "I" "TurtleChalk", Cond.methodLinkNest "TurtleChalk$Turtle" 35 ⟨"TurtleChalk", "isOnGround", "(I)Z"⟩ "TurtleChalk", Cond.methodLinkNest "TurtleChalk$Drawing" 22 ⟨"TurtleChalk", "isOnGround", "(I)Z"⟩ "TurtleChalk", Cond.fieldLinkNest "TurtleChalk$Wall" 22 "TurtleChalk$Work" "program" "LTurtleChalk$Program;" "TurtleChalk", Cond.fieldLinkNest "TurtleChalk" 255 "TurtleChalk$Work" "program" "LTurtleChalk$Program;" "TurtleChalk", Cond.fieldLinkNest "TurtleChalk" 289 "TurtleChalk$Work" "exercise" "LTurtleChalk$Exercise;" "TurtleChalk", Cond.fieldLinkNest "TurtleChalk" 234 "TurtleChalk$Work" "original" "I" "TurtleChalk", Cond.fieldLinkNest "TurtleChalk" 176 "TurtleChalk$Work" "isCleared" "Z" "TurtleChalk", Cond.fieldLinkNest "TurtleChalk" 237 "TurtleChalk$Work" "isHanging" "Z" "TurtleChalk", Cond.fieldLinkNest "TurtleChalk" 240 "TurtleChalk$Work" "left" "I" "TurtleChalk", Cond.fieldLinkNest "TurtleChalk" 243 "TurtleChalk$Work" "low" "I" "TurtleChalk"]
def castW : List Cond := [Cond.castable "java/lang/IndexOutOfBoundsException" "java/lang/IndexOutOfBoundsException", Cond.castable "java/lang/IllegalArgumentException" "java/lang/IllegalArgumentException", Cond.castable "java/lang/IllegalStateException" "java/lang/IllegalStateException"]
def declW : List Cond := [Cond.declares ⟨"java/lang/RuntimeException", "<init>", "()V"⟩, Cond.declares ⟨"java/lang/RuntimeException", "<init>", "(Ljava/lang/String;)V"⟩, Cond.declares ⟨"java/lang/Exception", "<init>", "()V"⟩, Cond.declares ⟨"java/lang/Exception", "<init>", "(Ljava/lang/String;)V"⟩, Cond.declares ⟨"java/lang/Throwable", "<init>", "()V"⟩, Cond.declares ⟨"java/lang/Throwable", "<init>", "(Ljava/lang/String;)V"⟩]
def strW : List (Nat × String) := [(262, "there is no such name"), (268, "value is out of range"), (272, "the draft has 30 orders"), (264, "there is no such word"), (87, "a block is open, or the word has one"), (92, "no block is open"), (266, "there is no such pupil"), (103, "the draft is empty, or a block is open"), (109, "there are 30 programs"), (283, "there is no such program"), (270, "orders or steps is out of range"), (141, "there are 6 exercises"), (285, "there is no such exercise"), (163, "there are 24 works"), (287, "there is no such work"), (182, "width or height is out of range"), (198, "steps is out of range"), (206, "there is no such point"), (250, "the wall has no such cell")]
end
section
/-! THE TYPED MEMORY: what the cells hold, by kind; typed values of stack and locals; the judgement Gd over them -/
abbrev TV : Type := Int32 ⊕ (Int64 ⊕ Option Nat)
abbrev vI (x : Int32) : TV := .inl x
abbrev vJ (x : Int64) : TV := .inr (.inl x)
abbrev vA (r : Option Nat) : TV := .inr (.inr r)
def tv : TV → Value
  | .inl x => .int x
  | .inr (.inl x) => .long x
  | .inr (.inr r) => va_rf r
def tJ : TV → Bool
  | .inr (.inl _) => true
  | _ => false
def tL (L : List (Nat × TV)) : List (Nat × Value) := L.map (fun q => (q.1, tv q.2))
def tS (st : List TV) : List Value := st.map tv
def tW : List TV → Nat
  | [] => 0
  | v :: st => (if tJ v then 2 else 1) + tW st
theorem tv_cat (v : TV) : (tv v).category = if tJ v then 2 else 1 := by
  rcases v with x | x | r
  · rfl
  · rfl
  · cases r <;> rfl
theorem tW_sum (st : List TV) : ((tS st).map fun v => v.category).sum = tW st := by
  induction st with
  | nil => rfl
  | cons v st ih =>
    have h1 : ((tS (v :: st)).map fun v => v.category).sum = (tv v).category + ((tS st).map fun v => v.category).sum := by simp [tS]
    rw [h1, ih, tv_cat]
    rfl
theorem tL_at {L : List (Nat × TV)} {j i : Nat} {v : TV} (h : L[j]? = some (i, v)) : (tL L)[j]? = some (i, tv v) := by
  simp [tL, h]
def tk1 (i : Nat) (q : Nat × TV) : Bool := !(q.1 == i) && !(q.1 + 1 == i && tJ q.2)
def tk2 (i : Nat) (q : Nat × TV) : Bool := !(q.1 == i) && (!(q.1 == i + 1) && !(q.1 + 1 == i && tJ q.2))
theorem tv_j (v : TV) : ((tv v).category == 2) = tJ v := by
  rw [tv_cat]
  cases tJ v <;> rfl
theorem tL_k1 {L L' : List (Nat × TV)} {i : Nat} {v : TV} (h : (i, v) :: L.filter (tk1 i) = L') : (i, tv v) :: (tL L).filter (fun q => !(q.1 == i) && !(q.1 + 1 == i && q.2.category == 2)) = tL L' := by
  subst h
  have e : (tL L).filter (fun q => !(q.1 == i) && !(q.1 + 1 == i && q.2.category == 2)) = tL (L.filter (tk1 i)) := by
    unfold tL
    rw [List.filter_map]
    congr 1
    refine congrArg (fun f => List.filter f L) (funext fun q => ?_)
    simp only [Function.comp, tk1, tv_j]
  rw [e]
  rfl
theorem tL_k2 {L L' : List (Nat × TV)} {i : Nat} {v : TV} (h : (i, v) :: L.filter (tk2 i) = L') : (i, tv v) :: (tL L).filter (fun q => !(q.1 == i) && (!(q.1 == i + 1) && !(q.1 + 1 == i && q.2.category == 2))) = tL L' := by
  subst h
  have e : (tL L).filter (fun q => !(q.1 == i) && (!(q.1 == i + 1) && !(q.1 + 1 == i && q.2.category == 2))) = tL (L.filter (tk2 i)) := by
    unfold tL
    rw [List.filter_map]
    congr 1
    refine congrArg (fun f => List.filter f L) (funext fun q => ?_)
    simp only [Function.comp, tk2, tv_j]
  rw [e]
  rfl
theorem tL_sub {ls : Array Slot} {nL : Nat} {L L' : List (Nat × TV)} (h : lv_has ls nL (tL L)) (ks : List Nat) (e : ks.filterMap (fun k => L[k]?) = L') : lv_has ls nL (tL L') := by
  refine ⟨h.1, h.2.1, fun q hq => ?_⟩
  obtain ⟨q0, h1, rfl⟩ := List.mem_map.mp hq
  rw [← e] at h1
  obtain ⟨k, -, hk⟩ := List.mem_filterMap.mp h1
  exact h.2.2 _ (List.mem_map.mpr ⟨q0, List.mem_of_getElem? hk, rfl⟩)
/-! memory: kinds (an object of number c: (c, 0); an array: (20 + t, its length)), int and boolean fields, reference fields, arrays, the next address -/
abbrev Mem : Type := (Nat → Option (Nat × Nat)) × (Nat → Nat → Int32) × (Nat → Nat → Option Nat) × (Nat → Nat → Int32) × (Nat → Nat → Int64) × (Nat → Nat → Option Nat) × Nat
def mK (X : Mem) : Nat → Option (Nat × Nat) := X.1
def mI (X : Mem) : Nat → Nat → Int32 := X.2.1
def mR (X : Mem) : Nat → Nat → Option Nat := X.2.2.1
def aI (X : Mem) : Nat → Nat → Int32 := X.2.2.2.1
def aJ (X : Mem) : Nat → Nat → Int64 := X.2.2.2.2.1
def aR (X : Mem) : Nat → Nat → Option Nat := X.2.2.2.2.2.1
def mZ (X : Mem) : Nat := X.2.2.2.2.2.2
def up2 {α : Type} (f : Nat → Nat → α) (k a : Nat) (v : α) : Nat → Nat → α := fun j b => if j = k ∧ b = a then v else f j b
def wI (X : Mem) (k a : Nat) (v : Int32) : Mem := (mK X, up2 (mI X) k a v, mR X, aI X, aJ X, aR X, mZ X)
def wR (X : Mem) (k a : Nat) (v : Option Nat) : Mem := (mK X, mI X, up2 (mR X) k a v, aI X, aJ X, aR X, mZ X)
def sI (X : Mem) (a i : Nat) (v : Int32) : Mem := (mK X, mI X, mR X, up2 (aI X) a i v, aJ X, aR X, mZ X)
def sJ (X : Mem) (a i : Nat) (v : Int64) : Mem := (mK X, mI X, mR X, aI X, up2 (aJ X) a i v, aR X, mZ X)
def sR (X : Mem) (a i : Nat) (v : Option Nat) : Mem := (mK X, mI X, mR X, aI X, aJ X, up2 (aR X) a i v, mZ X)
def zM (X : Mem) (z : Nat) : Mem := (mK X, mI X, mR X, aI X, aJ X, aR X, z)
/-- a new object of number c at the next address: all fields 0 or null -/
def nO (X : Mem) (c : Nat) : Mem := (fun b => if b = mZ X then some (c, 0) else mK X b, fun k b => if b = mZ X then 0 else mI X k b, fun k b => if b = mZ X then none else mR X k b, aI X, aJ X, aR X, mZ X + 1)
/-- a new array of kind 20 + t and length n there -/
def nA (X : Mem) (t n : Nat) : Mem := (fun b => if b = mZ X then some (20 + t, n) else mK X b, mI X, mR X, fun b i => if b = mZ X then 0 else aI X b i, fun b i => if b = mZ X then 0 else aJ X b i, fun b i => if b = mZ X then none else aR X b i, mZ X + 1)
def fR : Nat → Nat → Bool := fun c k => match (tyOf c k) with
  | .array _ => true
  | .object _ => true
  | _ => false
def fsOf (X : Mem) (c a : Nat) : List Value := (List.range (fN c)).map (fun k => if fR c k then va_rf (mR X (100 * c + k) a) else .int (mI X (100 * c + k) a))
abbrev DD : Type := (Nat → ClassId) × (Nat → Nat → Nat) × (Nat → ClassId)
def cellOf (D : DD) (X : Mem) (a c n : Nat) : va_E :=
  if c < 13 then .inr (c, fsOf X c a) else if c < 22 then .inl (D.2.2 (c - 20), n, .inl (aI X a)) else if c = 22 then .inl (D.2.2 2, n, .inr (.inl (aJ X a))) else .inl (D.2.2 (c - 20), n, .inr (.inr (.inr (.inr (aR X a)))))
def RepM (D : DD) (X : Mem) (H : Heap) : Prop := (∀ a c n, mK X a = some (c, n) → (c < 13 ∨ (20 ≤ c ∧ c < 27)) ∧ va_at (D.1, D.2.1) vwCl (a, cellOf D X a c n) H) ∧ mZ X = H.size
def foot (X : Mem) (q : Nat) : Prop := mK X q ≠ none ∨ mZ X ≤ q
abbrev arT : Nat → FieldType := fun t => match t with
  | 0 => .int
  | 1 => .boolean
  | 2 => .long
  | 3 => .object RX4
  | 4 => .object RX5
  | 5 => .object RX3
  | _ => .object RX10
def tysOf (D : DD) : List (ClassId × FieldType) := (List.range 7).map (fun t => (D.2.2 t, arT t))
def gd : List Cond := lw_tbl.filter goodWord
/-- what the tables say, wherever the run stands -/
def AK (D : DD) (U : State) : Prop :=
  va_K (D.1, D.2.1) vwCl (tysOf D) U ∧ (∀ w ∈ gd, ∀ a : Array Value, w.before a U = true) ∧ (∀ w ∈ nestW, va_Nw w U) ∧ (∀ q ∈ strW, ∃ sa, vk_R RX11 q.1 q.2 sa U) ∧ (∀ w ∈ castW, va_Nw w U) ∧ (∀ w ∈ declW, va_Nw w U) ∧ (∀ t, 3 ≤ t → t < 7 → ∃ C, arT t = .object C ∧ va_AO C U)
end
section
/-! THE JUDGEMENT Gd: from the typed memory X, at pc, with the typed locals L and the typed stack st, the walk comes to Q -/
def nkW : Cond → Bool
  | .fieldLinkNest .. => true
  | .methodLinkNest .. => true
  | _ => false
def ckW : Cond → Bool
  | .castable .. => true
  | _ => false
def dkW : Cond → Bool
  | .declares .. => true
  | _ => false
theorem nestW_k : nestW.all nkW = true := rfl
theorem castW_k : castW.all ckW = true := rfl
theorem declW_k : declW.all dkW = true := rfl
theorem AK.warm {D : DD} {s U : State} (hW : s.WarmedH U.vm) (h : AK D s) : AK D U := by
  obtain ⟨h1, h2, h3, h4, h5, h6, h7⟩ := h
  refine ⟨va_K.moved hW.alike h1, fun w hw a => word_at hW (good_of_word (List.mem_filter.mp hw).2) (h2 w hw a), fun w hw => ?_, fun q hq => ?_, fun w hw => ?_, fun w hw => ?_, fun t ht1 ht2 => ?_⟩
  · have hk := List.all_eq_true.mp nestW_k w hw
    have hz := h3 w hw
    cases w <;> first | exact va_Nw.warmF hW hz | exact va_Nw.warmM hW hz | exact absurd hk (by simp [nkW])
  · obtain ⟨sa, h⟩ := h4 q hq
    exact ⟨sa, vk_R.warm hW h⟩
  · have hk := List.all_eq_true.mp castW_k w hw
    have hz := h5 w hw
    cases w <;> first | exact va_Nw.warmC hW hz | exact absurd hk (by simp [ckW])
  · have hk := List.all_eq_true.mp declW_k w hw
    have hz := h6 w hw
    cases w <;> first | exact va_Nw.warmD hW hz | exact absurd hk (by simp [dkW])
  · obtain ⟨C, e1, e2⟩ := h7 t ht1 ht2
    exact ⟨C, e1, va_AO.moved hW.alike e2⟩
theorem AK.w {D : DD} {s : State} (h : AK D s) {w : Cond} (hw : w ∈ gd) {a : Array Value} : w.before a s = true := h.2.1 w hw a
abbrev EV : Type := Program × Launch × Env × Room × State × MethodId × Array Value × List Frame × Method × Code
def zU (A : Nat → Prop) (s : State) (H : Heap) : Prop := vx_Zq Bundle.tN "UNASSIGNED_STACK" Bundle.steD A s H ∧ vx_Zq Bundle.tN "SUPPRESSED_SENTINEL" Bundle.listD A s H
/-- what a body knows of where it stands -/
def Amb (D : DD) (A0 : Nat → Prop) (ev : EV) (own nm : String) (cc : ByteArray) (nL : Nat) (ret : Option FieldType) (rm : Room) : Prop := match ev with
  | (p, l, _, R, s, m, _, _, meth, c) => p.tables.exec = Jvm.exec ∧ c.code = cc ∧ c.maxLocals = nL ∧ s.vm.findClass own = some m.cls ∧ AK D s ∧ meth.locks = false ∧ meth.sig.returnType = ret ∧ R = rm ∧ (∀ q : Nat, s.heap.size ≤ q → A0 q) ∧ l.stackTraces = false ∧ zU A0 s s.heap ∧ meth.name = nm
def Gd (D : DD) (A0 : Nat → Prop) (ev : EV) (Q : State → Prop) (X : Mem) (cs sl pc : Nat) (L : List (Nat × TV)) (st : List TV) : Prop := match ev with
  | (p, l, e, R, s, m, args, below, meth, c) => ∀ (H : Heap) (locs : List Loc) (ls : Array Slot), RepM D X H → (∀ a, mK X a ≠ none → A0 a) → va_S A0 s.heap H locs → lv_has ls c.maxLocals (tL L) → W p l e R s m args below meth c H locs cs sl Q (F0 m pc ls (tS st))
section GR
variable {D : DD} {A0 : Nat → Prop} {ev : EV} {Q : State → Prop} {X : Mem} {cs sl pc : Nat} {L : List (Nat × TV)} {st : List TV} {own nm : String} {cc : ByteArray} {nL : Nat} {ret : Option FieldType} {rm : Room}
theorem g_sub {L' : List (Nat × TV)} (ks : List Nat) (e : ks.filterMap (fun k => L[k]?) = L') (k : Gd D A0 ev Q X cs sl pc L' st) : Gd D A0 ev Q X cs sl pc L st := by
  obtain ⟨p, l, e9, R, s, m, args, below, meth, c⟩ := ev
  exact fun H locs ls hR hA hS hl => k H locs ls hR hA hS (tL_sub hl ks e)
theorem g_widen {cs' sl' : Nat} (h1 : cs ≤ cs') (h2 : sl ≤ sl') (k : Gd D A0 ev Q X cs' sl' pc L st) : Gd D A0 ev Q X cs sl pc L st := by
  obtain ⟨p, l, e9, R, s, m, args, below, meth, c⟩ := ev
  exact fun H locs ls hR hA hS hl => W.widen h1 h2 (k H locs ls hR hA hS hl)

theorem g_iconst {n : Int} (B : Amb D A0 ev own nm cc nL ret rm) (d : decode cc pc = .ok (.iconst n, 1)) (v : Int32) (hv : Int32.ofInt n = v) (k : Gd D A0 ev Q X cs sl (pc + 1) L (vI v :: st)) : Gd D A0 ev Q X cs sl pc L (st) := by
  obtain ⟨p, l, e9, R, s, m, args, below, meth, c⟩ := ev
  intro H locs ls hR hA hS hl
  exact lv_iconst B.1 B.2.1 d hv (k H locs ls hR hA hS hl)
theorem g_bipush {n : Int} (B : Amb D A0 ev own nm cc nL ret rm) (d : decode cc pc = .ok (.bipush n, 2)) (v : Int32) (hv : (Int8.ofInt n).toInt32 = v) (k : Gd D A0 ev Q X cs sl (pc + 2) L (vI v :: st)) : Gd D A0 ev Q X cs sl pc L (st) := by
  obtain ⟨p, l, e9, R, s, m, args, below, meth, c⟩ := ev
  intro H locs ls hR hA hS hl
  exact lv_bipush B.1 B.2.1 d hv (k H locs ls hR hA hS hl)
theorem g_sipush {n : Int} (B : Amb D A0 ev own nm cc nL ret rm) (d : decode cc pc = .ok (.sipush n, 3)) (v : Int32) (hv : (Int16.ofInt n).toInt32 = v) (k : Gd D A0 ev Q X cs sl (pc + 3) L (vI v :: st)) : Gd D A0 ev Q X cs sl pc L (st) := by
  obtain ⟨p, l, e9, R, s, m, args, below, meth, c⟩ := ev
  intro H locs ls hR hA hS hl
  exact lv_sipush B.1 B.2.1 d hv (k H locs ls hR hA hS hl)
theorem g_lconst {n : Fin 2} (B : Amb D A0 ev own nm cc nL ret rm) (d : decode cc pc = .ok (.lconst n, 1)) (v : Int64) (hv : Int64.ofNat n = v) (k : Gd D A0 ev Q X cs sl (pc + 1) L (vJ v :: st)) : Gd D A0 ev Q X cs sl pc L (st) := by
  obtain ⟨p, l, e9, R, s, m, args, below, meth, c⟩ := ev
  intro H locs ls hR hA hS hl
  exact lv_lconst B.1 B.2.1 d hv (k H locs ls hR hA hS hl)
theorem g_null (B : Amb D A0 ev own nm cc nL ret rm) (d : decode cc pc = .ok (.aconst_null, 1)) (k : Gd D A0 ev Q X cs sl (pc + 1) L (vA none :: st)) : Gd D A0 ev Q X cs sl pc L (st) := by
  obtain ⟨p, l, e9, R, s, m, args, below, meth, c⟩ := ev
  intro H locs ls hR hA hS hl
  exact lv_null B.1 B.2.1 d (k H locs ls hR hA hS hl)
theorem g_iload_n {kf : Fin 4} {x : Int32} (B : Amb D A0 ev own nm cc nL ret rm) (d : decode cc pc = .ok (.iload_n kf, 1)) (j : Nat) (hj : L[j]? = some (kf.val, vI x)) (k : Gd D A0 ev Q X cs sl (pc + 1) L (vI x :: st)) : Gd D A0 ev Q X cs sl pc L (st) := by
  obtain ⟨p, l, e9, R, s, m, args, below, meth, c⟩ := ev
  intro H locs ls hR hA hS hl
  exact lv_iload_n B.1 B.2.1 d rfl (lv_at hl j (tL_at hj)) (k H locs ls hR hA hS hl)
theorem g_iload {i : Nat} {x : Int32} (B : Amb D A0 ev own nm cc nL ret rm) (d : decode cc pc = .ok (.iload i, 2)) (j : Nat) (hj : L[j]? = some (i, vI x)) (k : Gd D A0 ev Q X cs sl (pc + 2) L (vI x :: st)) : Gd D A0 ev Q X cs sl pc L (st) := by
  obtain ⟨p, l, e9, R, s, m, args, below, meth, c⟩ := ev
  intro H locs ls hR hA hS hl
  exact lv_iload B.1 B.2.1 d (lv_at hl j (tL_at hj)) (k H locs ls hR hA hS hl)
theorem g_lload_n {kf : Fin 4} {x : Int64} (B : Amb D A0 ev own nm cc nL ret rm) (d : decode cc pc = .ok (.lload_n kf, 1)) (j : Nat) (hj : L[j]? = some (kf.val, vJ x)) (k : Gd D A0 ev Q X cs sl (pc + 1) L (vJ x :: st)) : Gd D A0 ev Q X cs sl pc L (st) := by
  obtain ⟨p, l, e9, R, s, m, args, below, meth, c⟩ := ev
  intro H locs ls hR hA hS hl
  exact lv_lload_n B.1 B.2.1 d rfl (lv_at hl j (tL_at hj)) (k H locs ls hR hA hS hl)
theorem g_lload {i : Nat} {x : Int64} (B : Amb D A0 ev own nm cc nL ret rm) (d : decode cc pc = .ok (.lload i, 2)) (j : Nat) (hj : L[j]? = some (i, vJ x)) (k : Gd D A0 ev Q X cs sl (pc + 2) L (vJ x :: st)) : Gd D A0 ev Q X cs sl pc L (st) := by
  obtain ⟨p, l, e9, R, s, m, args, below, meth, c⟩ := ev
  intro H locs ls hR hA hS hl
  exact lv_lload B.1 B.2.1 d (lv_at hl j (tL_at hj)) (k H locs ls hR hA hS hl)
theorem g_aload_n {kf : Fin 4} {r : Option Nat} (B : Amb D A0 ev own nm cc nL ret rm) (d : decode cc pc = .ok (.aload_n kf, 1)) (j : Nat) (hj : L[j]? = some (kf.val, vA r)) (k : Gd D A0 ev Q X cs sl (pc + 1) L (vA r :: st)) : Gd D A0 ev Q X cs sl pc L st := by
  obtain ⟨p, l, e9, R, s, m, args, below, meth, c⟩ := ev
  intro H locs ls hR hA hS hl
  have h9 := lv_at hl j (tL_at hj)
  cases r with
  | none => exact lv_aload_nN B.1 B.2.1 d rfl h9 (k H locs ls hR hA hS hl)
  | some a => exact lv_aload_n B.1 B.2.1 d rfl h9 (k H locs ls hR hA hS hl)
theorem g_aload {i : Nat} {r : Option Nat} (B : Amb D A0 ev own nm cc nL ret rm) (d : decode cc pc = .ok (.aload i, 2)) (j : Nat) (hj : L[j]? = some (i, vA r)) (k : Gd D A0 ev Q X cs sl (pc + 2) L (vA r :: st)) : Gd D A0 ev Q X cs sl pc L st := by
  obtain ⟨p, l, e9, R, s, m, args, below, meth, c⟩ := ev
  intro H locs ls hR hA hS hl
  have h9 := lv_at hl j (tL_at hj)
  cases r with
  | none => exact lv_aloadN B.1 B.2.1 d h9 (k H locs ls hR hA hS hl)
  | some a => exact lv_aload B.1 B.2.1 d h9 (k H locs ls hR hA hS hl)
theorem g_istore_n {kf : Fin 4} {x : Int32} {L' : List (Nat × TV)} (B : Amb D A0 ev own nm cc nL ret rm) (d : decode cc pc = .ok (.istore_n kf, 1)) (hn : kf.val < nL) (hL : (kf.val, vI x) :: L.filter (tk1 kf.val) = L') (k : Gd D A0 ev Q X cs sl (pc + 1) L' (st)) : Gd D A0 ev Q X cs sl pc L (vI x :: st) := by
  obtain ⟨p, l, e9, R, s, m, args, below, meth, c⟩ := ev
  intro H locs ls hR hA hS hl
  exact lv_istore_n B.1 B.2.1 d rfl hl (by rw [B.2.2.1]; exact hn) (tL_k1 hL) (fun ls' hl' => k H locs ls' hR hA hS hl')
theorem g_istore {i : Nat} {x : Int32} {L' : List (Nat × TV)} (B : Amb D A0 ev own nm cc nL ret rm) (d : decode cc pc = .ok (.istore i, 2)) (hn : i < nL) (hL : (i, vI x) :: L.filter (tk1 i) = L') (k : Gd D A0 ev Q X cs sl (pc + 2) L' (st)) : Gd D A0 ev Q X cs sl pc L (vI x :: st) := by
  obtain ⟨p, l, e9, R, s, m, args, below, meth, c⟩ := ev
  intro H locs ls hR hA hS hl
  exact lv_istore B.1 B.2.1 d hl (by rw [B.2.2.1]; exact hn) (tL_k1 hL) (fun ls' hl' => k H locs ls' hR hA hS hl')
theorem g_lstore_n {kf : Fin 4} {x : Int64} {L' : List (Nat × TV)} (B : Amb D A0 ev own nm cc nL ret rm) (d : decode cc pc = .ok (.lstore_n kf, 1)) (hn : kf.val + 1 < nL) (hL : (kf.val, vJ x) :: L.filter (tk2 kf.val) = L') (k : Gd D A0 ev Q X cs sl (pc + 1) L' (st)) : Gd D A0 ev Q X cs sl pc L (vJ x :: st) := by
  obtain ⟨p, l, e9, R, s, m, args, below, meth, c⟩ := ev
  intro H locs ls hR hA hS hl
  exact lv_lstore_n B.1 B.2.1 d rfl hl (by rw [B.2.2.1]; exact hn) (tL_k2 hL) (fun ls' hl' => k H locs ls' hR hA hS hl')
theorem g_lstore {i : Nat} {x : Int64} {L' : List (Nat × TV)} (B : Amb D A0 ev own nm cc nL ret rm) (d : decode cc pc = .ok (.lstore i, 2)) (hn : i + 1 < nL) (hL : (i, vJ x) :: L.filter (tk2 i) = L') (k : Gd D A0 ev Q X cs sl (pc + 2) L' (st)) : Gd D A0 ev Q X cs sl pc L (vJ x :: st) := by
  obtain ⟨p, l, e9, R, s, m, args, below, meth, c⟩ := ev
  intro H locs ls hR hA hS hl
  exact lv_lstore B.1 B.2.1 d hl (by rw [B.2.2.1]; exact hn) (tL_k2 hL) (fun ls' hl' => k H locs ls' hR hA hS hl')
theorem g_astore_n {kf : Fin 4} {r : Option Nat} {L' : List (Nat × TV)} (B : Amb D A0 ev own nm cc nL ret rm) (d : decode cc pc = .ok (.astore_n kf, 1)) (hn : kf.val < nL) (hL : (kf.val, vA r) :: L.filter (tk1 kf.val) = L') (k : Gd D A0 ev Q X cs sl (pc + 1) L' st) : Gd D A0 ev Q X cs sl pc L (vA r :: st) := by
  obtain ⟨p, l, e9, R, s, m, args, below, meth, c⟩ := ev
  intro H locs ls hR hA hS hl
  have h9 := tL_k1 hL
  cases r with
  | none => exact lv_astore_nN B.1 B.2.1 d rfl hl (by rw [B.2.2.1]; exact hn) h9 (fun ls' hl' => k H locs ls' hR hA hS hl')
  | some a => exact lv_astore_n B.1 B.2.1 d rfl hl (by rw [B.2.2.1]; exact hn) h9 (fun ls' hl' => k H locs ls' hR hA hS hl')
theorem g_astore {i : Nat} {r : Option Nat} {L' : List (Nat × TV)} (B : Amb D A0 ev own nm cc nL ret rm) (d : decode cc pc = .ok (.astore i, 2)) (hn : i < nL) (hL : (i, vA r) :: L.filter (tk1 i) = L') (k : Gd D A0 ev Q X cs sl (pc + 2) L' st) : Gd D A0 ev Q X cs sl pc L (vA r :: st) := by
  obtain ⟨p, l, e9, R, s, m, args, below, meth, c⟩ := ev
  intro H locs ls hR hA hS hl
  have h9 := tL_k1 hL
  cases r with
  | none => exact lv_astoreN B.1 B.2.1 d hl (by rw [B.2.2.1]; exact hn) h9 (fun ls' hl' => k H locs ls' hR hA hS hl')
  | some a => exact lv_astore B.1 B.2.1 d hl (by rw [B.2.2.1]; exact hn) h9 (fun ls' hl' => k H locs ls' hR hA hS hl')
theorem g_iinc {i : Nat} {n : Int} {x v : Int32} {L' : List (Nat × TV)} (B : Amb D A0 ev own nm cc nL ret rm) (d : decode cc pc = .ok (.iinc i n, 3)) (hn : i < nL) (j : Nat) (hj : L[j]? = some (i, vI x)) (hv : x + Int32.ofInt n = v) (hL : (i, vI v) :: L.filter (tk1 i) = L') (k : Gd D A0 ev Q X cs sl (pc + 3) L' (st)) : Gd D A0 ev Q X cs sl pc L (st) := by
  obtain ⟨p, l, e9, R, s, m, args, below, meth, c⟩ := ev
  intro H locs ls hR hA hS hl
  exact lv_iinc B.1 B.2.1 d hl (tL_at hj) hv (by rw [B.2.2.1]; exact hn) (tL_k1 hL) (fun ls' hl' => k H locs ls' hR hA hS hl')
theorem g_iadd {x y : Int32} (B : Amb D A0 ev own nm cc nL ret rm) (d : decode cc pc = .ok (.iadd, 1)) (k : Gd D A0 ev Q X cs sl (pc + 1) L (vI (x + y) :: st)) : Gd D A0 ev Q X cs sl pc L (vI y :: vI x :: st) := by
  obtain ⟨p, l, e9, R, s, m, args, below, meth, c⟩ := ev
  intro H locs ls hR hA hS hl
  exact lv_iadd B.1 B.2.1 d (k H locs ls hR hA hS hl)
theorem g_isub {x y : Int32} (B : Amb D A0 ev own nm cc nL ret rm) (d : decode cc pc = .ok (.isub, 1)) (k : Gd D A0 ev Q X cs sl (pc + 1) L (vI (x - y) :: st)) : Gd D A0 ev Q X cs sl pc L (vI y :: vI x :: st) := by
  obtain ⟨p, l, e9, R, s, m, args, below, meth, c⟩ := ev
  intro H locs ls hR hA hS hl
  exact lv_isub B.1 B.2.1 d (k H locs ls hR hA hS hl)
theorem g_imul {x y : Int32} (B : Amb D A0 ev own nm cc nL ret rm) (d : decode cc pc = .ok (.imul, 1)) (k : Gd D A0 ev Q X cs sl (pc + 1) L (vI (x * y) :: st)) : Gd D A0 ev Q X cs sl pc L (vI y :: vI x :: st) := by
  obtain ⟨p, l, e9, R, s, m, args, below, meth, c⟩ := ev
  intro H locs ls hR hA hS hl
  exact lv_imul B.1 B.2.1 d (k H locs ls hR hA hS hl)
theorem g_iand {x y : Int32} (B : Amb D A0 ev own nm cc nL ret rm) (d : decode cc pc = .ok (.iand, 1)) (k : Gd D A0 ev Q X cs sl (pc + 1) L (vI (x &&& y) :: st)) : Gd D A0 ev Q X cs sl pc L (vI y :: vI x :: st) := by
  obtain ⟨p, l, e9, R, s, m, args, below, meth, c⟩ := ev
  intro H locs ls hR hA hS hl
  exact lv_iand B.1 B.2.1 d (k H locs ls hR hA hS hl)
theorem g_ior {x y : Int32} (B : Amb D A0 ev own nm cc nL ret rm) (d : decode cc pc = .ok (.ior, 1)) (k : Gd D A0 ev Q X cs sl (pc + 1) L (vI (x ||| y) :: st)) : Gd D A0 ev Q X cs sl pc L (vI y :: vI x :: st) := by
  obtain ⟨p, l, e9, R, s, m, args, below, meth, c⟩ := ev
  intro H locs ls hR hA hS hl
  exact lv_ior B.1 B.2.1 d (k H locs ls hR hA hS hl)
theorem g_ixor {x y : Int32} (B : Amb D A0 ev own nm cc nL ret rm) (d : decode cc pc = .ok (.ixor, 1)) (k : Gd D A0 ev Q X cs sl (pc + 1) L (vI (x ^^^ y) :: st)) : Gd D A0 ev Q X cs sl pc L (vI y :: vI x :: st) := by
  obtain ⟨p, l, e9, R, s, m, args, below, meth, c⟩ := ev
  intro H locs ls hR hA hS hl
  exact lv_ixor B.1 B.2.1 d (k H locs ls hR hA hS hl)
theorem g_idiv {x y : Int32} (B : Amb D A0 ev own nm cc nL ret rm) (d : decode cc pc = .ok (.idiv, 1)) (hne : ¬ y = 0) (k : Gd D A0 ev Q X cs sl (pc + 1) L (vI (x / y) :: st)) : Gd D A0 ev Q X cs sl pc L (vI y :: vI x :: st) := by
  obtain ⟨p, l, e9, R, s, m, args, below, meth, c⟩ := ev
  intro H locs ls hR hA hS hl
  exact lv_idiv B.1 B.2.1 d hne (k H locs ls hR hA hS hl)
theorem g_irem {x y : Int32} (B : Amb D A0 ev own nm cc nL ret rm) (d : decode cc pc = .ok (.irem, 1)) (hne : ¬ y = 0) (k : Gd D A0 ev Q X cs sl (pc + 1) L (vI (x - x / y * y) :: st)) : Gd D A0 ev Q X cs sl pc L (vI y :: vI x :: st) := by
  obtain ⟨p, l, e9, R, s, m, args, below, meth, c⟩ := ev
  intro H locs ls hR hA hS hl
  exact lv_irem B.1 B.2.1 d hne (k H locs ls hR hA hS hl)
theorem g_lsub {x y : Int64} (B : Amb D A0 ev own nm cc nL ret rm) (d : decode cc pc = .ok (.lsub, 1)) (k : Gd D A0 ev Q X cs sl (pc + 1) L (vJ (x - y) :: st)) : Gd D A0 ev Q X cs sl pc L (vJ y :: vJ x :: st) := by
  obtain ⟨p, l, e9, R, s, m, args, below, meth, c⟩ := ev
  intro H locs ls hR hA hS hl
  exact lv_lsub B.1 B.2.1 d (k H locs ls hR hA hS hl)
theorem g_land {x y : Int64} (B : Amb D A0 ev own nm cc nL ret rm) (d : decode cc pc = .ok (.land, 1)) (k : Gd D A0 ev Q X cs sl (pc + 1) L (vJ (x &&& y) :: st)) : Gd D A0 ev Q X cs sl pc L (vJ y :: vJ x :: st) := by
  obtain ⟨p, l, e9, R, s, m, args, below, meth, c⟩ := ev
  intro H locs ls hR hA hS hl
  exact lv_land B.1 B.2.1 d (k H locs ls hR hA hS hl)
theorem g_lor {x y : Int64} (B : Amb D A0 ev own nm cc nL ret rm) (d : decode cc pc = .ok (.lor, 1)) (k : Gd D A0 ev Q X cs sl (pc + 1) L (vJ (x ||| y) :: st)) : Gd D A0 ev Q X cs sl pc L (vJ y :: vJ x :: st) := by
  obtain ⟨p, l, e9, R, s, m, args, below, meth, c⟩ := ev
  intro H locs ls hR hA hS hl
  exact lv_lor B.1 B.2.1 d (k H locs ls hR hA hS hl)
theorem g_ishl {x y : Int32} (B : Amb D A0 ev own nm cc nL ret rm) (d : decode cc pc = .ok (.ishl, 1)) (k : Gd D A0 ev Q X cs sl (pc + 1) L (vI (x <<< (y &&& 31)) :: st)) : Gd D A0 ev Q X cs sl pc L (vI y :: vI x :: st) := by
  obtain ⟨p, l, e9, R, s, m, args, below, meth, c⟩ := ev
  intro H locs ls hR hA hS hl
  exact lv_ishl B.1 B.2.1 d (k H locs ls hR hA hS hl)
theorem g_ishr {x y : Int32} (B : Amb D A0 ev own nm cc nL ret rm) (d : decode cc pc = .ok (.ishr, 1)) (k : Gd D A0 ev Q X cs sl (pc + 1) L (vI (x >>> (y &&& 31)) :: st)) : Gd D A0 ev Q X cs sl pc L (vI y :: vI x :: st) := by
  obtain ⟨p, l, e9, R, s, m, args, below, meth, c⟩ := ev
  intro H locs ls hR hA hS hl
  exact lv_ishr B.1 B.2.1 d (k H locs ls hR hA hS hl)
theorem g_lshl {x : Int64} {y : Int32} (B : Amb D A0 ev own nm cc nL ret rm) (d : decode cc pc = .ok (.lshl, 1)) (k : Gd D A0 ev Q X cs sl (pc + 1) L (vJ (x <<< (y.toInt64 &&& 63)) :: st)) : Gd D A0 ev Q X cs sl pc L (vI y :: vJ x :: st) := by
  obtain ⟨p, l, e9, R, s, m, args, below, meth, c⟩ := ev
  intro H locs ls hR hA hS hl
  exact lv_lshl B.1 B.2.1 d rfl (k H locs ls hR hA hS hl)
theorem g_lshr {x : Int64} {y : Int32} (B : Amb D A0 ev own nm cc nL ret rm) (d : decode cc pc = .ok (.lshr, 1)) (k : Gd D A0 ev Q X cs sl (pc + 1) L (vJ (x >>> (y.toInt64 &&& 63)) :: st)) : Gd D A0 ev Q X cs sl pc L (vI y :: vJ x :: st) := by
  obtain ⟨p, l, e9, R, s, m, args, below, meth, c⟩ := ev
  intro H locs ls hR hA hS hl
  exact lv_lshr B.1 B.2.1 d rfl (k H locs ls hR hA hS hl)
theorem g_i2l {x : Int32} (B : Amb D A0 ev own nm cc nL ret rm) (d : decode cc pc = .ok (.i2l, 1)) (k : Gd D A0 ev Q X cs sl (pc + 1) L (vJ x.toInt64 :: st)) : Gd D A0 ev Q X cs sl pc L (vI x :: st) := by
  obtain ⟨p, l, e9, R, s, m, args, below, meth, c⟩ := ev
  intro H locs ls hR hA hS hl
  exact lv_i2l B.1 B.2.1 d rfl (k H locs ls hR hA hS hl)
theorem g_lcmp {x y : Int64} (B : Amb D A0 ev own nm cc nL ret rm) (d : decode cc pc = .ok (.lcmp, 1)) (k : Gd D A0 ev Q X cs sl (pc + 1) L (vI (lg_cmp x y) :: st)) : Gd D A0 ev Q X cs sl pc L (vJ y :: vJ x :: st) := by
  obtain ⟨p, l, e9, R, s, m, args, below, meth, c⟩ := ev
  intro H locs ls hR hA hS hl
  exact W.lcmp B.1 B.2.1 d (k H locs ls hR hA hS hl)
theorem g_dup {v : TV} (B : Amb D A0 ev own nm cc nL ret rm) (d : decode cc pc = .ok (.dup, 1)) (hv : tJ v = false) (k : Gd D A0 ev Q X cs sl (pc + 1) L (v :: v :: st)) : Gd D A0 ev Q X cs sl pc L (v :: st) := by
  obtain ⟨p, l, e9, R, s, m, args, below, meth, c⟩ := ev
  intro H locs ls hR hA hS hl
  exact lv_dup B.1 B.2.1 d (by rw [tv_cat, hv]; rfl) (k H locs ls hR hA hS hl)
theorem g_pop {v : TV} (B : Amb D A0 ev own nm cc nL ret rm) (d : decode cc pc = .ok (.pop, 1)) (hv : tJ v = false) (k : Gd D A0 ev Q X cs sl (pc + 1) L (st)) : Gd D A0 ev Q X cs sl pc L (v :: st) := by
  obtain ⟨p, l, e9, R, s, m, args, below, meth, c⟩ := ev
  intro H locs ls hR hA hS hl
  exact lv_pop B.1 B.2.1 d (by rw [tv_cat, hv]; rfl) (k H locs ls hR hA hS hl)
theorem g_dup2 {v w : TV} (B : Amb D A0 ev own nm cc nL ret rm) (d : decode cc pc = .ok (.dup2, 1)) (hv : tJ v = false) (hw : tJ w = false) (k : Gd D A0 ev Q X cs sl (pc + 1) L (v :: w :: v :: w :: st)) : Gd D A0 ev Q X cs sl pc L (v :: w :: st) := by
  obtain ⟨p, l, e9, R, s, m, args, below, meth, c⟩ := ev
  intro H locs ls hR hA hS hl
  exact lv_dup2_11 B.1 B.2.1 d (by rw [tv_cat, hv]; rfl) (by rw [tv_cat, hw]; rfl) (k H locs ls hR hA hS hl)
theorem g_goto {off : Int} {tgt : Nat} (B : Amb D A0 ev own nm cc nL ret rm) (d : decode cc pc = .ok (.goto off, 3)) (ht : (pc : Int) + off = (tgt : Int)) (k : Gd D A0 ev Q X cs sl tgt L (st)) : Gd D A0 ev Q X cs sl pc L (st) := by
  obtain ⟨p, l, e9, R, s, m, args, below, meth, c⟩ := ev
  intro H locs ls hR hA hS hl
  exact lv_goto B.1 B.2.1 d ht (k H locs ls hR hA hS hl)
theorem g_if_eq {x : Int32} {off : Int} {tgt : Nat} (B : Amb D A0 ev own nm cc nL ret rm) (d : decode cc pc = .ok (.ifCond .eq off, 3)) (ht : (pc : Int) + off = (tgt : Int)) (kt : x = 0 → Gd D A0 ev Q X cs sl tgt L st) (kf : ¬ x = 0 → Gd D A0 ev Q X cs sl (pc + 3) L st) : Gd D A0 ev Q X cs sl pc L (vI x :: st) := by
  obtain ⟨p, l, e9, R, s, m, args, below, meth, c⟩ := ev
  intro H locs ls hR hA hS hl
  exact lv_if_eq B.1 B.2.1 d ht (fun c9 => kt c9 H locs ls hR hA hS hl) (fun c9 => kf c9 H locs ls hR hA hS hl)
theorem g_icmp_eq {x y : Int32} {off : Int} {tgt : Nat} (B : Amb D A0 ev own nm cc nL ret rm) (d : decode cc pc = .ok (.if_icmp .eq off, 3)) (ht : (pc : Int) + off = (tgt : Int)) (kt : x = y → Gd D A0 ev Q X cs sl tgt L st) (kf : ¬ x = y → Gd D A0 ev Q X cs sl (pc + 3) L st) : Gd D A0 ev Q X cs sl pc L (vI y :: vI x :: st) := by
  obtain ⟨p, l, e9, R, s, m, args, below, meth, c⟩ := ev
  intro H locs ls hR hA hS hl
  exact lv_icmp_eq B.1 B.2.1 d ht (fun c9 => kt c9 H locs ls hR hA hS hl) (fun c9 => kf c9 H locs ls hR hA hS hl)
theorem g_if_ne {x : Int32} {off : Int} {tgt : Nat} (B : Amb D A0 ev own nm cc nL ret rm) (d : decode cc pc = .ok (.ifCond .ne off, 3)) (ht : (pc : Int) + off = (tgt : Int)) (kt : ¬ x = 0 → Gd D A0 ev Q X cs sl tgt L st) (kf : x = 0 → Gd D A0 ev Q X cs sl (pc + 3) L st) : Gd D A0 ev Q X cs sl pc L (vI x :: st) := by
  obtain ⟨p, l, e9, R, s, m, args, below, meth, c⟩ := ev
  intro H locs ls hR hA hS hl
  exact lv_if_ne B.1 B.2.1 d ht (fun c9 => kt c9 H locs ls hR hA hS hl) (fun c9 => kf c9 H locs ls hR hA hS hl)
theorem g_icmp_ne {x y : Int32} {off : Int} {tgt : Nat} (B : Amb D A0 ev own nm cc nL ret rm) (d : decode cc pc = .ok (.if_icmp .ne off, 3)) (ht : (pc : Int) + off = (tgt : Int)) (kt : ¬ x = y → Gd D A0 ev Q X cs sl tgt L st) (kf : x = y → Gd D A0 ev Q X cs sl (pc + 3) L st) : Gd D A0 ev Q X cs sl pc L (vI y :: vI x :: st) := by
  obtain ⟨p, l, e9, R, s, m, args, below, meth, c⟩ := ev
  intro H locs ls hR hA hS hl
  exact lv_icmp_ne B.1 B.2.1 d ht (fun c9 => kt c9 H locs ls hR hA hS hl) (fun c9 => kf c9 H locs ls hR hA hS hl)
theorem g_if_lt {x : Int32} {off : Int} {tgt : Nat} (B : Amb D A0 ev own nm cc nL ret rm) (d : decode cc pc = .ok (.ifCond .lt off, 3)) (ht : (pc : Int) + off = (tgt : Int)) (kt : x < 0 → Gd D A0 ev Q X cs sl tgt L st) (kf : ¬ x < 0 → Gd D A0 ev Q X cs sl (pc + 3) L st) : Gd D A0 ev Q X cs sl pc L (vI x :: st) := by
  obtain ⟨p, l, e9, R, s, m, args, below, meth, c⟩ := ev
  intro H locs ls hR hA hS hl
  exact lv_if_lt B.1 B.2.1 d ht (fun c9 => kt c9 H locs ls hR hA hS hl) (fun c9 => kf c9 H locs ls hR hA hS hl)
theorem g_icmp_lt {x y : Int32} {off : Int} {tgt : Nat} (B : Amb D A0 ev own nm cc nL ret rm) (d : decode cc pc = .ok (.if_icmp .lt off, 3)) (ht : (pc : Int) + off = (tgt : Int)) (kt : x < y → Gd D A0 ev Q X cs sl tgt L st) (kf : ¬ x < y → Gd D A0 ev Q X cs sl (pc + 3) L st) : Gd D A0 ev Q X cs sl pc L (vI y :: vI x :: st) := by
  obtain ⟨p, l, e9, R, s, m, args, below, meth, c⟩ := ev
  intro H locs ls hR hA hS hl
  exact lv_icmp_lt B.1 B.2.1 d ht (fun c9 => kt c9 H locs ls hR hA hS hl) (fun c9 => kf c9 H locs ls hR hA hS hl)
theorem g_if_ge {x : Int32} {off : Int} {tgt : Nat} (B : Amb D A0 ev own nm cc nL ret rm) (d : decode cc pc = .ok (.ifCond .ge off, 3)) (ht : (pc : Int) + off = (tgt : Int)) (kt : 0 ≤ x → Gd D A0 ev Q X cs sl tgt L st) (kf : ¬ 0 ≤ x → Gd D A0 ev Q X cs sl (pc + 3) L st) : Gd D A0 ev Q X cs sl pc L (vI x :: st) := by
  obtain ⟨p, l, e9, R, s, m, args, below, meth, c⟩ := ev
  intro H locs ls hR hA hS hl
  exact lv_if_ge B.1 B.2.1 d ht (fun c9 => kt c9 H locs ls hR hA hS hl) (fun c9 => kf c9 H locs ls hR hA hS hl)
theorem g_icmp_ge {x y : Int32} {off : Int} {tgt : Nat} (B : Amb D A0 ev own nm cc nL ret rm) (d : decode cc pc = .ok (.if_icmp .ge off, 3)) (ht : (pc : Int) + off = (tgt : Int)) (kt : y ≤ x → Gd D A0 ev Q X cs sl tgt L st) (kf : ¬ y ≤ x → Gd D A0 ev Q X cs sl (pc + 3) L st) : Gd D A0 ev Q X cs sl pc L (vI y :: vI x :: st) := by
  obtain ⟨p, l, e9, R, s, m, args, below, meth, c⟩ := ev
  intro H locs ls hR hA hS hl
  exact lv_icmp_ge B.1 B.2.1 d ht (fun c9 => kt c9 H locs ls hR hA hS hl) (fun c9 => kf c9 H locs ls hR hA hS hl)
theorem g_if_gt {x : Int32} {off : Int} {tgt : Nat} (B : Amb D A0 ev own nm cc nL ret rm) (d : decode cc pc = .ok (.ifCond .gt off, 3)) (ht : (pc : Int) + off = (tgt : Int)) (kt : 0 < x → Gd D A0 ev Q X cs sl tgt L st) (kf : ¬ 0 < x → Gd D A0 ev Q X cs sl (pc + 3) L st) : Gd D A0 ev Q X cs sl pc L (vI x :: st) := by
  obtain ⟨p, l, e9, R, s, m, args, below, meth, c⟩ := ev
  intro H locs ls hR hA hS hl
  exact lv_if_gt B.1 B.2.1 d ht (fun c9 => kt c9 H locs ls hR hA hS hl) (fun c9 => kf c9 H locs ls hR hA hS hl)
theorem g_icmp_gt {x y : Int32} {off : Int} {tgt : Nat} (B : Amb D A0 ev own nm cc nL ret rm) (d : decode cc pc = .ok (.if_icmp .gt off, 3)) (ht : (pc : Int) + off = (tgt : Int)) (kt : y < x → Gd D A0 ev Q X cs sl tgt L st) (kf : ¬ y < x → Gd D A0 ev Q X cs sl (pc + 3) L st) : Gd D A0 ev Q X cs sl pc L (vI y :: vI x :: st) := by
  obtain ⟨p, l, e9, R, s, m, args, below, meth, c⟩ := ev
  intro H locs ls hR hA hS hl
  exact lv_icmp_gt B.1 B.2.1 d ht (fun c9 => kt c9 H locs ls hR hA hS hl) (fun c9 => kf c9 H locs ls hR hA hS hl)
theorem g_if_le {x : Int32} {off : Int} {tgt : Nat} (B : Amb D A0 ev own nm cc nL ret rm) (d : decode cc pc = .ok (.ifCond .le off, 3)) (ht : (pc : Int) + off = (tgt : Int)) (kt : x ≤ 0 → Gd D A0 ev Q X cs sl tgt L st) (kf : ¬ x ≤ 0 → Gd D A0 ev Q X cs sl (pc + 3) L st) : Gd D A0 ev Q X cs sl pc L (vI x :: st) := by
  obtain ⟨p, l, e9, R, s, m, args, below, meth, c⟩ := ev
  intro H locs ls hR hA hS hl
  exact lv_if_le B.1 B.2.1 d ht (fun c9 => kt c9 H locs ls hR hA hS hl) (fun c9 => kf c9 H locs ls hR hA hS hl)
theorem g_icmp_le {x y : Int32} {off : Int} {tgt : Nat} (B : Amb D A0 ev own nm cc nL ret rm) (d : decode cc pc = .ok (.if_icmp .le off, 3)) (ht : (pc : Int) + off = (tgt : Int)) (kt : x ≤ y → Gd D A0 ev Q X cs sl tgt L st) (kf : ¬ x ≤ y → Gd D A0 ev Q X cs sl (pc + 3) L st) : Gd D A0 ev Q X cs sl pc L (vI y :: vI x :: st) := by
  obtain ⟨p, l, e9, R, s, m, args, below, meth, c⟩ := ev
  intro H locs ls hR hA hS hl
  exact lv_icmp_le B.1 B.2.1 d ht (fun c9 => kt c9 H locs ls hR hA hS hl) (fun c9 => kf c9 H locs ls hR hA hS hl)
theorem g_acmp_ne {rx ry : Option Nat} {off : Int} {tgt : Nat} (B : Amb D A0 ev own nm cc nL ret rm) (d : decode cc pc = .ok (.if_acmp .ne off, 3)) (ht : (pc : Int) + off = (tgt : Int)) (kt : ¬ rx = ry → Gd D A0 ev Q X cs sl tgt L st) (kf : rx = ry → Gd D A0 ev Q X cs sl (pc + 3) L st) : Gd D A0 ev Q X cs sl pc L (vA ry :: vA rx :: st) := by
  obtain ⟨p, l, e9, R, s, m, args, below, meth, c⟩ := ev
  intro H locs ls hR hA hS hl
  exact lv_acmp_ne B.1 B.2.1 d ht (fun c9 => kt c9 H locs ls hR hA hS hl) (fun c9 => kf c9 H locs ls hR hA hS hl)
theorem g_acmp_eq {rx ry : Option Nat} {off : Int} {tgt : Nat} (B : Amb D A0 ev own nm cc nL ret rm) (d : decode cc pc = .ok (.if_acmp .eq off, 3)) (ht : (pc : Int) + off = (tgt : Int)) (kt : rx = ry → Gd D A0 ev Q X cs sl tgt L st) (kf : ¬ rx = ry → Gd D A0 ev Q X cs sl (pc + 3) L st) : Gd D A0 ev Q X cs sl pc L (vA ry :: vA rx :: st) := by
  obtain ⟨p, l, e9, R, s, m, args, below, meth, c⟩ := ev
  intro H locs ls hR hA hS hl
  exact lv_acmp_eq B.1 B.2.1 d ht (fun c9 => kt c9 H locs ls hR hA hS hl) (fun c9 => kf c9 H locs ls hR hA hS hl)
theorem g_ifnull {r : Option Nat} {off : Int} {tgt : Nat} (B : Amb D A0 ev own nm cc nL ret rm) (d : decode cc pc = .ok (.ifnull off, 3)) (ht : (pc : Int) + off = (tgt : Int)) (kt : r = none → Gd D A0 ev Q X cs sl tgt L st) (kf : ¬ r = none → Gd D A0 ev Q X cs sl (pc + 3) L st) : Gd D A0 ev Q X cs sl pc L (vA r :: st) := by
  obtain ⟨p, l, e9, R, s, m, args, below, meth, c⟩ := ev
  intro H locs ls hR hA hS hl
  cases r with
  | none => exact lv_ifnullN B.1 B.2.1 d ht (kt rfl H locs ls hR hA hS hl)
  | some a => exact lv_ifnull B.1 B.2.1 d (kf (fun z => nomatch z) H locs ls hR hA hS hl)
theorem g_ifnonnull {r : Option Nat} {off : Int} {tgt : Nat} (B : Amb D A0 ev own nm cc nL ret rm) (d : decode cc pc = .ok (.ifnonnull off, 3)) (ht : (pc : Int) + off = (tgt : Int)) (kt : ¬ r = none → Gd D A0 ev Q X cs sl tgt L st) (kf : r = none → Gd D A0 ev Q X cs sl (pc + 3) L st) : Gd D A0 ev Q X cs sl pc L (vA r :: st) := by
  obtain ⟨p, l, e9, R, s, m, args, below, meth, c⟩ := ev
  intro H locs ls hR hA hS hl
  cases r with
  | none => exact lv_ifnonnullN B.1 B.2.1 d (kf rfl H locs ls hR hA hS hl)
  | some a => exact lv_ifnonnull B.1 B.2.1 d ht (kt (fun z => nomatch z) H locs ls hR hA hS hl)
theorem g_tableIn {dflt lo hi : Int} {offs : Array Int} {len : Nat} {x : Int32} {off : Int} {tgt : Nat} (B : Amb D A0 ev own nm cc nL ret rm) (d : decode cc pc = .ok (.tableswitch dflt lo hi offs, len)) (h1 : ¬ x.toInt < lo) (h2 : ¬ hi < x.toInt) (ho : offs[(x.toInt - lo).toNat]? = some off) (ht : (pc : Int) + off = (tgt : Int)) (k : Gd D A0 ev Q X cs sl tgt L (st)) : Gd D A0 ev Q X cs sl pc L (vI x :: st) := by
  obtain ⟨p, l, e9, R, s, m, args, below, meth, c⟩ := ev
  intro H locs ls hR hA hS hl
  exact lv_tableIn B.1 B.2.1 d h1 h2 ho ht (k H locs ls hR hA hS hl)
theorem g_tableOut {dflt lo hi : Int} {offs : Array Int} {len : Nat} {x : Int32} {tgt : Nat} (B : Amb D A0 ev own nm cc nL ret rm) (d : decode cc pc = .ok (.tableswitch dflt lo hi offs, len)) (h : x.toInt < lo ∨ hi < x.toInt) (ht : (pc : Int) + dflt = (tgt : Int)) (k : Gd D A0 ev Q X cs sl tgt L (st)) : Gd D A0 ev Q X cs sl pc L (vI x :: st) := by
  obtain ⟨p, l, e9, R, s, m, args, below, meth, c⟩ := ev
  intro H locs ls hR hA hS hl
  exact lv_tableOut B.1 B.2.1 d h ht (k H locs ls hR hA hS hl)
theorem g_ldc {index : Nat} {v : Int32} (B : Amb D A0 ev own nm cc nL ret rm) (hc : Cond.constant own index v ∈ gd) (d : decode cc pc = .ok (.ldc index, 2)) (k : Gd D A0 ev Q X cs sl (pc + 2) L (vI v :: st)) : Gd D A0 ev Q X cs sl pc L (st) := by
  obtain ⟨p, l, e9, R, s, m, args, below, meth, c⟩ := ev
  intro H locs ls hR hA hS hl
  exact lv_ldc B.1 B.2.1 B.2.2.2.1 (B.2.2.2.2.1.w hc) d (k H locs ls hR hA hS hl)
end GR
end
section
/-! FIELDS, ARRAYS, NEW CELLS over the typed memory -/
abbrev clC (c : Nat) : String := (vwCl.getD c (RX12, TX12, 49)).1
abbrev clT (c : Nat) : u_T := (vwCl.getD c (RX12, TX12, 49)).2.1
theorem m13 {P : Nat → Prop} (h0 : P 0) (h1 : P 1) (h2 : P 2) (h3 : P 3) (h4 : P 4) (h5 : P 5) (h6 : P 6) (h7 : P 7) (h8 : P 8) (h9 : P 9) (h10 : P 10) (h11 : P 11) (h12 : P 12) : ∀ c, c < 13 → P c := by
  intro c hc
  match c, hc with
  | 0, _ => exact h0
  | 1, _ => exact h1
  | 2, _ => exact h2
  | 3, _ => exact h3
  | 4, _ => exact h4
  | 5, _ => exact h5
  | 6, _ => exact h6
  | 7, _ => exact h7
  | 8, _ => exact h8
  | 9, _ => exact h9
  | 10, _ => exact h10
  | 11, _ => exact h11
  | 12, _ => exact h12
def ClsOK (c : Nat) : Prop := vwCl[c]? = some (clC c, clT c, fN c) ∧ (∀ w ∈ u_ws (clC c) (clT c) (fN c), w ∈ gd) ∧ (∀ a, a < fN c → ∀ b, b < fN c → a ≠ b → (clT c a).2.1 ≠ (clT c b).2.1) ∧ (∀ k, k < fN c → parseFieldDescriptor (clT c k).2.2.1 = some (tyOf c k)) ∧ fN c < 100
set_option maxRecDepth 20000 in
theorem clsIn0 : ∀ w ∈ u_ws (clC 0) (clT 0) (fN 0), w ∈ gd := by decide +kernel
theorem clsOK0 : ClsOK 0 := ⟨rfl, clsIn0, nmX0, tyX0_ok, by decide⟩
set_option maxRecDepth 20000 in
theorem clsIn1 : ∀ w ∈ u_ws (clC 1) (clT 1) (fN 1), w ∈ gd := by decide +kernel
theorem clsOK1 : ClsOK 1 := ⟨rfl, clsIn1, nmX1, tyX1_ok, by decide⟩
set_option maxRecDepth 20000 in
theorem clsIn2 : ∀ w ∈ u_ws (clC 2) (clT 2) (fN 2), w ∈ gd := by decide +kernel
theorem clsOK2 : ClsOK 2 := ⟨rfl, clsIn2, nmX2, tyX2_ok, by decide⟩
set_option maxRecDepth 20000 in
theorem clsIn3 : ∀ w ∈ u_ws (clC 3) (clT 3) (fN 3), w ∈ gd := by decide +kernel
theorem clsOK3 : ClsOK 3 := ⟨rfl, clsIn3, nmX3, tyX3_ok, by decide⟩
set_option maxRecDepth 20000 in
theorem clsIn4 : ∀ w ∈ u_ws (clC 4) (clT 4) (fN 4), w ∈ gd := by decide +kernel
theorem clsOK4 : ClsOK 4 := ⟨rfl, clsIn4, nmX4, tyX4_ok, by decide⟩
set_option maxRecDepth 20000 in
theorem clsIn5 : ∀ w ∈ u_ws (clC 5) (clT 5) (fN 5), w ∈ gd := by decide +kernel
theorem clsOK5 : ClsOK 5 := ⟨rfl, clsIn5, nmX5, tyX5_ok, by decide⟩
set_option maxRecDepth 20000 in
theorem clsIn6 : ∀ w ∈ u_ws (clC 6) (clT 6) (fN 6), w ∈ gd := by decide +kernel
theorem clsOK6 : ClsOK 6 := ⟨rfl, clsIn6, nmX6, tyX6_ok, by decide⟩
set_option maxRecDepth 20000 in
theorem clsIn7 : ∀ w ∈ u_ws (clC 7) (clT 7) (fN 7), w ∈ gd := by decide +kernel
theorem clsOK7 : ClsOK 7 := ⟨rfl, clsIn7, nmX7, tyX7_ok, by decide⟩
set_option maxRecDepth 20000 in
theorem clsIn8 : ∀ w ∈ u_ws (clC 8) (clT 8) (fN 8), w ∈ gd := by decide +kernel
theorem clsOK8 : ClsOK 8 := ⟨rfl, clsIn8, nmX8, tyX8_ok, by decide⟩
set_option maxRecDepth 20000 in
theorem clsIn9 : ∀ w ∈ u_ws (clC 9) (clT 9) (fN 9), w ∈ gd := by decide +kernel
theorem clsOK9 : ClsOK 9 := ⟨rfl, clsIn9, nmX9, tyX9_ok, by decide⟩
set_option maxRecDepth 20000 in
theorem clsIn10 : ∀ w ∈ u_ws (clC 10) (clT 10) (fN 10), w ∈ gd := by decide +kernel
theorem clsOK10 : ClsOK 10 := ⟨rfl, clsIn10, nmX10, tyX10_ok, by decide⟩
set_option maxRecDepth 20000 in
theorem clsIn11 : ∀ w ∈ u_ws (clC 11) (clT 11) (fN 11), w ∈ gd := by decide +kernel
theorem clsOK11 : ClsOK 11 := ⟨rfl, clsIn11, nmX11, tyX11_ok, by decide⟩
set_option maxRecDepth 20000 in
theorem clsIn12 : ∀ w ∈ u_ws (clC 12) (clT 12) (fN 12), w ∈ gd := by decide +kernel
theorem clsOK12 : ClsOK 12 := ⟨rfl, clsIn12, nmX12, tyX12_ok, by decide⟩
theorem clsOK : ∀ c, c < 13 → ClsOK c := m13 clsOK0 clsOK1 clsOK2 clsOK3 clsOK4 clsOK5 clsOK6 clsOK7 clsOK8 clsOK9 clsOK10 clsOK11 clsOK12
def tyK : FieldType → Bool
  | .int => true
  | .boolean => true
  | .array _ => true
  | .object _ => true
  | _ => false
theorem tyOf_k : ∀ c, c < 13 → ∀ k, k < fN c → tyK (tyOf c k) = true := m13 (by decide) (by decide) (by decide) (by decide) (by decide) (by decide) (by decide) (by decide) (by decide) (by decide) (by decide) (by decide) (by decide +kernel)
theorem tyOf_ok : ∀ c, c < 13 → ∀ k, k < fN c → (tyOf c k = .int ∨ tyOf c k = .boolean ∨ (∃ t, tyOf c k = .array t) ∨ ∃ t, tyOf c k = .object t) := by
  intro c hc k hk
  have h := tyOf_k c hc k hk
  cases e : tyOf c k <;> rw [e] at h <;> first | exact Or.inl rfl | exact Or.inr (Or.inl rfl) | exact Or.inr (Or.inr (Or.inl ⟨_, rfl⟩)) | exact Or.inr (Or.inr (Or.inr ⟨_, rfl⟩)) | exact absurd h (by decide)
theorem fs_len {X : Mem} {c a : Nat} : (fsOf X c a).length = fN c := by simp [fsOf]
theorem fs_at {X : Mem} {c a k : Nat} (hk : k < fN c) : (fsOf X c a)[k]? = some (if fR c k then va_rf (mR X (100 * c + k) a) else .int (mI X (100 * c + k) a)) := by
  simp [fsOf, hk]
theorem up2_ne {α : Type} {f : Nat → Nat → α} {k a j b : Nat} {v : α} (h : b ≠ a) : up2 f k a v j b = f j b := by simp [up2, h]
theorem up2_nk {α : Type} {f : Nat → Nat → α} {k a j b : Nat} {v : α} (h : j ≠ k) : up2 f k a v j b = f j b := by simp [up2, h]
theorem up2_eq {α : Type} {f : Nat → Nat → α} {k a : Nat} {v : α} : up2 f k a v k a = v := by simp [up2]
theorem fs_wI_ne {X : Mem} {f a b c : Nat} {v : Int32} (h : b ≠ a) : fsOf (wI X f a v) c b = fsOf X c b := by
  unfold fsOf
  refine List.map_congr_left fun k _ => ?_
  show (if fR c k then va_rf (mR X _ b) else .int (up2 (mI X) f a v _ b)) = _
  rw [up2_ne h]
theorem fs_wR_ne {X : Mem} {f a b c : Nat} {v : Option Nat} (h : b ≠ a) : fsOf (wR X f a v) c b = fsOf X c b := by
  unfold fsOf
  refine List.map_congr_left fun k _ => ?_
  show (if fR c k then va_rf (up2 (mR X) f a v _ b) else .int (mI X _ b)) = _
  rw [up2_ne h]
theorem fs_wI_eq {X : Mem} {a c k : Nat} {v : Int32} (hr : fR c k = false) : fsOf (wI X (100 * c + k) a v) c a = (fsOf X c a).set k (.int v) := by
  refine List.ext_getElem? fun j => ?_
  rw [List.getElem?_set]
  by_cases hj : j < fN c
  · rw [fs_at hj]
    by_cases e : k = j
    · subst e
      rw [if_pos rfl, if_pos (show k < (fsOf X c a).length by rw [fs_len]; exact hj), hr]
      show some (Value.int (up2 (mI X) _ a v _ a)) = _
      rw [up2_eq]
    · rw [if_neg e, fs_at hj]
      show some (if fR c j then va_rf (mR X _ a) else Value.int (up2 (mI X) _ a v _ a)) = _
      rw [up2_nk (by omega)]
  · have h1 : (fsOf (wI X (100 * c + k) a v) c a)[j]? = none := List.getElem?_eq_none (by rw [fs_len]; omega)
    have h2 : (fsOf X c a)[j]? = none := List.getElem?_eq_none (by rw [fs_len]; omega)
    rw [h1, h2]
    by_cases e : k = j
    · rw [if_pos e, if_neg (by rw [fs_len]; omega)]
    · rw [if_neg e]
theorem fs_wR_eq {X : Mem} {a c k : Nat} {v : Option Nat} (hr : fR c k = true) : fsOf (wR X (100 * c + k) a v) c a = (fsOf X c a).set k (va_rf v) := by
  refine List.ext_getElem? fun j => ?_
  rw [List.getElem?_set]
  by_cases hj : j < fN c
  · rw [fs_at hj]
    by_cases e : k = j
    · subst e
      rw [if_pos rfl, if_pos (show k < (fsOf X c a).length by rw [fs_len]; exact hj), hr]
      show some (va_rf (up2 (mR X) _ a v _ a)) = _
      rw [up2_eq]
    · rw [if_neg e, fs_at hj]
      show some (if fR c j then va_rf (up2 (mR X) _ a v _ a) else Value.int (mI X _ a)) = _
      rw [up2_nk (by omega)]
  · have h1 : (fsOf (wR X (100 * c + k) a v) c a)[j]? = none := List.getElem?_eq_none (by rw [fs_len]; omega)
    have h2 : (fsOf X c a)[j]? = none := List.getElem?_eq_none (by rw [fs_len]; omega)
    rw [h1, h2]
    by_cases e : k = j
    · rw [if_pos e, if_neg (by rw [fs_len]; omega)]
    · rw [if_neg e]
theorem RepM.objAt {D : DD} {X : Mem} {H : Heap} (h : RepM D X H) {a c n : Nat} (hk : mK X a = some (c, n)) (hc : c < 13) : va_at (D.1, D.2.1) vwCl (a, .inr (c, fsOf X c a)) H := by
  have h1 := (h.1 a c n hk).2
  unfold cellOf at h1
  rw [if_pos hc] at h1
  exact h1
theorem RepM.arrI {D : DD} {X : Mem} {H : Heap} (h : RepM D X H) {a t n : Nat} (hk : mK X a = some (20 + t, n)) (ht : t < 2) : H[a]? = some (vp_cell (D.2.2 t) (n, .inl (aI X a))) := by
  have h1 := (h.1 a _ n hk).2
  unfold cellOf at h1
  rw [if_neg (by omega), if_pos (by omega), show 20 + t - 20 = t by omega] at h1
  exact h1
theorem RepM.arrJ {D : DD} {X : Mem} {H : Heap} (h : RepM D X H) {a n : Nat} (hk : mK X a = some (22, n)) : H[a]? = some (vp_cell (D.2.2 2) (n, .inr (.inl (aJ X a)))) := (h.1 a _ n hk).2
theorem RepM.arrR {D : DD} {X : Mem} {H : Heap} (h : RepM D X H) {a t n : Nat} (hk : mK X a = some (20 + t, n)) (h3 : 3 ≤ t) : H[a]? = some (vp_cell (D.2.2 t) (n, .inr (.inr (.inr (.inr (aR X a)))))) := by
  have h1 := (h.1 a _ n hk).2
  unfold cellOf at h1
  rw [if_neg (by omega), if_neg (by omega), if_neg (by omega), show 20 + t - 20 = t by omega] at h1
  exact h1
/-- what is not at a has not moved, at a is the new cell -/
theorem RepM.moved {D : DD} {X X' : Mem} {H H1 : Heap} (h : RepM D X H) {a : Nat} (hk : mK X' = mK X) (hz : mZ X' = mZ X) (hne : ∀ b c n, b ≠ a → cellOf D X' b c n = cellOf D X b c n) (hat : ∀ c n, mK X a = some (c, n) → va_at (D.1, D.2.1) vwCl (a, cellOf D X' a c n) H1) (z : H1.size = H.size) (oq : ∀ q, q ≠ a → H1[q]? = H[q]?) : RepM D X' H1 := by
  refine ⟨fun b c n hb => ?_, by rw [hz, z]; exact h.2⟩
  rw [hk] at hb
  refine ⟨(h.1 b c n hb).1, ?_⟩
  by_cases e : b = a
  · subst e
    exact hat c n hb
  · rw [hne b c n e]
    exact (h.1 b c n hb).2.kept (oq b e)
theorem P1 {D : va_G} {q : Nat × va_E} {H : Heap} (h : va_at D vwCl q H) : va_P D vwCl [q] H := by
  intro k x hx
  match k, hx with
  | 0, hx => cases hx; exact h
  | k + 1, hx => simp at hx
theorem AK.ty {D : DD} {s : State} (h : AK D s) (t : Nat) (ht : t < 7) : ArrOfT s (D.2.2 t) (arT t) ∧ va_RA s (D.2.2 t) (arT t) := h.1.2 t (D.2.2 t, arT t) (by simp [tysOf, ht])
theorem tys_at {D : DD} {t : Nat} (ht : t < 7) : (tysOf D)[t]? = some (D.2.2 t, arT t) := by simp [tysOf, ht]
section GH
variable {D : DD} {A0 : Nat → Prop} {ev : EV} {Q : State → Prop} {X : Mem} {cs sl pc : Nat} {L : List (Nat × TV)} {st : List TV} {own nm : String} {cc : ByteArray} {nL : Nat} {ret : Option FieldType} {rm : Room}
theorem g_getI (c k : Nat) {a n index : Nat} (B : Amb D A0 ev own nm cc nL ret rm) (hk : mK X a = some (c, n)) (hc : c < 13) (hf : k < fN c) (hr : fR c k = false) (lk : Cond.fieldLink own index (clT c k).1 (clT c k).2.1 (clT c k).2.2.1 ∈ gd) (d : decode cc pc = .ok (.getfield index, 3)) (k9 : Gd D A0 ev Q X cs sl (pc + 3) L (vI (mI X (100 * c + k) a) :: st)) : Gd D A0 ev Q X cs sl pc L (vA (some a) :: st) := by
  obtain ⟨p, l, e9, R, s, m, args, below, meth, c9⟩ := ev
  intro H locs ls hR hA hS hl
  obtain ⟨o1, o2, o3, o4, o5⟩ := clsOK c hc
  exact va_get (ws := [(a, .inr (c, fsOf X c a))]) (Ts := gd) (a := a) B.1 B.2.1 (fun w hw => B.2.2.2.2.1.w hw) o2 B.2.2.2.1 B.2.2.2.2.1.1 (P1 (hR.objAt hk hc)) 0 rfl o1 k hf (B.2.2.2.2.1.w lk) (fun x hx => hx) (by rw [fs_at hf, hr]; rfl) d (k9 H locs ls hR hA hS hl)
theorem g_getR (c k : Nat) {a n index : Nat} (B : Amb D A0 ev own nm cc nL ret rm) (hk : mK X a = some (c, n)) (hc : c < 13) (hf : k < fN c) (hr : fR c k = true) (lk : Cond.fieldLink own index (clT c k).1 (clT c k).2.1 (clT c k).2.2.1 ∈ gd) (d : decode cc pc = .ok (.getfield index, 3)) (k9 : Gd D A0 ev Q X cs sl (pc + 3) L (vA (mR X (100 * c + k) a) :: st)) : Gd D A0 ev Q X cs sl pc L (vA (some a) :: st) := by
  obtain ⟨p, l, e9, R, s, m, args, below, meth, c9⟩ := ev
  intro H locs ls hR hA hS hl
  obtain ⟨o1, o2, o3, o4, o5⟩ := clsOK c hc
  exact va_get (ws := [(a, .inr (c, fsOf X c a))]) (Ts := gd) (a := a) B.1 B.2.1 (fun w hw => B.2.2.2.2.1.w hw) o2 B.2.2.2.1 B.2.2.2.2.1.1 (P1 (hR.objAt hk hc)) 0 rfl o1 k hf (B.2.2.2.2.1.w lk) (fun x hx => hx) (by rw [fs_at hf, hr]; rfl) d (k9 H locs ls hR hA hS hl)
theorem g_getIN (c k : Nat) {a n index : Nat} {host : String} (B : Amb D A0 ev own nm cc nL ret rm) (hk : mK X a = some (c, n)) (hc : c < 13) (hf : k < fN c) (hr : fR c k = false) (lk : Cond.fieldLinkNest own index (clT c k).1 (clT c k).2.1 (clT c k).2.2.1 host ∈ nestW) (d : decode cc pc = .ok (.getfield index, 3)) (k9 : Gd D A0 ev Q X cs sl (pc + 3) L (vI (mI X (100 * c + k) a) :: st)) : Gd D A0 ev Q X cs sl pc L (vA (some a) :: st) := by
  obtain ⟨p, l, e9, R, s, m, args, below, meth, c9⟩ := ev
  intro H locs ls hR hA hS hl
  obtain ⟨o1, o2, o3, o4, o5⟩ := clsOK c hc
  exact va_getN (ws := [(a, .inr (c, fsOf X c a))]) (Ts := gd) (a := a) B.1 B.2.1 (fun w hw => B.2.2.2.2.1.w hw) o2 B.2.2.2.1 B.2.2.2.2.1.1 (P1 (hR.objAt hk hc)) 0 rfl o1 k hf (va_Nw.use rfl (B.2.2.2.2.1.2.2.1 _ lk)) (fun x hx => hx) (by rw [fs_at hf, hr]; rfl) d (k9 H locs ls hR hA hS hl)
theorem g_getRN (c k : Nat) {a n index : Nat} {host : String} (B : Amb D A0 ev own nm cc nL ret rm) (hk : mK X a = some (c, n)) (hc : c < 13) (hf : k < fN c) (hr : fR c k = true) (lk : Cond.fieldLinkNest own index (clT c k).1 (clT c k).2.1 (clT c k).2.2.1 host ∈ nestW) (d : decode cc pc = .ok (.getfield index, 3)) (k9 : Gd D A0 ev Q X cs sl (pc + 3) L (vA (mR X (100 * c + k) a) :: st)) : Gd D A0 ev Q X cs sl pc L (vA (some a) :: st) := by
  obtain ⟨p, l, e9, R, s, m, args, below, meth, c9⟩ := ev
  intro H locs ls hR hA hS hl
  obtain ⟨o1, o2, o3, o4, o5⟩ := clsOK c hc
  exact va_getN (ws := [(a, .inr (c, fsOf X c a))]) (Ts := gd) (a := a) B.1 B.2.1 (fun w hw => B.2.2.2.2.1.w hw) o2 B.2.2.2.1 B.2.2.2.2.1.1 (P1 (hR.objAt hk hc)) 0 rfl o1 k hf (va_Nw.use rfl (B.2.2.2.2.1.2.2.1 _ lk)) (fun x hx => hx) (by rw [fs_at hf, hr]; rfl) d (k9 H locs ls hR hA hS hl)
theorem W_put {p : Program} {l : Launch} {e : Env} {R : Room} {s : State} {m : MethodId} {args : Array Value} {below : List Frame} {meth : Method} {c9 : Code} {H : Heap} {locs : List Loc} {ls : Array Slot} {rest : List Value} (hexec : p.tables.exec = Jvm.exec) (hb : c9.code = cc) (hown : s.vm.findClass own = some m.cls) (hAK : AK D s) {a c k index : Nat} {fs : List Value} {v : Value} (hc : c < 13) (hf : k < fN c) (hlen : fs.length = fN c) (hat : va_at (D.1, D.2.1) vwCl (a, .inr (c, fs)) H) (hlink : (Cond.fieldLink own index (clT c k).1 (clT c k).2.1 (clT c k).2.2.1).before args s = true) (hfin : (clT c k).2.2.2 = false) (hn : narrow (tyOf c k) v = v) (hfit : fits (tyOf c k) v = true) (hdg : decode cc pc = .ok (.putfield index, 3))
    (kk : ∀ (H1 : Heap) (sl9 : Nat), va_at (D.1, D.2.1) vwCl (a, .inr (c, fs.set k v)) H1 → H1.size = H.size → (∀ q, q ≠ a → H1[q]? = H[q]?) → W p l e R s m args below meth c9 H1 (locs ++ [⟨a, sl9⟩]) cs sl Q (F0 m (pc + 3) ls rest)) : W p l e R s m args below meth c9 H locs cs sl Q (F0 m pc ls (v :: .ref a :: rest)) := by
  obtain ⟨o1, o2, o3, o4, o5⟩ := clsOK c hc
  have hd := o4 k hf
  have hts : ∀ w ∈ gd, w.before args s = true := fun w hw => hAK.w hw
  have hK := hAK.1
  have hap := va_apart (own := own) hts o2 (tyOf c) o4 o3 hK o1
  obtain ⟨r, h1, cell, q1, q2, q3, q4⟩ := hat
  have hr : r = (clC c, clT c, fN c) := Option.some.inj (h1.symm.trans o1)
  subst hr
  obtain ⟨hS, hfc, kC, hkC, hkind⟩ := hK.1 c _ o1
  obtain ⟨cf, kf, fi, f, hi, hsl⟩ := hS k hf
  have hlay := (hAK.2.1 _ (o2 _ (u_in_lay hf))) args
  unfold u_lay at hlay
  rw [if_neg (by rw [hfin]; decide)] at hlay
  have hst := (u_facts hfc hkC (u_lays hts o2 hf) hi).1
  have h6 := u_store hfc hkC hkind hlay hi hd hn hfit
  refine W.putK hexec hb (f := f) ⟨hown, hlink, ⟨_, _, _, hi⟩, hst⟩ (by rw [q2]; exact h6) q1 q3 (by rw [hsl]; exact k2_hasslot (q4 k hf)) rfl rfl hdg fun H' e1 e2 e3 => ?_
  rw [hsl] at e1 ⊢
  exact kk H' _ ⟨_, o1, t_OB.to (V := updV (vp_V fs) k v) ⟨_, e1, q2, q3, t_set q4 hap hf v⟩ (fun j _ => vp_updV_set (by rw [hlen]; exact hf) v j)⟩ e2 e3
theorem W_putN {p : Program} {l : Launch} {e : Env} {R : Room} {s : State} {m : MethodId} {args : Array Value} {below : List Frame} {meth : Method} {c9 : Code} {H : Heap} {locs : List Loc} {ls : Array Slot} {rest : List Value} (hexec : p.tables.exec = Jvm.exec) (hb : c9.code = cc) (hown : s.vm.findClass own = some m.cls) (hAK : AK D s) {a c k index : Nat} {host : String} {fs : List Value} {v : Value} (hc : c < 13) (hf : k < fN c) (hlen : fs.length = fN c) (hat : va_at (D.1, D.2.1) vwCl (a, .inr (c, fs)) H) (hlink : (Cond.fieldLinkNest own index (clT c k).1 (clT c k).2.1 (clT c k).2.2.1 host).before args s = true) (hfin : (clT c k).2.2.2 = false) (hn : narrow (tyOf c k) v = v) (hfit : fits (tyOf c k) v = true) (hdg : decode cc pc = .ok (.putfield index, 3))
    (kk : ∀ (H1 : Heap) (sl9 : Nat), va_at (D.1, D.2.1) vwCl (a, .inr (c, fs.set k v)) H1 → H1.size = H.size → (∀ q, q ≠ a → H1[q]? = H[q]?) → W p l e R s m args below meth c9 H1 (locs ++ [⟨a, sl9⟩]) cs sl Q (F0 m (pc + 3) ls rest)) : W p l e R s m args below meth c9 H locs cs sl Q (F0 m pc ls (v :: .ref a :: rest)) := by
  obtain ⟨o1, o2, o3, o4, o5⟩ := clsOK c hc
  have hd := o4 k hf
  have hts : ∀ w ∈ gd, w.before args s = true := fun w hw => hAK.w hw
  have hK := hAK.1
  have hap := va_apart (own := own) hts o2 (tyOf c) o4 o3 hK o1
  obtain ⟨r, h1, cell, q1, q2, q3, q4⟩ := hat
  have hr : r = (clC c, clT c, fN c) := Option.some.inj (h1.symm.trans o1)
  subst hr
  obtain ⟨hS, hfc, kC, hkC, hkind⟩ := hK.1 c _ o1
  obtain ⟨cf, kf, fi, f, hi, hsl⟩ := hS k hf
  have hlay := (hAK.2.1 _ (o2 _ (u_in_lay hf))) args
  unfold u_lay at hlay
  rw [if_neg (by rw [hfin]; decide)] at hlay
  have hst := (u_facts hfc hkC (u_lays hts o2 hf) hi).1
  have h6 := u_store hfc hkC hkind hlay hi hd hn hfit
  refine va_WputK hexec hb (f := f) hown hlink hi hst (by rw [q2]; exact h6) q1 q3 (by rw [hsl]; exact k2_hasslot (q4 k hf)) rfl rfl hdg fun H' e1 e2 e3 => ?_
  rw [hsl] at e1 ⊢
  exact kk H' _ ⟨_, o1, t_OB.to (V := updV (vp_V fs) k v) ⟨_, e1, q2, q3, t_set q4 hap hf v⟩ (fun j _ => vp_updV_set (by rw [hlen]; exact hf) v j)⟩ e2 e3
theorem W_putF {p : Program} {l : Launch} {e : Env} {R : Room} {s : State} {m : MethodId} {args : Array Value} {below : List Frame} {meth : Method} {c9 : Code} {H : Heap} {locs : List Loc} {ls : Array Slot} {rest : List Value} (hexec : p.tables.exec = Jvm.exec) (hb : c9.code = cc) (hown : s.vm.findClass own = some m.cls) (hAK : AK D s) {a c k index : Nat} {fs : List Value} {v : Value} (hc : c < 13) (hf : k < fN c) (hlen : fs.length = fN c) (hat : va_at (D.1, D.2.1) vwCl (a, .inr (c, fs)) H) (hlink : (Cond.fieldLink own index (clT c k).1 (clT c k).2.1 (clT c k).2.2.1).before args s = true) (hfin : (clT c k).2.2.2 = true) (hin2 : meth.name = "<init>") (hdecl : (clT c k).1 = own) (hn : narrow (tyOf c k) v = v) (hfit : fits (tyOf c k) v = true) (hdg : decode cc pc = .ok (.putfield index, 3))
    (kk : ∀ (H1 : Heap) (sl9 : Nat), va_at (D.1, D.2.1) vwCl (a, .inr (c, fs.set k v)) H1 → H1.size = H.size → (∀ q, q ≠ a → H1[q]? = H[q]?) → W p l e R s m args below meth c9 H1 (locs ++ [⟨a, sl9⟩]) cs sl Q (F0 m (pc + 3) ls rest)) : W p l e R s m args below meth c9 H locs cs sl Q (F0 m pc ls (v :: .ref a :: rest)) := by
  obtain ⟨o1, o2, o3, o4, o5⟩ := clsOK c hc
  have hd := o4 k hf
  have hts : ∀ w ∈ gd, w.before args s = true := fun w hw => hAK.w hw
  have hK := hAK.1
  have hap := va_apart (own := own) hts o2 (tyOf c) o4 o3 hK o1
  obtain ⟨r, h1, cell, q1, q2, q3, q4⟩ := hat
  have hr : r = (clC c, clT c, fN c) := Option.some.inj (h1.symm.trans o1)
  subst hr
  obtain ⟨hS, hfc, kC, hkC, hkind⟩ := hK.1 c _ o1
  obtain ⟨cf, kf, fi, f, hi, hsl⟩ := hS k hf
  have hlay := (hAK.2.1 _ (o2 _ (u_in_lay hf))) args
  unfold u_lay at hlay
  rw [if_pos hfin] at hlay
  have hst := (u_facts hfc hkC (u_lays hts o2 hf) hi).1
  have hcf : m.cls = cf := by
    obtain ⟨_, _, c', _, _, _, -, -, hf', -, -, -, hown2, -⟩ := Cond.laysFinal_spec hlay
    have e1 : c' = cf := by have := hi.symm.trans hf'; simp at this; exact this.1.symm
    rw [hdecl] at hown2
    rw [← e1]; exact Option.some.inj (hown.symm.trans hown2)
  have h6 := u_fits hfc hkC hkind (Or.inr hlay) hi hd hn hfit
  refine W.putFinK hexec hb hown hlink hi hst hcf hin2 (by rw [q2]; exact h6) q1 q3 (by rw [hsl]; exact k2_hasslot (q4 k hf)) rfl rfl hdg fun H' e1 e2 e3 => ?_
  rw [hsl] at e1 ⊢
  exact kk H' _ ⟨_, o1, t_OB.to (V := updV (vp_V fs) k v) ⟨_, e1, q2, q3, t_set q4 hap hf v⟩ (fun j _ => vp_updV_set (by rw [hlen]; exact hf) v j)⟩ e2 e3
theorem nar_I {x : Int32} : narrow .int (.int x) = .int x ∧ fits .int (.int x) = true := ⟨rfl, rfl⟩
theorem nar_Z {x : Int32} (h : x = 0 ∨ x = 1) : narrow .boolean (.int x) = .int x ∧ fits .boolean (.int x) = true := by
  rcases h with rfl | rfl <;> exact ⟨by decide +kernel, by decide +kernel⟩
theorem nar_R {c k : Nat} {v : Option Nat} (h : fR c k = true) : narrow (tyOf c k) (va_rf v) = va_rf v ∧ fits (tyOf c k) (va_rf v) = true := by
  unfold fR at h
  cases hty : tyOf c k <;> rw [hty] at h <;> first | exact absurd h (by decide) | (cases v <;> exact ⟨rfl, rfl⟩)
theorem cellOf_wI {X : Mem} {f a b c n : Nat} {v : Int32} (h : b ≠ a) : cellOf D (wI X f a v) b c n = cellOf D X b c n := by
  unfold cellOf
  rw [fs_wI_ne h]
  rfl
theorem cellOf_wR {X : Mem} {f a b c n : Nat} {v : Option Nat} (h : b ≠ a) : cellOf D (wR X f a v) b c n = cellOf D X b c n := by
  unfold cellOf
  rw [fs_wR_ne h]
  rfl
theorem A_put {A : Nat → Prop} {H0 H H1 : Heap} {locs : List Loc} {a k : Nat} (h : va_S A H0 H locs) (z : H1.size = H.size) (oq : ∀ q : Nat, q ≠ a → H1[q]? = H[q]?) (ha : A a) : va_S A H0 H1 (locs ++ [⟨a, k⟩]) := h.put z oq ha
theorem g_putI (c k : Nat) {a n index : Nat} {v : Int32} (B : Amb D A0 ev own nm cc nL ret rm) (hk : mK X a = some (c, n)) (hc : c < 13) (hf : k < fN c) (hy : tyOf c k = .int) (hfin : (clT c k).2.2.2 = false) (lk : Cond.fieldLink own index (clT c k).1 (clT c k).2.1 (clT c k).2.2.1 ∈ gd) (d : decode cc pc = .ok (.putfield index, 3)) (k9 : Gd D A0 ev Q (wI X (100 * c + k) a v) cs sl (pc + 3) L st) : Gd D A0 ev Q X cs sl pc L (vI v :: vA (some a) :: st) := by
  obtain ⟨p, l, e9, R, s, m, args, below, meth, c9⟩ := ev
  intro H locs ls hR hA hS hl
  have hrv : fR c k = false := (by unfold fR; rw [hy])
  refine W_put B.1 B.2.1 B.2.2.2.1 B.2.2.2.2.1 hc hf fs_len (hR.objAt hk hc) (B.2.2.2.2.1.w lk) hfin (by rw [hy]; exact nar_I.1) (by rw [hy]; exact nar_I.2) d (fun H1 sl9 e1 z oq => ?_)
  refine k9 H1 _ ls (hR.moved (a := a) rfl rfl (fun b c8 n8 hb => cellOf_wI hb) (fun c8 n8 h8 => ?_) z oq) hA (hS.put z oq (hA a (by rw [hk]; exact fun z9 => nomatch z9))) hl
  rw [hk] at h8
  cases h8
  unfold cellOf
  rw [if_pos hc, fs_wI_eq hrv]
  exact e1
theorem g_putZ (c k : Nat) {a n index : Nat} {v : Int32} (B : Amb D A0 ev own nm cc nL ret rm) (hk : mK X a = some (c, n)) (hc : c < 13) (hf : k < fN c) (hy : tyOf c k = .boolean) (hv : v = 0 ∨ v = 1) (hfin : (clT c k).2.2.2 = false) (lk : Cond.fieldLink own index (clT c k).1 (clT c k).2.1 (clT c k).2.2.1 ∈ gd) (d : decode cc pc = .ok (.putfield index, 3)) (k9 : Gd D A0 ev Q (wI X (100 * c + k) a v) cs sl (pc + 3) L st) : Gd D A0 ev Q X cs sl pc L (vI v :: vA (some a) :: st) := by
  obtain ⟨p, l, e9, R, s, m, args, below, meth, c9⟩ := ev
  intro H locs ls hR hA hS hl
  have hrv : fR c k = false := (by unfold fR; rw [hy])
  refine W_put B.1 B.2.1 B.2.2.2.1 B.2.2.2.2.1 hc hf fs_len (hR.objAt hk hc) (B.2.2.2.2.1.w lk) hfin (by rw [hy]; exact (nar_Z hv).1) (by rw [hy]; exact (nar_Z hv).2) d (fun H1 sl9 e1 z oq => ?_)
  refine k9 H1 _ ls (hR.moved (a := a) rfl rfl (fun b c8 n8 hb => cellOf_wI hb) (fun c8 n8 h8 => ?_) z oq) hA (hS.put z oq (hA a (by rw [hk]; exact fun z9 => nomatch z9))) hl
  rw [hk] at h8
  cases h8
  unfold cellOf
  rw [if_pos hc, fs_wI_eq hrv]
  exact e1
theorem g_putR (c k : Nat) {a n index : Nat} {v : Option Nat} (B : Amb D A0 ev own nm cc nL ret rm) (hk : mK X a = some (c, n)) (hc : c < 13) (hf : k < fN c) (hr : fR c k = true) (hfin : (clT c k).2.2.2 = false) (lk : Cond.fieldLink own index (clT c k).1 (clT c k).2.1 (clT c k).2.2.1 ∈ gd) (d : decode cc pc = .ok (.putfield index, 3)) (k9 : Gd D A0 ev Q (wR X (100 * c + k) a v) cs sl (pc + 3) L st) : Gd D A0 ev Q X cs sl pc L (vA v :: vA (some a) :: st) := by
  obtain ⟨p, l, e9, R, s, m, args, below, meth, c9⟩ := ev
  intro H locs ls hR hA hS hl
  have hrv : fR c k = true := hr
  refine W_put B.1 B.2.1 B.2.2.2.1 B.2.2.2.2.1 hc hf fs_len (hR.objAt hk hc) (B.2.2.2.2.1.w lk) hfin (nar_R hr).1 (nar_R hr).2 d (fun H1 sl9 e1 z oq => ?_)
  refine k9 H1 _ ls (hR.moved (a := a) rfl rfl (fun b c8 n8 hb => cellOf_wR hb) (fun c8 n8 h8 => ?_) z oq) hA (hS.put z oq (hA a (by rw [hk]; exact fun z9 => nomatch z9))) hl
  rw [hk] at h8
  cases h8
  unfold cellOf
  rw [if_pos hc, fs_wR_eq hrv]
  exact e1
theorem g_putIN (c k : Nat) {a n index : Nat} {v : Int32} {host : String} (B : Amb D A0 ev own nm cc nL ret rm) (hk : mK X a = some (c, n)) (hc : c < 13) (hf : k < fN c) (hy : tyOf c k = .int) (hfin : (clT c k).2.2.2 = false) (lk : Cond.fieldLinkNest own index (clT c k).1 (clT c k).2.1 (clT c k).2.2.1 host ∈ nestW) (d : decode cc pc = .ok (.putfield index, 3)) (k9 : Gd D A0 ev Q (wI X (100 * c + k) a v) cs sl (pc + 3) L st) : Gd D A0 ev Q X cs sl pc L (vI v :: vA (some a) :: st) := by
  obtain ⟨p, l, e9, R, s, m, args, below, meth, c9⟩ := ev
  intro H locs ls hR hA hS hl
  have hrv : fR c k = false := (by unfold fR; rw [hy])
  refine W_putN B.1 B.2.1 B.2.2.2.1 B.2.2.2.2.1 hc hf fs_len (hR.objAt hk hc) (va_Nw.use rfl (B.2.2.2.2.1.2.2.1 _ lk)) hfin (by rw [hy]; exact nar_I.1) (by rw [hy]; exact nar_I.2) d (fun H1 sl9 e1 z oq => ?_)
  refine k9 H1 _ ls (hR.moved (a := a) rfl rfl (fun b c8 n8 hb => cellOf_wI hb) (fun c8 n8 h8 => ?_) z oq) hA (hS.put z oq (hA a (by rw [hk]; exact fun z9 => nomatch z9))) hl
  rw [hk] at h8
  cases h8
  unfold cellOf
  rw [if_pos hc, fs_wI_eq hrv]
  exact e1
theorem g_putZN (c k : Nat) {a n index : Nat} {v : Int32} {host : String} (B : Amb D A0 ev own nm cc nL ret rm) (hk : mK X a = some (c, n)) (hc : c < 13) (hf : k < fN c) (hy : tyOf c k = .boolean) (hv : v = 0 ∨ v = 1) (hfin : (clT c k).2.2.2 = false) (lk : Cond.fieldLinkNest own index (clT c k).1 (clT c k).2.1 (clT c k).2.2.1 host ∈ nestW) (d : decode cc pc = .ok (.putfield index, 3)) (k9 : Gd D A0 ev Q (wI X (100 * c + k) a v) cs sl (pc + 3) L st) : Gd D A0 ev Q X cs sl pc L (vI v :: vA (some a) :: st) := by
  obtain ⟨p, l, e9, R, s, m, args, below, meth, c9⟩ := ev
  intro H locs ls hR hA hS hl
  have hrv : fR c k = false := (by unfold fR; rw [hy])
  refine W_putN B.1 B.2.1 B.2.2.2.1 B.2.2.2.2.1 hc hf fs_len (hR.objAt hk hc) (va_Nw.use rfl (B.2.2.2.2.1.2.2.1 _ lk)) hfin (by rw [hy]; exact (nar_Z hv).1) (by rw [hy]; exact (nar_Z hv).2) d (fun H1 sl9 e1 z oq => ?_)
  refine k9 H1 _ ls (hR.moved (a := a) rfl rfl (fun b c8 n8 hb => cellOf_wI hb) (fun c8 n8 h8 => ?_) z oq) hA (hS.put z oq (hA a (by rw [hk]; exact fun z9 => nomatch z9))) hl
  rw [hk] at h8
  cases h8
  unfold cellOf
  rw [if_pos hc, fs_wI_eq hrv]
  exact e1
theorem g_putRN (c k : Nat) {a n index : Nat} {v : Option Nat} {host : String} (B : Amb D A0 ev own nm cc nL ret rm) (hk : mK X a = some (c, n)) (hc : c < 13) (hf : k < fN c) (hr : fR c k = true) (hfin : (clT c k).2.2.2 = false) (lk : Cond.fieldLinkNest own index (clT c k).1 (clT c k).2.1 (clT c k).2.2.1 host ∈ nestW) (d : decode cc pc = .ok (.putfield index, 3)) (k9 : Gd D A0 ev Q (wR X (100 * c + k) a v) cs sl (pc + 3) L st) : Gd D A0 ev Q X cs sl pc L (vA v :: vA (some a) :: st) := by
  obtain ⟨p, l, e9, R, s, m, args, below, meth, c9⟩ := ev
  intro H locs ls hR hA hS hl
  have hrv : fR c k = true := hr
  refine W_putN B.1 B.2.1 B.2.2.2.1 B.2.2.2.2.1 hc hf fs_len (hR.objAt hk hc) (va_Nw.use rfl (B.2.2.2.2.1.2.2.1 _ lk)) hfin (nar_R hr).1 (nar_R hr).2 d (fun H1 sl9 e1 z oq => ?_)
  refine k9 H1 _ ls (hR.moved (a := a) rfl rfl (fun b c8 n8 hb => cellOf_wR hb) (fun c8 n8 h8 => ?_) z oq) hA (hS.put z oq (hA a (by rw [hk]; exact fun z9 => nomatch z9))) hl
  rw [hk] at h8
  cases h8
  unfold cellOf
  rw [if_pos hc, fs_wR_eq hrv]
  exact e1
theorem g_putIF (c k : Nat) {a n index : Nat} {v : Int32} (B : Amb D A0 ev own nm cc nL ret rm) (hk : mK X a = some (c, n)) (hc : c < 13) (hf : k < fN c) (hy : tyOf c k = .int) (hfin : (clT c k).2.2.2 = true) (hnm : nm = "<init>") (hdecl : (clT c k).1 = own) (lk : Cond.fieldLink own index (clT c k).1 (clT c k).2.1 (clT c k).2.2.1 ∈ gd) (d : decode cc pc = .ok (.putfield index, 3)) (k9 : Gd D A0 ev Q (wI X (100 * c + k) a v) cs sl (pc + 3) L st) : Gd D A0 ev Q X cs sl pc L (vI v :: vA (some a) :: st) := by
  obtain ⟨p, l, e9, R, s, m, args, below, meth, c9⟩ := ev
  intro H locs ls hR hA hS hl
  have hrv : fR c k = false := (by unfold fR; rw [hy])
  refine W_putF B.1 B.2.1 B.2.2.2.1 B.2.2.2.2.1 hc hf fs_len (hR.objAt hk hc) (B.2.2.2.2.1.w lk) hfin (B.2.2.2.2.2.2.2.2.2.2.2.trans hnm) hdecl (by rw [hy]; exact nar_I.1) (by rw [hy]; exact nar_I.2) d (fun H1 sl9 e1 z oq => ?_)
  refine k9 H1 _ ls (hR.moved (a := a) rfl rfl (fun b c8 n8 hb => cellOf_wI hb) (fun c8 n8 h8 => ?_) z oq) hA (hS.put z oq (hA a (by rw [hk]; exact fun z9 => nomatch z9))) hl
  rw [hk] at h8
  cases h8
  unfold cellOf
  rw [if_pos hc, fs_wI_eq hrv]
  exact e1
theorem g_putZF (c k : Nat) {a n index : Nat} {v : Int32} (B : Amb D A0 ev own nm cc nL ret rm) (hk : mK X a = some (c, n)) (hc : c < 13) (hf : k < fN c) (hy : tyOf c k = .boolean) (hv : v = 0 ∨ v = 1) (hfin : (clT c k).2.2.2 = true) (hnm : nm = "<init>") (hdecl : (clT c k).1 = own) (lk : Cond.fieldLink own index (clT c k).1 (clT c k).2.1 (clT c k).2.2.1 ∈ gd) (d : decode cc pc = .ok (.putfield index, 3)) (k9 : Gd D A0 ev Q (wI X (100 * c + k) a v) cs sl (pc + 3) L st) : Gd D A0 ev Q X cs sl pc L (vI v :: vA (some a) :: st) := by
  obtain ⟨p, l, e9, R, s, m, args, below, meth, c9⟩ := ev
  intro H locs ls hR hA hS hl
  have hrv : fR c k = false := (by unfold fR; rw [hy])
  refine W_putF B.1 B.2.1 B.2.2.2.1 B.2.2.2.2.1 hc hf fs_len (hR.objAt hk hc) (B.2.2.2.2.1.w lk) hfin (B.2.2.2.2.2.2.2.2.2.2.2.trans hnm) hdecl (by rw [hy]; exact (nar_Z hv).1) (by rw [hy]; exact (nar_Z hv).2) d (fun H1 sl9 e1 z oq => ?_)
  refine k9 H1 _ ls (hR.moved (a := a) rfl rfl (fun b c8 n8 hb => cellOf_wI hb) (fun c8 n8 h8 => ?_) z oq) hA (hS.put z oq (hA a (by rw [hk]; exact fun z9 => nomatch z9))) hl
  rw [hk] at h8
  cases h8
  unfold cellOf
  rw [if_pos hc, fs_wI_eq hrv]
  exact e1
theorem g_putRF (c k : Nat) {a n index : Nat} {v : Option Nat} (B : Amb D A0 ev own nm cc nL ret rm) (hk : mK X a = some (c, n)) (hc : c < 13) (hf : k < fN c) (hr : fR c k = true) (hfin : (clT c k).2.2.2 = true) (hnm : nm = "<init>") (hdecl : (clT c k).1 = own) (lk : Cond.fieldLink own index (clT c k).1 (clT c k).2.1 (clT c k).2.2.1 ∈ gd) (d : decode cc pc = .ok (.putfield index, 3)) (k9 : Gd D A0 ev Q (wR X (100 * c + k) a v) cs sl (pc + 3) L st) : Gd D A0 ev Q X cs sl pc L (vA v :: vA (some a) :: st) := by
  obtain ⟨p, l, e9, R, s, m, args, below, meth, c9⟩ := ev
  intro H locs ls hR hA hS hl
  have hrv : fR c k = true := hr
  refine W_putF B.1 B.2.1 B.2.2.2.1 B.2.2.2.2.1 hc hf fs_len (hR.objAt hk hc) (B.2.2.2.2.1.w lk) hfin (B.2.2.2.2.2.2.2.2.2.2.2.trans hnm) hdecl (nar_R hr).1 (nar_R hr).2 d (fun H1 sl9 e1 z oq => ?_)
  refine k9 H1 _ ls (hR.moved (a := a) rfl rfl (fun b c8 n8 hb => cellOf_wR hb) (fun c8 n8 h8 => ?_) z oq) hA (hS.put z oq (hA a (by rw [hk]; exact fun z9 => nomatch z9))) hl
  rw [hk] at h8
  cases h8
  unfold cellOf
  rw [if_pos hc, fs_wR_eq hrv]
  exact e1
theorem tyA {t : Nat} (ht : t < 7) : (tysOf D)[t]? = some (D.2.2 t, arT t) := tys_at ht
theorem g_iald {a n : Nat} {i : Int32} (B : Amb D A0 ev own nm cc nL ret rm) (hk : mK X a = some (20, n)) (hin : vp_in i n) (d : decode cc pc = .ok (.iaload, 1)) (k9 : Gd D A0 ev Q X cs sl (pc + 1) L (vI (aI X a i.toNatClampNeg) :: st)) : Gd D A0 ev Q X cs sl pc L (vI i :: vA (some a) :: st) := by
  obtain ⟨p, l, e9, R, s, m, args, below, meth, c9⟩ := ev
  intro H locs ls hR hA hS hl
  exact va_iald (D := (D.1, D.2.1)) (cl := vwCl) (ws := [(a, .inl (D.2.2 0, n, .inl (aI X a)))]) B.1 B.2.1 B.2.2.2.2.1.1 (P1 (hR.arrI (t := 0) hk (by decide))) 0 0 rfl (tys_at (by decide)) hin d (k9 H locs ls hR hA hS hl)
theorem g_zald {a n : Nat} {i : Int32} (B : Amb D A0 ev own nm cc nL ret rm) (hk : mK X a = some (21, n)) (hin : vp_in i n) (d : decode cc pc = .ok (.baload, 1)) (k9 : Gd D A0 ev Q X cs sl (pc + 1) L (vI (aI X a i.toNatClampNeg) :: st)) : Gd D A0 ev Q X cs sl pc L (vI i :: vA (some a) :: st) := by
  obtain ⟨p, l, e9, R, s, m, args, below, meth, c9⟩ := ev
  intro H locs ls hR hA hS hl
  exact va_zald (D := (D.1, D.2.1)) (cl := vwCl) (ws := [(a, .inl (D.2.2 1, n, .inl (aI X a)))]) B.1 B.2.1 B.2.2.2.2.1.1 (P1 (hR.arrI (t := 1) hk (by decide))) 0 1 rfl (tys_at (by decide)) hin d (k9 H locs ls hR hA hS hl)
theorem g_lald {a n : Nat} {i : Int32} (B : Amb D A0 ev own nm cc nL ret rm) (hk : mK X a = some (22, n)) (hin : vp_in i n) (d : decode cc pc = .ok (.laload, 1)) (k9 : Gd D A0 ev Q X cs sl (pc + 1) L (vJ (aJ X a i.toNatClampNeg) :: st)) : Gd D A0 ev Q X cs sl pc L (vI i :: vA (some a) :: st) := by
  obtain ⟨p, l, e9, R, s, m, args, below, meth, c9⟩ := ev
  intro H locs ls hR hA hS hl
  exact va_lald (D := (D.1, D.2.1)) (cl := vwCl) (ws := [(a, .inl (D.2.2 2, n, .inr (.inl (aJ X a))))]) B.1 B.2.1 B.2.2.2.2.1.1 (P1 (hR.arrJ hk)) 0 2 rfl (tys_at (by decide)) hin d (k9 H locs ls hR hA hS hl)
theorem g_aald {a t n : Nat} {i : Int32} (B : Amb D A0 ev own nm cc nL ret rm) (hk : mK X a = some (20 + t, n)) (h3 : 3 ≤ t) (h7 : t < 7) (hin : vp_in i n) (d : decode cc pc = .ok (.aaload, 1)) (k9 : Gd D A0 ev Q X cs sl (pc + 1) L (vA (aR X a i.toNatClampNeg) :: st)) : Gd D A0 ev Q X cs sl pc L (vI i :: vA (some a) :: st) := by
  obtain ⟨p, l, e9, R, s, m, args, below, meth, c9⟩ := ev
  intro H locs ls hR hA hS hl
  obtain ⟨C, hC, -⟩ := B.2.2.2.2.1.2.2.2.2.2.2 t h3 h7
  exact va_aldq (C := C) (D := (D.1, D.2.1)) (cl := vwCl) (ws := [(a, .inl (D.2.2 t, n, .inr (.inr (.inr (.inr (aR X a))))))]) B.1 B.2.1 B.2.2.2.2.1.1 (P1 (hR.arrR hk h3)) 0 t rfl (by rw [tys_at h7, hC]) hin d (k9 H locs ls hR hA hS hl)
theorem g_alen {a t n : Nat} (B : Amb D A0 ev own nm cc nL ret rm) (hk : mK X a = some (20 + t, n)) (h7 : t < 7) (d : decode cc pc = .ok (.arraylength, 1)) (k9 : Gd D A0 ev Q X cs sl (pc + 1) L (vI (nI n) :: st)) : Gd D A0 ev Q X cs sl pc L (vA (some a) :: st) := by
  obtain ⟨p, l, e9, R, s, m, args, below, meth, c9⟩ := ev
  intro H locs ls hR hA hS hl
  have h9 := k9 H locs ls hR hA hS hl
  by_cases h2 : t < 2
  · exact va_alen (D := (D.1, D.2.1)) (cl := vwCl) (ws := [(a, .inl (D.2.2 t, n, .inl (aI X a)))]) B.1 B.2.1 B.2.2.2.2.1.1 (P1 (hR.arrI hk h2)) 0 t rfl (tys_at h7) rfl d h9
  · by_cases h3 : t = 2
    · subst h3
      exact va_alen (D := (D.1, D.2.1)) (cl := vwCl) (ws := [(a, .inl (D.2.2 2, n, .inr (.inl (aJ X a))))]) B.1 B.2.1 B.2.2.2.2.1.1 (P1 (hR.arrJ hk)) 0 2 rfl (tys_at h7) rfl d h9
    · exact va_alen (D := (D.1, D.2.1)) (cl := vwCl) (ws := [(a, .inl (D.2.2 t, n, .inr (.inr (.inr (.inr (aR X a))))))]) B.1 B.2.1 B.2.2.2.2.1.1 (P1 (hR.arrR hk (by omega))) 0 t rfl (tys_at h7) rfl d h9
theorem cellOf_sI {X : Mem} {f a b c n : Nat} {v : Int32} (h : b ≠ a) : cellOf D (sI X a f v) b c n = cellOf D X b c n := by
  have e : aI (sI X a f v) b = aI X b := funext fun i => by show up2 _ _ _ _ _ _ = _; exact up2_nk h
  unfold cellOf
  rw [e]
  rfl
theorem cellOf_sJ {X : Mem} {f a b c n : Nat} {v : Int64} (h : b ≠ a) : cellOf D (sJ X a f v) b c n = cellOf D X b c n := by
  have e : aJ (sJ X a f v) b = aJ X b := funext fun i => by show up2 _ _ _ _ _ _ = _; exact up2_nk h
  unfold cellOf
  rw [e]
  rfl
theorem cellOf_sR {X : Mem} {f a b c n : Nat} {v : Option Nat} (h : b ≠ a) : cellOf D (sR X a f v) b c n = cellOf D X b c n := by
  have e : aR (sR X a f v) b = aR X b := funext fun i => by show up2 _ _ _ _ _ _ = _; exact up2_nk h
  unfold cellOf
  rw [e]
  rfl
theorem va_inl {D : va_G} {a : Nat} {cA : ClassId} {x : vp_A} {H : Heap} (h : H[a]? = some (vp_cell cA x)) : va_at D vwCl (a, .inl (cA, x)) H := h
theorem g_iast {a n : Nat} {i : Int32} {x : Int32} (B : Amb D A0 ev own nm cc nL ret rm) (hk : mK X a = some (20, n)) (hin : vp_in i n) (d : decode cc pc = .ok (.iastore, 1)) (k9 : Gd D A0 ev Q (sI X a i.toNatClampNeg x) cs sl (pc + 1) L st) : Gd D A0 ev Q X cs sl pc L (vI x :: vI i :: vA (some a) :: st) := by
  obtain ⟨p, l, e9, R, s, m, args, below, meth, c9⟩ := ev
  intro H locs ls hR hA hS hl
  refine W.iast B.1 B.2.1 (hR.arrI (t := 0) hk (by decide)) ((B.2.2.2.2.1.ty 0 (by decide)).1 n (fun j => .int (aI X a j))) (fun q => by cases q) (by show ¬ (i < 0 ∨ (arrV _ _ _).slots.size ≤ _); rw [arrV_size]; exact hin) rfl rfl d fun H1 e z oq => ?_
  refine k9 H1 _ ls (hR.moved (a := a) rfl rfl (fun b c8 n8 hb => cellOf_sI hb) (fun c8 n8 h8 => ?_) z oq) hA (hS.put z oq (hA a (by rw [hk]; exact fun z9 => nomatch z9))) hl
  rw [hk] at h8
  cases h8
  refine va_inl ?_
  show H1[a]? = some (vp_cell (D.2.2 0) (n, .inl (aI (sI X a i.toNatClampNeg x) a)))
  rw [e, vp_cell_i, vp_cell_i, arrV_store]
  congr 2
  funext q
  by_cases hq : q = i.toNatClampNeg
  · subst hq
    simp [updV, sI, aI, up2]
  · simp [updV, sI, aI, up2, hq]
theorem g_zast {a n : Nat} {i : Int32} {x : Int32} (B : Amb D A0 ev own nm cc nL ret rm) (hk : mK X a = some (21, n)) (hin : vp_in i n) (hx : x = 0 ∨ x = 1) (d : decode cc pc = .ok (.bastore, 1)) (k9 : Gd D A0 ev Q (sI X a i.toNatClampNeg x) cs sl (pc + 1) L st) : Gd D A0 ev Q X cs sl pc L (vI x :: vI i :: vA (some a) :: st) := by
  obtain ⟨p, l, e9, R, s, m, args, below, meth, c9⟩ := ev
  intro H locs ls hR hA hS hl
  refine W.zast B.1 B.2.1 (hR.arrI (t := 1) hk (by decide)) ((B.2.2.2.2.1.ty 1 (by decide)).1 n (fun j => .int (aI X a j))) (fun q => by cases q) (by show ¬ (i < 0 ∨ (arrV _ _ _).slots.size ≤ _); rw [arrV_size]; exact hin) rfl rfl d fun H1 e z oq => ?_
  refine k9 H1 _ ls (hR.moved (a := a) rfl rfl (fun b c8 n8 hb => cellOf_sI hb) (fun c8 n8 h8 => ?_) z oq) hA (hS.put z oq (hA a (by rw [hk]; exact fun z9 => nomatch z9))) hl
  rw [hk] at h8
  cases h8
  refine va_inl ?_
  show H1[a]? = some (vp_cell (D.2.2 1) (n, .inl (aI (sI X a i.toNatClampNeg x) a)))
  rw [e, vp_cell_i, vp_cell_i, arrV_store]
  congr 2
  funext q
  by_cases hq : q = i.toNatClampNeg
  · subst hq
    have h7 := (nar_Z hx).1
    simp [updV, sI, aI, up2, h7]
  · simp [updV, sI, aI, up2, hq]
theorem g_last {a n : Nat} {i : Int32} {x : Int64} (B : Amb D A0 ev own nm cc nL ret rm) (hk : mK X a = some (22, n)) (hin : vp_in i n) (d : decode cc pc = .ok (.lastore, 1)) (k9 : Gd D A0 ev Q (sJ X a i.toNatClampNeg x) cs sl (pc + 1) L st) : Gd D A0 ev Q X cs sl pc L (vJ x :: vI i :: vA (some a) :: st) := by
  obtain ⟨p, l, e9, R, s, m, args, below, meth, c9⟩ := ev
  intro H locs ls hR hA hS hl
  refine W.last B.1 B.2.1 (hR.arrJ hk) ((B.2.2.2.2.1.ty 2 (by decide)).1 n (fun j => .long (aJ X a j))) (fun q => by cases q) (by show ¬ (i < 0 ∨ (arrV _ _ _).slots.size ≤ _); rw [arrV_size]; exact hin) rfl rfl d fun H1 e z oq => ?_
  refine k9 H1 _ ls (hR.moved (a := a) rfl rfl (fun b c8 n8 hb => cellOf_sJ hb) (fun c8 n8 h8 => ?_) z oq) hA (hS.put z oq (hA a (by rw [hk]; exact fun z9 => nomatch z9))) hl
  rw [hk] at h8
  cases h8
  refine va_inl ?_
  show H1[a]? = some (vp_cell (D.2.2 2) (n, .inr (.inl (aJ (sJ X a i.toNatClampNeg x) a))))
  rw [e, vp_cell_l, vp_cell_l, arrV_store]
  congr 2
  funext q
  by_cases hq : q = i.toNatClampNeg
  · subst hq
    simp [updV, sJ, aJ, up2]
  · simp [updV, sJ, aJ, up2, hq]
theorem g_aast {a t n c b m9 : Nat} {i : Int32} (B : Amb D A0 ev own nm cc nL ret rm) (hk : mK X a = some (20 + t, n)) (h3 : 3 ≤ t) (h7 : t < 7) (hv : mK X b = some (c, m9)) (hc : c < 13) (hty : arT t = .object (clC c)) (hin : vp_in i n) (d : decode cc pc = .ok (.aastore, 1)) (k9 : Gd D A0 ev Q (sR X a i.toNatClampNeg (some b)) cs sl (pc + 1) L st) : Gd D A0 ev Q X cs sl pc L (vA (some b) :: vI i :: vA (some a) :: st) := by
  obtain ⟨p, l, e9, R, s, m, args, below, meth, c9⟩ := ev
  intro H locs ls hR hA hS hl
  have hlt : i.toNatClampNeg < n := Nat.not_le.mp fun q => hin (Or.inr q)
  have h0 : ¬ i < 0 := fun q => hin (Or.inl q)
  obtain ⟨o1, o2, o3, o4, o5⟩ := clsOK c hc
  obtain ⟨r', hr', cellV, g1, g2, g3, -⟩ := hR.objAt hv hc
  have hcls := (B.2.2.2.2.1.1.1 c _ o1).2
  have hra := (B.2.2.2.2.1.ty t h7).2
  rw [hty] at hra
  obtain ⟨kA, comp, k1, k2, k3, -⟩ := hra
  have hcomp : comp = D.1 c := Option.some.inj (k3.symm.trans hcls.1)
  subst hcomp
  obtain ⟨kC, hkC, -⟩ := hcls.2
  refine W.aast B.1 B.2.1 (hR.arrR hk h3) (fun q h => by cases h) (fun h => by cases h) k1 k2 rfl hkC ⟨h0, by show _ < (arrV _ _ _).slots.size; rw [arrV_size]; exact hlt⟩ g1 (fun q h => by rw [g3] at h; cases h) (by rw [g2]; exact hkC) (by rw [g2]; exact va_assign hcls) rfl rfl d fun H1 e z oq => ?_
  refine k9 H1 _ ls (hR.moved (a := a) rfl rfl (fun b c8 n8 hb => cellOf_sR hb) (fun c8 n8 h8 => ?_) z oq) hA (hS.put z oq (hA a (by rw [hk]; exact fun z9 => nomatch z9))) hl
  rw [hk] at h8
  cases h8
  unfold cellOf
  rw [if_neg (by omega), if_neg (by omega), if_neg (by omega), show 20 + t - 20 = t by omega]
  refine va_inl ?_
  rw [e, vp_cell_q, vp_cell_q, arrV_store]
  congr 2
  funext q
  by_cases hq : q = i.toNatClampNeg
  · subst hq
    simp [updV, sR, aR, up2, va_rf]
  · simp [updV, sR, aR, up2, hq]
/-- behind a push at the next address -/
theorem RepM.push {D : DD} {X X' : Mem} {H H1 : Heap} (h : RepM D X H) {c n : Nat} (hcn : c < 13 ∨ (20 ≤ c ∧ c < 27)) (hk : mK X' = fun b => if b = mZ X then some (c, n) else mK X b) (hz : mZ X' = mZ X + 1) (hne : ∀ b c n, b ≠ mZ X → cellOf D X' b c n = cellOf D X b c n) (hat : va_at (D.1, D.2.1) vwCl (mZ X, cellOf D X' (mZ X) c n) H1) (z : H1.size = H.size + 1) (oq : ∀ q, q < H.size → H1[q]? = H[q]?) : RepM D X' H1 := by
  refine ⟨fun b c8 n8 hb => ?_, by rw [hz, z, h.2]⟩
  rw [hk] at hb
  by_cases e : b = mZ X
  · simp only [if_pos e] at hb
    cases hb
    rw [e]
    exact ⟨hcn, hat⟩
  · simp only [if_neg e] at hb
    refine ⟨(h.1 b c8 n8 hb).1, ?_⟩
    rw [hne b c8 n8 e]
    have h8 := (h.1 b c8 n8 hb).2
    exact h8.kept (oq b h8.lt)
theorem cellOf_nO {X : Mem} {b c c0 n : Nat} (h : b ≠ mZ X) : cellOf D (nO X c0) b c n = cellOf D X b c n := by
  have e : fsOf (nO X c0) c b = fsOf X c b := by
    unfold fsOf
    refine List.map_congr_left fun k _ => ?_
    simp [nO, mI, mR, h]
  unfold cellOf
  rw [e]
  rfl
theorem cellOf_nA {X : Mem} {b c t m n : Nat} (h : b ≠ mZ X) : cellOf D (nA X t m) b c n = cellOf D X b c n := by
  have e1 : aI (nA X t m) b = aI X b := funext fun i => by show (if b = mZ X then (0 : Int32) else aI X b i) = _; rw [if_neg h]
  have e2 : aJ (nA X t m) b = aJ X b := funext fun i => by show (if b = mZ X then (0 : Int64) else aJ X b i) = _; rw [if_neg h]
  have e3 : aR (nA X t m) b = aR X b := funext fun i => by show (if b = mZ X then none else aR X b i) = _; rw [if_neg h]
  unfold cellOf
  rw [e1, e2, e3]
  rfl
theorem A_new {A : Nat → Prop} {H0 H H1 : Heap} {locs : List Loc} (h : va_S A H0 H locs) (z : H1.size = H.size + 1) (oq : ∀ q : Nat, q < H.size → H1[q]? = H[q]?) : va_S A H0 H1 locs := ⟨Nat.le_trans h.1 (by omega), fun x h1 h2 => (oq x (Nat.lt_of_lt_of_le h1 h.1)).trans (h.2.1 x h1 h2), h.2.2⟩
theorem dom_new {X X' : Mem} {A : Nat → Prop} {H0 H : Heap} {locs : List Loc} {y : Nat × Nat} (hz : mZ X = H.size) (hS : va_S A H0 H locs) (hA0 : ∀ q : Nat, H0.size ≤ q → A q) (hk : mK X' = fun b => if b = mZ X then some y else mK X b) (hA : ∀ a, mK X a ≠ none → A a) : ∀ a, mK X' a ≠ none → A a := by
  intro a ha
  rw [hk] at ha
  by_cases e : a = mZ X
  · exact hA0 a (by rw [e, hz]; exact hS.1)
  · simp only [if_neg e] at ha
    exact hA a ha
theorem g_new (c : Nat) {index : Nat} (B : Amb D A0 ev own nm cc nL ret rm) (hc : c < 13) (lk : Cond.classLink own index (clC c) ∈ gd) (li : Cond.instantiable (clC c) (fN c) ∈ gd) (lz : Cond.initialized (clC c) ∈ gd) (hcs : cs + 1 ≤ rm.cells) (hsl : sl + fN c ≤ rm.slots) (d : decode cc pc = .ok (.new index, 3)) (k9 : Gd D A0 ev Q (nO X c) (cs + 1) (sl + fN c) (pc + 3) L (vA (some (mZ X)) :: st)) : Gd D A0 ev Q X cs sl pc L st := by
  obtain ⟨p, l, e9, R, s, m, args, below, meth, c9⟩ := ev
  intro H locs ls hR hA hS hl
  obtain ⟨o1, o2, o3, o4, o5⟩ := clsOK c hc
  have hKn := B.2.2.2.2.1.1.1 c _ o1
  refine W.newcK B.1 B.2.1 B.2.2.2.1 (B.2.2.2.2.1.w lk) (B.2.2.2.2.1.w li) (B.2.2.2.2.1.w lz) rfl d (by rw [B.2.2.2.2.2.2.2.1]; exact hcs) (by rw [B.2.2.2.2.2.2.2.1]; exact hsl) hKn.2.1 rfl fun H1 kC hkC e1 z1 o1' => ?_
  have hz := hR.2
  rw [← hz]
  refine k9 H1 locs ls (hR.push (c := c) (n := 0) (Or.inl hc) rfl rfl (fun b c8 n8 hb => cellOf_nO hb) ?_ z1 o1') (dom_new hz hS B.2.2.2.2.2.2.2.2.1 rfl hA) (A_new hS z1 o1') hl
  unfold cellOf
  rw [if_pos hc, hz]
  refine ⟨_, o1, (u_born (tyOf c) (fun w hw => B.2.2.2.2.1.w (a := args) hw) o2 hKn hkC e1 o4).to fun j hj => ?_⟩
  have h8 : vp_V (fsOf (nO X c) c H.size) j = (if fR c j then va_rf (mR (nO X c) (100 * c + j) H.size) else .int (mI (nO X c) (100 * c + j) H.size)) := by
    unfold vp_V
    rw [List.getD_eq_getElem?_getD, fs_at hj]
    rfl
  rw [h8]
  have e2 : mR (nO X c) (100 * c + j) H.size = none := by simp [nO, mR, hz]
  have e3 : mI (nO X c) (100 * c + j) H.size = 0 := by simp [nO, mI, hz]
  rw [e2, e3]
  have h10 := tyOf_ok c hc j hj
  unfold fR
  rcases h10 with h | h | ⟨t, h⟩ | ⟨t, h⟩ <;> rw [h] <;> rfl
theorem g_newa {atype : ArrayType} {t N : Nat} {n : Int32} (B : Amb D A0 ev own nm cc nL ret rm) (h3 : t < 3) (hty : newarray.typeOf atype = arT t) (la : Cond.arrayClass (newarray.typeOf atype) ∈ gd) (hn : ¬ n < 0) (hN : n.toNatClampNeg = N) (hby : N * 8 ≤ 536870912) (hcs : cs + 1 ≤ rm.cells) (hsl : sl + N ≤ rm.slots) (d : decode cc pc = .ok (.newarray atype, 2)) (k9 : Gd D A0 ev Q (nA X t N) (cs + 1) (sl + N) (pc + 2) L (vA (some (mZ X)) :: st)) : Gd D A0 ev Q X cs sl pc L (vI n :: st) := by
  obtain ⟨p, l, e9, R, s, m, args, below, meth, c9⟩ := ev
  intro H locs ls hR hA hS hl
  have hz := hR.2
  have hcb : componentBytes (newarray.typeOf atype) ≤ 8 := by rw [hty]; match t, h3 with
    | 0, _ => decide
    | 1, _ => decide
    | 2, _ => decide
  refine va_newaK B.1 B.2.1 (B.2.2.2.2.1.w la) rfl d rfl hn hN (Nat.le_trans (Nat.mul_le_mul_left N hcb) hby) (by rw [B.2.2.2.2.2.2.2.1]; exact hcs) (by rw [B.2.2.2.2.2.2.2.1]; exact hsl) hz.symm fun H1 cA e1 z1 o1 hAr hNm => ?_
  have hra := (B.2.2.2.2.1.ty t (by omega)).2
  rw [hty] at e1 hAr hNm
  have hcA : cA = D.2.2 t := by
    refine Option.some.inj (hNm.symm.trans ?_)
    match t, h3, hra with
    | 0, _, hra => exact hra
    | 1, _, hra => exact hra
    | 2, _, hra => exact hra
  subst hcA
  rw [hz] at o1 z1 e1
  refine k9 H1 locs ls (hR.push (c := 20 + t) (n := N) (Or.inr ⟨by omega, by omega⟩) rfl rfl (fun b c8 n8 hb => cellOf_nA hb) ?_ z1 o1) (dom_new hz hS B.2.2.2.2.2.2.2.2.1 rfl hA) (A_new hS z1 o1) hl
  rw [hz]
  have f1 : aI (nA X t N) H.size = fun _ => 0 := funext fun i => by show (if H.size = mZ X then (0 : Int32) else aI X H.size i) = _; rw [if_pos hz.symm]
  have f2 : aJ (nA X t N) H.size = fun _ => 0 := funext fun i => by show (if H.size = mZ X then (0 : Int64) else aJ X H.size i) = _; rw [if_pos hz.symm]
  unfold cellOf
  rw [f1, f2]
  match t, h3, e1 with
  | 0, _, e1 => exact e1
  | 1, _, e1 => exact e1
  | 2, _, e1 => exact e1
theorem g_anew {index t N : Nat} {n : Int32} {C : String} (B : Amb D A0 ev own nm cc nL ret rm) (h3 : 3 ≤ t) (h7 : t < 7) (hty : arT t = .object C) (lk : Cond.classLink own index C ∈ gd) (hn : ¬ n < 0) (hN : n.toNatClampNeg = N) (hby : N * 4 ≤ 536870912) (hcs : cs + 1 ≤ rm.cells) (hsl : sl + N ≤ rm.slots) (d : decode cc pc = .ok (.anewarray index, 3)) (k9 : Gd D A0 ev Q (nA X t N) (cs + 1) (sl + N) (pc + 3) L (vA (some (mZ X)) :: st)) : Gd D A0 ev Q X cs sl pc L (vI n :: st) := by
  obtain ⟨p, l, e9, R, s, m, args, below, meth, c9⟩ := ev
  intro H locs ls hR hA hS hl
  have hz := hR.2
  obtain ⟨C', hC, hAO⟩ := B.2.2.2.2.1.2.2.2.2.2.2 t h3 h7
  have hCC : C' = C := by rw [hty] at hC; cases hC; rfl
  subst hCC
  have hra := (B.2.2.2.2.1.ty t h7).2
  rw [hty] at hra
  obtain ⟨kA', comp', q1, q2, q3, q4⟩ := hra
  subst hN
  refine W.anew B.1 B.2.1 B.2.2.2.1 (B.2.2.2.2.1.w lk) (va_AO.use hAO) rfl d rfl hn hby (by rw [B.2.2.2.2.2.2.2.1]; exact hcs) (by rw [B.2.2.2.2.2.2.2.1]; exact hsl) fun cA kA comp f1 f2 f3 f4 => ?_
  have hcA : cA = D.2.2 t := Option.some.inj (f1.symm.trans q4)
  subst hcA
  generalize hH1 : H.push ({ cls := D.2.2 t, slots := Array.replicate n.toNatClampNeg .null, vm := .none } : Cell) = H1
  have z1 : H1.size = H.size + 1 := by rw [← hH1, Array.size_push]
  have e1 : H1[H.size]? = some (arrV (D.2.2 t) n.toNatClampNeg (fun _ => .null)) := by rw [← hH1, Array.getElem?_push_size, ← arrV_new]
  have o1 : ∀ q : Nat, q < H.size → H1[q]? = H[q]? := fun q hq => by rw [← hH1, Array.getElem?_push, if_neg (Nat.ne_of_lt hq)]
  have k8 := k9 H1 locs ls (hR.push (c := 20 + t) (n := n.toNatClampNeg) (Or.inr ⟨by omega, by omega⟩) rfl rfl (fun b c8 n8 hb => cellOf_nA hb) (by
    have f3 : aR (nA X t n.toNatClampNeg) H.size = fun _ => none := funext fun i => by show (if H.size = mZ X then none else aR X H.size i) = _; rw [if_pos hz.symm]
    unfold cellOf
    rw [hz, f3, if_neg (by omega), if_neg (by omega), if_neg (by omega), show 20 + t - 20 = t by omega]
    exact e1) z1 o1) (dom_new hz hS B.2.2.2.2.2.2.2.2.1 rfl hA) (A_new hS z1 o1) hl
  rw [hz] at k8
  exact k8
theorem g_objInit {index : Nat} {r : Nat} (B : Amb D A0 ev own nm cc nL ret rm) (lk : Cond.methodLink own index Lib.objectInit ∈ gd) (li : Cond.instanceMethod Lib.objectInit ∈ gd) (lc : Cond.code Lib.objectInit ⟨#[0xb1]⟩ 1 none ∈ gd) (hw : tW st + 12 ≤ rm.locals) (hfr : 1 ≤ rm.frames) (d : decode cc pc = .ok (.invokespecial index, 3)) (k9 : Gd D A0 ev Q X cs sl (pc + 3) L st) : Gd D A0 ev Q X cs sl pc L (vA (some r) :: st) := by
  obtain ⟨p, l, e9, R, s, m, args, below, meth, c9⟩ := ev
  intro H locs ls hR hA hS hl
  refine W.objInit B.1 B.2.1 B.2.2.2.1 (B.2.2.2.2.1.w lk) (B.2.2.2.2.1.w li) (B.2.2.2.2.1.w lc) rfl hl.1 rfl d (by rw [B.2.2.2.2.2.2.2.1]; exact hfr) ?_ ?_
  · rw [B.2.2.2.2.2.2.2.1]
    show 2 * 0 + ((tS st).map fun v => v.category).sum + 12 ≤ _
    rw [tW_sum]
    omega
  · exact k9 H locs ls hR hA hS hl
end GH
end
section
/-! CONTRACTS over the typed memory: entry, ends, calls -/
def cPc (D : DD) (av : List TV) (X : Mem) : Array Value → State → Prop := fun v U => v = (tS av).toArray ∧ RepM D X U.heap ∧ AK D U ∧ zU (foot X) U U.heap
def cPo (D : DD) (X X' : Mem) (st t : State) : Prop := RepM D X' t.heap ∧ (∀ a, mK X' a ≠ none → foot X a) ∧ va_F (foot X) st t
def cQc (D : DD) (X : Mem) (o : String ⊕ Option TV) (X' : Mem) : Array Value → State → Outcome → State → Prop := fun _ st oc t => ∃ v : Option TV, o = .inr v ∧ oc = .returned (v.map tv) ∧ cPo D X X' st t
def cXC (D : DD) (X : Mem) (o : String ⊕ Option TV) : String → State → State → Prop := fun E st t => o = .inl E ∧ (∃ z, RepM D (zM X z) t.heap) ∧ va_F (foot X) st t
def Ctr (D : DD) (l : Launch) (y : MethodName) (cc : ByteArray) (nL : Nat) (ret : Option FieldType) (rm : Room) (av : List TV) (X : Mem) (o : String ⊕ Option TV) (X' : Mem) : Prop :=
  vx_Met l y [Cond.code y cc nL ret] rm (cPc D av X) (cQc D X o X') (cXC D X o) rm.cells rm.slots (foot X)
def QF (D : DD) (ev : EV) (X : Mem) (o : String ⊕ Option TV) (X' : Mem) (rm : Room) : State → Prop := match ev with
  | (_, _, _, _, s, _, args, below, _, _) => vx_MQ below (cQc D X o X') (cXC D X o) args s rm.cells rm.slots (foot X)
def Tb0 (ev : EV) : Prop := match ev with
  | (_, _, _, _, _, _, _, _, _, c) => ∀ x ∈ c.exceptionTable.toList, False
def EvL (ev : EV) (l : Launch) : Prop := match ev with
  | (_, l', _, _, _, _, _, _, _, _) => l' = l
def tA : Nat → List TV → List (Nat × TV)
  | _, [] => []
  | i, v :: vs => (i, v) :: tA (if tJ v then i + 2 else i + 1) vs
theorem tA_args (av : List TV) : ∀ i, tL (tA i av) = lv_args i (tS av) := by
  induction av with
  | nil => intro i; rfl
  | cons v vs ih =>
    intro i
    show (i, tv v) :: tL (tA (if tJ v then i + 2 else i + 1) vs) = (i, tv v) :: lv_args (if (tv v).category = 2 then i + 2 else i + 1) (tS vs)
    rw [ih, tv_cat]
    cases tJ v <;> rfl
theorem tW_sl (av : List TV) : (lg_sl (tS av)).length = tW av := by
  induction av with
  | nil => rfl
  | cons v vs ih =>
    have e : lg_sl (tS (v :: vs)) = (if (tv v).category = 2 then [.val (tv v), .second] else [.val (tv v)]) ++ lg_sl (tS vs) := rfl
    rw [e, List.length_append, ih, tv_cat]
    cases h : tJ v <;> simp [tW, h]
theorem cPc_blind {D : DD} {av : List TV} {X : Mem} : FrameBlind (cPc D av X) := by
  intro a U g mk ⟨h1, h2, h3, h4⟩
  exact ⟨h1, h2, AK.warm (State.WarmedH.refl U) h3, h4⟩
theorem ctr_of {D : DD} {l : Launch} {y : MethodName} {cc : ByteArray} {nL : Nat} {ret : Option FieldType} {rm : Room} {av : List TV} {X : Mem} {o : String ⊕ Option TV} {X' : Mem} (hst : l.stackTraces = false) (hy : plainName y.cls = true) (hw : tW av ≤ nL)
    (body : ∀ ev : EV, EvL ev l → Tb0 ev → Amb D (foot X) ev y.cls y.name cc nL ret rm → Gd D (foot X) ev (QF D ev X o X' rm) X 0 0 0 (tA 0 av) []) : Ctr D l y cc nL ret rm av X o X' := by
  refine vx_ofW (cc := cc) (maxL := nL) (ret := ret) hy rfl ?_
  intro p e s m args below meth c s₁ B hml ht hP
  obtain ⟨rfl, hR, hAK, hz⟩ := hP
  have hown : s.vm.findClass y.cls = some m.cls := findClass_of_methodNamed B.named
  have hA0 : ∀ q : Nat, s.heap.size ≤ q → foot X q := fun q h => Or.inr (by rw [hR.2]; exact h)
  have hS : va_S (foot X) s.heap s.heap [] := va_S.rf
  have hl := lv_entry (tS av) (n := nL) (by rw [tW_sl]; exact hw)
  rw [← tA_args] at hl
  have k := body (p, l, e, rm, s, m, (tS av).toArray, below, meth, c) rfl ht ⟨B.exec, B.bytes, hml, hown, hAK, B.notSynchronized, B.returns, rfl, hA0, hst, hz, (name_of_methodNamed B.named B.method).1⟩
  rw [lg_entry_eq]
  exact k s.heap [] _ hR (fun a h => Or.inl h) hS (by rw [hml]; exact hl)
section GE
variable {D : DD} {ev : EV} {X X0 : Mem} {cs sl pc : Nat} {L : List (Nat × TV)} {st : List TV} {own nm : String} {cc : ByteArray} {nL : Nat} {ret : Option FieldType} {rm : Room}
theorem cPo_end {H : Heap} {s t : State} {locs : List Loc} (ht : t.heap = H) (hR : RepM D X H) (hA : ∀ a, mK X a ≠ none → foot X0 a) (hS : va_S (foot X0) s.heap H locs) : cPo D X0 X s t := ⟨by rw [ht]; exact hR, hA, hS.F ht⟩
theorem g_ret_I {v : Int32} (B : Amb D (foot X0) ev own nm cc nL ret rm) (hret : ret = some .int) (hc : cs ≤ rm.cells) (hs : sl ≤ rm.slots) (d : decode cc pc = .ok (.ireturn, 1)) : Gd D (foot X0) ev (QF D ev X0 (.inr (some (vI v))) X rm) X cs sl pc L [vI v] := by
  obtain ⟨p, l, e9, R, s, m, args, below, meth, c9⟩ := ev
  intro H locs ls hR hA hS hl
  refine W.widen hc hs (vx_ret ?_)
  exact W.iret B.1 B.2.1 (B.2.2.2.2.2.2.1.trans hret) (fun t ht hW => ⟨some (vI v), rfl, rfl, cPo_end ht hR hA hS⟩) hS.2.2 d B.2.2.2.2.2.1
theorem g_ret_Z {v : Int32} (B : Amb D (foot X0) ev own nm cc nL ret rm) (hret : ret = some .boolean) (hv : v = 0 ∨ v = 1) (hc : cs ≤ rm.cells) (hs : sl ≤ rm.slots) (d : decode cc pc = .ok (.ireturn, 1)) : Gd D (foot X0) ev (QF D ev X0 (.inr (some (vI v))) X rm) X cs sl pc L [vI v] := by
  obtain ⟨p, l, e9, R, s, m, args, below, meth, c9⟩ := ev
  intro H locs ls hR hA hS hl
  refine W.widen hc hs (vx_ret ?_)
  exact W.zret B.1 B.2.1 (B.2.2.2.2.2.2.1.trans hret) (nar_Z hv).1 (fun t ht hW => ⟨some (vI v), rfl, rfl, cPo_end ht hR hA hS⟩) hS.2.2 d B.2.2.2.2.2.1
theorem g_ret_J {v : Int64} (B : Amb D (foot X0) ev own nm cc nL ret rm) (hret : ret = some .long) (hc : cs ≤ rm.cells) (hs : sl ≤ rm.slots) (d : decode cc pc = .ok (.lreturn, 1)) : Gd D (foot X0) ev (QF D ev X0 (.inr (some (vJ v))) X rm) X cs sl pc L [vJ v] := by
  obtain ⟨p, l, e9, R, s, m, args, below, meth, c9⟩ := ev
  intro H locs ls hR hA hS hl
  refine W.widen hc hs (vx_ret ?_)
  exact W.lret B.1 B.2.1 (B.2.2.2.2.2.2.1.trans hret) (fun t ht hW => ⟨some (vJ v), rfl, rfl, cPo_end ht hR hA hS⟩) hS.2.2 d B.2.2.2.2.2.1
theorem g_ret_A {v : Option Nat} {C : String} (B : Amb D (foot X0) ev own nm cc nL ret rm) (hret : ret = some (.object C)) (hc : cs ≤ rm.cells) (hs : sl ≤ rm.slots) (d : decode cc pc = .ok (.areturn, 1)) : Gd D (foot X0) ev (QF D ev X0 (.inr (some (vA v))) X rm) X cs sl pc L [vA v] := by
  obtain ⟨p, l, e9, R, s, m, args, below, meth, c9⟩ := ev
  intro H locs ls hR hA hS hl
  refine W.widen hc hs (vx_ret ?_)
  exact W.aret B.1 B.2.1 (B.2.2.2.2.2.2.1.trans hret) (Or.inl ⟨_, rfl⟩) (by cases v <;> first | exact Or.inl rfl | exact Or.inr ⟨_, rfl⟩) (fun t ht hW => ⟨some (vA v), rfl, rfl, cPo_end ht hR hA hS⟩) hS.2.2 d B.2.2.2.2.2.1
theorem g_ret_V (B : Amb D (foot X0) ev own nm cc nL ret rm) (hret : ret = none) (hc : cs ≤ rm.cells) (hs : sl ≤ rm.slots) (d : decode cc pc = .ok (.return_, 1)) : Gd D (foot X0) ev (QF D ev X0 (.inr none) X rm) X cs sl pc L [] := by
  obtain ⟨p, l, e9, R, s, m, args, below, meth, c9⟩ := ev
  intro H locs ls hR hA hS hl
  refine W.widen hc hs (vx_ret ?_)
  exact W.vret B.1 B.2.1 (B.2.2.2.2.2.2.1.trans hret) (fun t ht hW => ⟨none, rfl, rfl, cPo_end ht hR hA hS⟩) hS.2.2 d B.2.2.2.2.2.1
end GE
/-- what a call needs of its callee, whoever calls -/
def CalOK (y : MethodName) (cc : ByteArray) (nL : Nat) (ret : Option FieldType) (n : Nat) : Prop :=
  Cond.code y cc nL ret ∈ gd ∧ Cond.initialized y.cls ∈ gd ∧ (y.cls ≠ "java/lang/invoke/MethodHandle" ∧ y.cls ≠ "java/lang/invoke/VarHandle") ∧ (parseMethodDescriptor y.desc).map (fun d => d.parameters.length) = some n
theorem Ctr.met {D : DD} {l : Launch} {y : MethodName} {cc : ByteArray} {nL : Nat} {ret : Option FieldType} {rm : Room} {av : List TV} {X : Mem} {v : Option TV} {X' : Mem} (h : Ctr D l y cc nL ret rm av X (.inr v) X') : Met l y [Cond.code y cc nL ret] rm (cPc D av X) (cQc D X (.inr v) X') rm.cells rm.slots (foot X) := by
  intro p e ha hc hk s m args below hf happ hP hK
  obtain ⟨n, o, h1, h2, h3, h4⟩ := h p e ha hc hk s m args below hf happ hP hK
  refine ⟨n, o, h1, h2, h3, ?_⟩
  rcases h4 with h4 | ⟨q, -, E, ce, L, ⟨hx, -⟩, -⟩
  · exact h4
  · cases hx
section GC
variable {p : Program} {l : Launch} {e : Env} {R : Room} {s : State} {m : MethodId} {args : Array Value} {below : List Frame} {meth : Method} {c : Code} {H : Heap} {locs : List Loc}
variable {D : DD} {A0 : Nat → Prop} {ev : EV} {Q : State → Prop} {X X' : Mem} {cs sl pc : Nat} {L : List (Nat × TV)} {st : List TV} {own nm : String} {cc : ByteArray} {nL : Nat} {ret : Option FieldType} {rm : Room}
variable {y : MethodName} {cc2 : ByteArray} {nL2 n index : Nat} {ret2 : Option FieldType} {rm2 : Room} {As : List TV} {v : Option TV}
theorem callB (hAK : AK D s) (hc : CalOK y cc2 nL2 ret2 n) (hl : Cond.methodLink own index y ∈ gd) (hr : rm2.frames + 1 ≤ R.frames ∧ 8 + (nL2 + 11) + rm2.locals ≤ R.locals) : CallB R s args own index y cc2 nL2 ret2 [Cond.code y cc2 nL2 ret2] rm2 rm2.cells rm2.slots n := by
  refine ⟨rfl, rfl, hr.1, hr.2, fun w hw a' U hW => ?_, List.mem_cons_self, hAK.w hc.1, hAK.w hc.2.1, hc.2.2.1, fun sig h => ?_, hAK.w hl⟩
  · rw [List.mem_singleton.mp hw]
    exact word_at hW (good_of_word (List.mem_filter.mp hc.1).2) (hAK.w (a := args) hc.1)
  · have h2 := hc.2.2.2
    rw [h] at h2
    exact (Option.some.inj h2).symm
theorem callP (hA0 : ∀ q : Nat, s.heap.size ≤ q → A0 q) (hAK : AK D s) (hz : zU A0 s s.heap) (hR : RepM D X H) (hA : ∀ a, mK X a ≠ none → A0 a) (hS : va_S A0 s.heap H locs) (av : List TV) : ∀ U : State, U.heap = H → s.WarmedH U.vm → cPc D av X (tS av).toArray U := by
  intro U hU hW
  have hAB : ∀ q, foot X q → A0 q := fun q h => h.elim (hA q) (fun h => hA0 q (Nat.le_trans hS.1 (by rw [← hR.2]; exact h)))
  refine ⟨rfl, by rw [hU]; exact hR, hAK.warm hW, ?_, ?_⟩
  · rw [hU]
    exact ((hz.1.kept hS.2.1).narrow hAB).moved hW.alike
  · rw [hU]
    exact ((hz.2.kept hS.2.1).narrow hAB).moved hW.alike
/-- behind a call that has come back -/
theorem callK {mc ms : Nat} {g : JFrame} {ls : Array Slot} {st9 rest : List Value} (hA0 : ∀ q : Nat, s.heap.size ≤ q → A0 q) (hz : mZ X = H.size) (hA : ∀ a, mK X a ≠ none → A0 a) (hS : va_S A0 s.heap H locs) {av : Array Value}
    (hr : va_Run p l e R s m args below meth c H locs cs sl mc ms (F0 m pc ls st9) rest (cQc D X (.inr v) X' av) (foot X))
    (kk : ∀ (H1 : Heap) (locs1 : List Loc), RepM D X' H1 → (∀ a, mK X' a ≠ none → A0 a) → va_S A0 s.heap H1 locs1 → W p l e R s m args below meth c H1 locs1 (cs + mc) (sl + ms) Q (F0 m (pc + 3) ls ((v.map tv).toList ++ rest))) : W p l e R s m args below meth c H locs cs sl Q (F0 m pc ls st9) := by
  intro T hT X9
  have hAB : ∀ q, foot X q → A0 q := fun q h => h.elim (hA q) (fun h => hA0 q (Nat.le_trans hS.1 (by rw [← hz]; exact h)))
  obtain ⟨v9, st₀, t, T', L9, h0, X8, hL, e1, e2, ⟨v', hv', hv9, hp1, hp2, hp3⟩, st'⟩ := hr T hT X9
  cases hv'
  cases hv9
  obtain ⟨-, -, k3⟩ := vx_keep h0 e1 hS (fun q _ h => hAB q h) hAB hL hp3
  obtain ⟨t2, a1, b1⟩ := kk T'.heap (locs ++ L9) (by rw [e1]; exact hp1) (fun a h => hAB a (hp2 a h)) k3 T' rfl X8
  exact ⟨t2, st' t2 a1, b1⟩
theorem callX {mc ms : Nat} {g : JFrame} {ls : Array Slot} {st9 rest : List Value} (hA0 : ∀ q : Nat, s.heap.size ≤ q → A0 q) (hz : mZ X = H.size) (hA : ∀ a, mK X a ≠ none → A0 a) (hS : va_S A0 s.heap H locs) {av : Array Value}
    (hr : vx_Run p l e R s m args below meth c H locs cs sl mc ms (F0 m pc ls st9) rest (cQc D X (.inr v) X' av) (cXC D X (.inr v)) (foot X))
    (kk : ∀ (H1 : Heap) (locs1 : List Loc), RepM D X' H1 → (∀ a, mK X' a ≠ none → A0 a) → va_S A0 s.heap H1 locs1 → W p l e R s m args below meth c H1 locs1 (cs + mc) (sl + ms) Q (F0 m (pc + 3) ls ((v.map tv).toList ++ rest))) : W p l e R s m args below meth c H locs cs sl Q (F0 m pc ls st9) := by
  refine callK hA0 hz hA hS (av := av) (g := g) (v := v) ?_ kk
  intro T hT X9
  rcases hr T hT X9 with h | ⟨q, st₀, t, T', L9, E, ce, -, -, -, -, -, ⟨hx, -⟩, -⟩
  · exact h
  · cases hx
theorem tS_rev {As : List TV} {x : TV} : tS (As.reverse ++ x :: st) = (tS As).reverse ++ tv x :: tS st := by simp [tS]
theorem tS_rev' {As : List TV} : tS (As.reverse ++ st) = (tS As).reverse ++ tS st := by simp [tS]
theorem tS_out : (v.map tv).toList ++ tS st = tS (v.toList ++ st) := by cases v <;> rfl
/-- a call of a method by an object, that comes back -/
theorem g_callV {b ci n9 : Nat} (B : Amb D A0 ev own nm cc nL ret rm) (hc : CalOK y cc2 nL2 ret2 n) (hl : Cond.methodLink own index y ∈ gd) (hi : Cond.instanceMethod y ∈ gd) (hse : Cond.selects y.cls y y ∈ gd) (hk : mK X b = some (ci, n9)) (hci : ci < 13) (hcl : clC ci = y.cls)
    (hM : ∀ l, l.stackTraces = false → Ctr D l y cc2 nL2 ret2 rm2 (vA (some b) :: As) X (.inr v) X') (hn : As.length = n) (hw : tW st ≤ 8) (hr : rm2.frames + 1 ≤ rm.frames ∧ 8 + (nL2 + 11) + rm2.locals ≤ rm.locals) (hf : cs + rm2.cells ≤ rm.cells ∧ sl + rm2.slots ≤ rm.slots) (d : decode cc pc = .ok (.invokevirtual index, 3))
    (k9 : Gd D A0 ev Q X' (cs + rm2.cells) (sl + rm2.slots) (pc + 3) L (v.toList ++ st)) : Gd D A0 ev Q X cs sl pc L (As.reverse ++ vA (some b) :: st) := by
  obtain ⟨p, l, e9, R, s, m, args, below, meth, c9⟩ := ev
  intro H locs ls hR hA hS hl9
  have hRR : R = rm := B.2.2.2.2.2.2.2.1
  subst hRR
  obtain ⟨o1, -⟩ := clsOK ci hci
  rw [tS_rev]
  refine callX (g := F0 m pc ls []) (Q := Q) B.2.2.2.2.2.2.2.2.1 hR.2 hA hS (rest := tS st) (vx_runV (As := tS As) (rest := tS st) (C := y.cls) ⟨B.1, B.2.1, B.2.2.1, B.2.2.2.1, fun w hw => B.2.2.2.2.1.w hw⟩ (hM l B.2.2.2.2.2.2.2.2.2.1) ⟨callB B.2.2.2.2.1 hc hl hr, B.2.2.2.2.1.w hi, B.2.2.2.2.1.w hse⟩ ⟨cPc_blind, ?_, callP B.2.2.2.2.2.2.2.2.1 B.2.2.2.2.1 B.2.2.2.2.2.2.2.2.2.2.1 hR hA hS (vA (some b) :: As)⟩ rfl (by simpa [tS] using hn) (hl9.1.trans B.2.2.1) rfl (lv_room (m := m) (pc := pc) (ls := ls) (rest := []) (by rw [tW_sum]; exact hw)) d hf) (fun H1 locs1 h1 h2 h3 => ?_)
  · have h9 := va_recv (D := (D.1, D.2.1)) (cl := vwCl) (ws := [(b, .inr (ci, fsOf X ci b))]) B.2.2.2.2.1.1 (P1 (hR.objAt hk hci)) (ci := ci) (q0 := 0) o1 rfl
    obtain ⟨cell, g1, g2, g3⟩ := h9
    exact ⟨cell, g1, g2, by rw [← hcl]; exact g3⟩
  · rw [tS_out]
    exact k9 H1 locs1 ls h1 h2 h3 hl9
theorem g_callS (B : Amb D A0 ev own nm cc nL ret rm) (hc : CalOK y cc2 nL2 ret2 n) (hl : Cond.methodLink own index y ∈ gd) (hi : Cond.static y ∈ gd)
    (hM : ∀ l, l.stackTraces = false → Ctr D l y cc2 nL2 ret2 rm2 As X (.inr v) X') (hn : As.length = n) (hw : tW st ≤ 8) (hr : rm2.frames + 1 ≤ rm.frames ∧ 8 + (nL2 + 11) + rm2.locals ≤ rm.locals) (hf : cs + rm2.cells ≤ rm.cells ∧ sl + rm2.slots ≤ rm.slots) (d : decode cc pc = .ok (.invokestatic index, 3))
    (k9 : Gd D A0 ev Q X' (cs + rm2.cells) (sl + rm2.slots) (pc + 3) L (v.toList ++ st)) : Gd D A0 ev Q X cs sl pc L (As.reverse ++ st) := by
  obtain ⟨p, l, e9, R, s, m, args, below, meth, c9⟩ := ev
  intro H locs ls hR hA hS hl9
  have hRR : R = rm := B.2.2.2.2.2.2.2.1
  subst hRR
  rw [tS_rev']
  refine callX (g := F0 m pc ls []) (Q := Q) B.2.2.2.2.2.2.2.2.1 hR.2 hA hS (rest := tS st) (vx_runS (As := tS As) (rest := tS st) ⟨B.1, B.2.1, B.2.2.1, B.2.2.2.1, fun w hw => B.2.2.2.2.1.w hw⟩ (hM l B.2.2.2.2.2.2.2.2.2.1) ⟨callB B.2.2.2.2.1 hc hl hr, B.2.2.2.2.1.w hi⟩ ⟨cPc_blind, callP B.2.2.2.2.2.2.2.2.1 B.2.2.2.2.1 B.2.2.2.2.2.2.2.2.2.2.1 hR hA hS As⟩ rfl (by simpa [tS] using hn) (hl9.1.trans B.2.2.1) rfl (lv_room (m := m) (pc := pc) (ls := ls) (rest := []) (by rw [tW_sum]; exact hw)) d hf) (fun H1 locs1 h1 h2 h3 => ?_)
  rw [tS_out]
  exact k9 H1 locs1 ls h1 h2 h3 hl9
theorem g_callI {b : Nat} (B : Amb D A0 ev own nm cc nL ret rm) (hc : CalOK y cc2 nL2 none n) (hl : Cond.methodLink own index y ∈ gd) (hi : Cond.instanceMethod y ∈ gd) (hyn : y.name = "<init>")
    (hM : ∀ l, l.stackTraces = false → Ctr D l y cc2 nL2 none rm2 (vA (some b) :: As) X (.inr none) X') (hn : As.length = n) (hw : tW st ≤ 8) (hr : rm2.frames + 1 ≤ rm.frames ∧ 8 + (nL2 + 11) + rm2.locals ≤ rm.locals) (hf : cs + rm2.cells ≤ rm.cells ∧ sl + rm2.slots ≤ rm.slots) (d : decode cc pc = .ok (.invokespecial index, 3))
    (k9 : Gd D A0 ev Q X' (cs + rm2.cells) (sl + rm2.slots) (pc + 3) L st) : Gd D A0 ev Q X cs sl pc L (As.reverse ++ vA (some b) :: st) := by
  obtain ⟨p, l, e9, R, s, m, args, below, meth, c9⟩ := ev
  intro H locs ls hR hA hS hl9
  have hRR : R = rm := B.2.2.2.2.2.2.2.1
  subst hRR
  rw [tS_rev]
  exact callK (g := F0 m pc ls []) (Q := Q) (v := none) B.2.2.2.2.2.2.2.2.1 hR.2 hA hS (rest := tS st) (va_runI (As := tS As) (rest := tS st) (b := b) ⟨B.1, B.2.1, B.2.2.1, B.2.2.2.1, fun w hw => B.2.2.2.2.1.w hw⟩ (hM l B.2.2.2.2.2.2.2.2.2.1).met ⟨callB B.2.2.2.2.1 hc hl hr, hyn, B.2.2.2.2.1.w hi⟩ ⟨cPc_blind, callP B.2.2.2.2.2.2.2.2.1 B.2.2.2.2.1 B.2.2.2.2.2.2.2.2.2.2.1 hR hA hS (vA (some b) :: As)⟩ rfl (by simpa [tS] using hn) (hl9.1.trans B.2.2.1) rfl (lv_room (m := m) (pc := pc) (ls := ls) (rest := []) (by rw [tW_sum]; exact hw)) d hf) (fun H1 locs1 h1 h2 h3 => k9 H1 locs1 ls h1 h2 h3 hl9)
theorem callN {host : String} (hAK : AK D s) (hc : CalOK y cc2 nL2 ret2 n) (hl : Cond.methodLinkNest own index y host ∈ nestW) (hr : rm2.frames + 1 ≤ R.frames ∧ 8 + (nL2 + 11) + rm2.locals ≤ R.locals) : va_CN R s args own index y host cc2 nL2 ret2 [Cond.code y cc2 nL2 ret2] rm2 rm2.cells rm2.slots n := by
  refine ⟨⟨rfl, rfl, hr.1, hr.2, fun w hw a' U hW => ?_, List.mem_cons_self⟩, hAK.w hc.1, hAK.w hc.2.1, hc.2.2.1, fun sig h => ?_, va_Nw.use rfl (hAK.2.2.1 _ hl)⟩
  · rw [List.mem_singleton.mp hw]
    exact word_at hW (good_of_word (List.mem_filter.mp hc.1).2) (hAK.w (a := args) hc.1)
  · have h2 := hc.2.2.2
    rw [h] at h2
    exact (Option.some.inj h2).symm
theorem g_callSN {host : String} (B : Amb D A0 ev own nm cc nL ret rm) (hc : CalOK y cc2 nL2 ret2 n) (hl : Cond.methodLinkNest own index y host ∈ nestW) (hi : Cond.static y ∈ gd)
    (hM : ∀ l, l.stackTraces = false → Ctr D l y cc2 nL2 ret2 rm2 As X (.inr v) X') (hn : As.length = n) (hw : tW st ≤ 8) (hr : rm2.frames + 1 ≤ rm.frames ∧ 8 + (nL2 + 11) + rm2.locals ≤ rm.locals) (hf : cs + rm2.cells ≤ rm.cells ∧ sl + rm2.slots ≤ rm.slots) (d : decode cc pc = .ok (.invokestatic index, 3))
    (k9 : Gd D A0 ev Q X' (cs + rm2.cells) (sl + rm2.slots) (pc + 3) L (v.toList ++ st)) : Gd D A0 ev Q X cs sl pc L (As.reverse ++ st) := by
  obtain ⟨p, l, e9, R, s, m, args, below, meth, c9⟩ := ev
  intro H locs ls hR hA hS hl9
  have hRR : R = rm := B.2.2.2.2.2.2.2.1
  subst hRR
  rw [tS_rev']
  refine callK (g := F0 m pc ls []) (Q := Q) B.2.2.2.2.2.2.2.2.1 hR.2 hA hS (rest := tS st) (va_runSN (As := tS As) (rest := tS st) ⟨B.1, B.2.1, B.2.2.1, B.2.2.2.1, fun w hw => B.2.2.2.2.1.w hw⟩ (hM l B.2.2.2.2.2.2.2.2.2.1).met ⟨callN B.2.2.2.2.1 hc hl hr, B.2.2.2.2.1.w hi, trivial⟩ ⟨cPc_blind, callP B.2.2.2.2.2.2.2.2.1 B.2.2.2.2.1 B.2.2.2.2.2.2.2.2.2.2.1 hR hA hS As⟩ rfl (by simpa [tS] using hn) (hl9.1.trans B.2.2.1) rfl (lv_room (m := m) (pc := pc) (ls := ls) (rest := []) (by rw [tW_sum]; exact hw)) d hf) (fun H1 locs1 h1 h2 h3 => ?_)
  rw [tS_out]
  exact k9 H1 locs1 ls h1 h2 h3 hl9
theorem g_callIN {b : Nat} {host : String} (B : Amb D A0 ev own nm cc nL ret rm) (hc : CalOK y cc2 nL2 none n) (hl : Cond.methodLinkNest own index y host ∈ nestW) (hi : Cond.instanceMethod y ∈ gd) (hyn : y.name = "<init>")
    (hM : ∀ l, l.stackTraces = false → Ctr D l y cc2 nL2 none rm2 (vA (some b) :: As) X (.inr none) X') (hn : As.length = n) (hw : tW st ≤ 8) (hr : rm2.frames + 1 ≤ rm.frames ∧ 8 + (nL2 + 11) + rm2.locals ≤ rm.locals) (hf : cs + rm2.cells ≤ rm.cells ∧ sl + rm2.slots ≤ rm.slots) (d : decode cc pc = .ok (.invokespecial index, 3))
    (k9 : Gd D A0 ev Q X' (cs + rm2.cells) (sl + rm2.slots) (pc + 3) L st) : Gd D A0 ev Q X cs sl pc L (As.reverse ++ vA (some b) :: st) := by
  obtain ⟨p, l, e9, R, s, m, args, below, meth, c9⟩ := ev
  intro H locs ls hR hA hS hl9
  have hRR : R = rm := B.2.2.2.2.2.2.2.1
  subst hRR
  rw [tS_rev]
  exact callK (g := F0 m pc ls []) (Q := Q) (v := none) B.2.2.2.2.2.2.2.2.1 hR.2 hA hS (rest := tS st) (va_runIN (As := tS As) (rest := tS st) (b := b) ⟨B.1, B.2.1, B.2.2.1, B.2.2.2.1, fun w hw => B.2.2.2.2.1.w hw⟩ (hM l B.2.2.2.2.2.2.2.2.2.1).met ⟨callN B.2.2.2.2.1 hc hl hr, hyn, B.2.2.2.2.1.w hi⟩ ⟨cPc_blind, callP B.2.2.2.2.2.2.2.2.1 B.2.2.2.2.1 B.2.2.2.2.2.2.2.2.2.2.1 hR hA hS (vA (some b) :: As)⟩ rfl (by simpa [tS] using hn) (hl9.1.trans B.2.2.1) rfl (lv_room (m := m) (pc := pc) (ls := ls) (rest := []) (by rw [tW_sum]; exact hw)) d hf) (fun H1 locs1 h1 h2 h3 => k9 H1 locs1 ls h1 h2 h3 hl9)
end GC
/-! a call that throws: it goes on to the caller; a throw of one's own -/
section GX
variable {D : DD} {A0 : Nat → Prop} {ev : EV} {Q : State → Prop} {X X' : Mem} {cs sl pc : Nat} {L : List (Nat × TV)} {st : List TV} {own nm : String} {cc : ByteArray} {nL : Nat} {ret : Option FieldType} {rm : Room}
variable {y : MethodName} {cc2 : ByteArray} {nL2 n index : Nat} {ret2 : Option FieldType} {rm2 : Room} {As : List TV}
/-- the frame's judgement with an exception of the class E over it -/
def Gx (D : DD) (A0 : Nat → Prop) (ev : EV) (Q : State → Prop) (X : Mem) (E : String) (cs sl pc : Nat) (L : List (Nat × TV)) (st : List TV) : Prop := match ev with
  | (p, l, e, R, s, m, args, below, meth, c) => ∀ (H : Heap) (locs : List Loc) (ls : Array Slot) (q : Nat) (ce : Cell), (∃ z, RepM D (zM X z) H) → (∀ a, mK X a ≠ none → A0 a) → va_S A0 s.heap H locs → lv_has ls c.maxLocals (tL L) → H[q]? = some ce → ce.vm = .none → s.vm.findClass E = some ce.cls → vx_W p l e R s m args below meth c H locs cs sl Q (F0 m pc ls (tS st)) q
theorem callXT {p : Program} {l : Launch} {e : Env} {R : Room} {s : State} {m : MethodId} {args : Array Value} {below : List Frame} {meth : Method} {c : Code} {H : Heap} {locs : List Loc} {mc ms : Nat} {ls : Array Slot} {st9 rest : List Value} {E : String} (hA0 : ∀ q : Nat, s.heap.size ≤ q → A0 q) (hz : mZ X = H.size) (hA : ∀ a, mK X a ≠ none → A0 a) (hS : va_S A0 s.heap H locs) {av : Array Value}
    (hr : vx_Run p l e R s m args below meth c H locs cs sl mc ms (F0 m pc ls st9) rest (cQc D X (.inl E) X' av) (cXC D X (.inl E)) (foot X))
    (kk : ∀ (H1 : Heap) (locs1 : List Loc) (q : Nat) (ce : Cell), (∃ z, RepM D (zM X z) H1) → va_S A0 s.heap H1 locs1 → H1[q]? = some ce → ce.vm = .none → s.vm.findClass E = some ce.cls → vx_W p l e R s m args below meth c H1 locs1 (cs + mc) (sl + ms) Q (F0 m pc ls rest) q) : W p l e R s m args below meth c H locs cs sl Q (F0 m pc ls st9) := by
  intro T hT X9
  have hAB : ∀ q, foot X q → A0 q := fun q h => h.elim (hA q) (fun h => hA0 q (Nat.le_trans hS.1 (by rw [← hz]; exact h)))
  rcases hr T hT X9 with ⟨v9, st₀, t, T', L9, h0, X8, hL, e1, e2, ⟨v', hv', -⟩, -⟩ | ⟨q, st₀, t, T', L9, E', ce, h0, X8, hL, e1, e2, ⟨hx, ⟨z, hz9⟩, hp3⟩, hce, hcv, hcl, st'⟩
  · cases hv'
  · cases hx
    obtain ⟨-, -, k3⟩ := vx_keep h0 e1 hS (fun q _ h => hAB q h) hAB hL hp3
    obtain ⟨t2, a1, b1⟩ := kk T'.heap (locs ++ L9) q ce ⟨z, by rw [e1]; exact hz9⟩ k3 (by rw [e1]; exact hce) hcv hcl T' rfl X8
    exact ⟨t2, st'.trans a1, b1⟩
theorem g_callVT {b ci n9 : Nat} {E : String} (B : Amb D A0 ev own nm cc nL ret rm) (hc : CalOK y cc2 nL2 ret2 n) (hl : Cond.methodLink own index y ∈ gd) (hi : Cond.instanceMethod y ∈ gd) (hse : Cond.selects y.cls y y ∈ gd) (hk : mK X b = some (ci, n9)) (hci : ci < 13) (hcl : clC ci = y.cls)
    (hM : ∀ l, l.stackTraces = false → Ctr D l y cc2 nL2 ret2 rm2 (vA (some b) :: As) X (.inl E) X') (hn : As.length = n) (hw : tW st ≤ 8) (hr : rm2.frames + 1 ≤ rm.frames ∧ 8 + (nL2 + 11) + rm2.locals ≤ rm.locals) (hf : cs + rm2.cells ≤ rm.cells ∧ sl + rm2.slots ≤ rm.slots) (d : decode cc pc = .ok (.invokevirtual index, 3))
    (k9 : Gx D A0 ev Q X E (cs + rm2.cells) (sl + rm2.slots) pc L st) : Gd D A0 ev Q X cs sl pc L (As.reverse ++ vA (some b) :: st) := by
  obtain ⟨p, l, e9, R, s, m, args, below, meth, c9⟩ := ev
  intro H locs ls hR hA hS hl9
  have hRR : R = rm := B.2.2.2.2.2.2.2.1
  subst hRR
  obtain ⟨o1, -⟩ := clsOK ci hci
  rw [tS_rev]
  refine callXT (Q := Q) B.2.2.2.2.2.2.2.2.1 hR.2 hA hS (rest := tS st) (vx_runV (As := tS As) (rest := tS st) (C := y.cls) ⟨B.1, B.2.1, B.2.2.1, B.2.2.2.1, fun w hw => B.2.2.2.2.1.w hw⟩ (hM l B.2.2.2.2.2.2.2.2.2.1) ⟨callB B.2.2.2.2.1 hc hl hr, B.2.2.2.2.1.w hi, B.2.2.2.2.1.w hse⟩ ⟨cPc_blind, ?_, callP B.2.2.2.2.2.2.2.2.1 B.2.2.2.2.1 B.2.2.2.2.2.2.2.2.2.2.1 hR hA hS (vA (some b) :: As)⟩ rfl (by simpa [tS] using hn) (hl9.1.trans B.2.2.1) rfl (lv_room (m := m) (pc := pc) (ls := ls) (rest := []) (by rw [tW_sum]; exact hw)) d hf) (fun H1 locs1 q ce h1 h3 g1 g2 g3 => k9 H1 locs1 ls q ce h1 hA h3 hl9 g1 g2 g3)
  have h9 := va_recv (D := (D.1, D.2.1)) (cl := vwCl) (ws := [(b, .inr (ci, fsOf X ci b))]) B.2.2.2.2.1.1 (P1 (hR.objAt hk hci)) (ci := ci) (q0 := 0) o1 rfl
  obtain ⟨cell, g1, g2, g3⟩ := h9
  exact ⟨cell, g1, g2, by rw [← hcl]; exact g3⟩
theorem g_callST {E : String} (B : Amb D A0 ev own nm cc nL ret rm) (hc : CalOK y cc2 nL2 ret2 n) (hl : Cond.methodLink own index y ∈ gd) (hi : Cond.static y ∈ gd)
    (hM : ∀ l, l.stackTraces = false → Ctr D l y cc2 nL2 ret2 rm2 As X (.inl E) X') (hn : As.length = n) (hw : tW st ≤ 8) (hr : rm2.frames + 1 ≤ rm.frames ∧ 8 + (nL2 + 11) + rm2.locals ≤ rm.locals) (hf : cs + rm2.cells ≤ rm.cells ∧ sl + rm2.slots ≤ rm.slots) (d : decode cc pc = .ok (.invokestatic index, 3))
    (k9 : Gx D A0 ev Q X E (cs + rm2.cells) (sl + rm2.slots) pc L st) : Gd D A0 ev Q X cs sl pc L (As.reverse ++ st) := by
  obtain ⟨p, l, e9, R, s, m, args, below, meth, c9⟩ := ev
  intro H locs ls hR hA hS hl9
  have hRR : R = rm := B.2.2.2.2.2.2.2.1
  subst hRR
  rw [tS_rev']
  exact callXT (Q := Q) B.2.2.2.2.2.2.2.2.1 hR.2 hA hS (rest := tS st) (vx_runS (As := tS As) (rest := tS st) ⟨B.1, B.2.1, B.2.2.1, B.2.2.2.1, fun w hw => B.2.2.2.2.1.w hw⟩ (hM l B.2.2.2.2.2.2.2.2.2.1) ⟨callB B.2.2.2.2.1 hc hl hr, B.2.2.2.2.1.w hi⟩ ⟨cPc_blind, callP B.2.2.2.2.2.2.2.2.1 B.2.2.2.2.1 B.2.2.2.2.2.2.2.2.2.2.1 hR hA hS As⟩ rfl (by simpa [tS] using hn) (hl9.1.trans B.2.2.1) rfl (lv_room (m := m) (pc := pc) (ls := ls) (rest := []) (by rw [tW_sum]; exact hw)) d hf) (fun H1 locs1 q ce h1 h3 g1 g2 g3 => k9 H1 locs1 ls q ce h1 hA h3 hl9 g1 g2 g3)
end GX
theorem zM_K {X : Mem} {z : Nat} : mK (zM X z) = mK X := rfl
/-- not caught here -/
theorem g_out {D : DD} {ev : EV} {X : Mem} {X' : Mem} {E : String} {cs sl pc : Nat} {L : List (Nat × TV)} {st : List TV} {own nm : String} {cc : ByteArray} {nL : Nat} {ret : Option FieldType} {rm : Room} (B : Amb D (foot X) ev own nm cc nL ret rm) (ht : Tb0 ev) (hc : cs ≤ rm.cells) (hs : sl ≤ rm.slots) : Gx D (foot X) ev (QF D ev X (.inl E) X' rm) X E cs sl pc L st := by
  obtain ⟨p, l, e9, R, s, m, args, below, meth, c9⟩ := ev
  intro H locs ls q ce hR hA hS hl hce hcv hcl
  exact vx_out (fun x hx => (ht x hx).elim) B.2.2.2.2.2.1 hce hcv hcl (fun t h1 h2 => ⟨rfl, by rw [h1]; exact hR, hS.F h1⟩) hS.2.2 hc hs
end
section
/-! 'throw new X("text")' in the class TurtleChalk -/
abbrev nmsX : List String := ["java/lang/RuntimeException", "java/lang/Exception"]
def ThrOK (cls : String) (ic : Nat) : Prop := Bundle.fit cls = true ∧ (∀ n ∈ nmsX, Bundle.fit n = true) ∧ (∀ w ∈ vx_atS RX11 ic cls nmsX, w ∈ gd ∨ w ∈ castW ∨ w ∈ declW) ∧ (∀ w ∈ vx_atS RX11 ic cls nmsX, vx_ot w = true)
set_option maxRecDepth 20000 in
theorem thrA : ThrOK "java/lang/IllegalArgumentException" 184 := ⟨by decide +kernel, by decide +kernel, by decide +kernel, by decide +kernel⟩
set_option maxRecDepth 20000 in
theorem thrB : ThrOK "java/lang/IndexOutOfBoundsException" 208 := ⟨by decide +kernel, by decide +kernel, by decide +kernel, by decide +kernel⟩
set_option maxRecDepth 20000 in
theorem thrS : ThrOK "java/lang/IllegalStateException" 89 := ⟨by decide +kernel, by decide +kernel, by decide +kernel, by decide +kernel⟩
theorem castW_t : ∀ w ∈ castW, w.onTables = true := by decide +kernel
theorem declW_t : ∀ w ∈ declW, w.onTables = true := by decide +kernel
theorem RepM.grown {D : DD} {X : Mem} {H H1 : Heap} (h : RepM D X H) (oq : ∀ q : Nat, q < H.size → H1[q]? = H[q]?) : RepM D (zM X H1.size) H1 :=
  ⟨fun a c n hk => ⟨(h.1 a c n hk).1, (h.1 a c n hk).2.kept (oq a (h.1 a c n hk).2.lt)⟩, rfl⟩
section GT
variable {D : DD} {ev : EV} {X : Mem} {cs sl pc : Nat} {L : List (Nat × TV)} {st : List TV} {nm : String} {cc : ByteArray} {nL : Nat} {ret : Option FieldType} {rm : Room}
theorem thr_at {cls : String} {ic : Nat} {s : State} {args : Array Value} (hT : ThrOK cls ic) (hAK : AK D s) : ∀ w ∈ vx_atS RX11 ic cls nmsX, w.before args s = true := by
  intro w hw
  rcases hT.2.2.1 w hw with h | h | h
  · exact hAK.w h
  · exact va_Nw.use (castW_t w h) (hAK.2.2.2.2.1 w h)
  · exact va_Nw.use (declW_t w h) (hAK.2.2.2.2.2.1 w h)
theorem thr_ot {w : Cond} (h : w ∈ gd) (ht : w.onTables = true) : vx_ot w = true := by unfold vx_ot; rw [ht]; rfl
theorem g_throwS {cls text : String} {ik is ic : Nat} {X' : Mem} (B : Amb D (foot X) ev RX11 nm cc nL ret rm) (ht : Tb0 ev) (hT : ThrOK cls ic) (hk : Cond.classLink RX11 ik cls ∈ gd) (hini : Cond.initialized cls ∈ gd) (hstr : (is, text) ∈ strW)
    (d0 : decode cc pc = .ok (.new ik, 3)) (d3 : decode cc (pc + 3) = .ok (.dup, 1)) (d4 : decode cc (pc + 4) = .ok (.ldc is, 2)) (d6 : decode cc (pc + 6) = .ok (.invokespecial ic, 3)) (d9 : decode cc (pc + 9) = .ok (.athrow, 1)) (hw : tW st + 82 ≤ rm.locals) (hfr : 5 < rm.frames) (hcs : cs + 1 ≤ rm.cells) (hsl : sl + 6 ≤ rm.slots) : Gd D (foot X) ev (QF D ev X (.inl cls) X' rm) X cs sl pc L st := by
  obtain ⟨p, l, e9, R, s, m, args, below, meth, c9⟩ := ev
  intro H locs ls hR hA hS hl
  have hRR : R = rm := B.2.2.2.2.2.2.2.1
  subst hRR
  have hAK := B.2.2.2.2.1
  obtain ⟨sa, hsa⟩ := hAK.2.2.2.1 _ hstr
  refine vx_throwS (names := nmsX) (A := foot X) B.1 B.2.1 B.2.2.2.2.2.2.2.2.2.1 B.2.2.2.1 hT.1 hT.2.1 (hAK.w hk) (hAK.w hini) hsa (thr_at hT hAK) (fun w hw => ?_) B.2.2.2.2.2.2.2.2.2.2.1.1 B.2.2.2.2.2.2.2.2.2.2.1.2 hS hl.1 d0 d3 d4 d6 d9 (fun x hx => (ht x hx).elim) hfr (by rw [tW_sum]; exact hw) hcs hsl B.2.2.2.2.2.1 (fun t h1 h2 h3 => ⟨rfl, ⟨t.heap.size, hR.grown h3⟩, Nat.le_trans hS.1 h2, fun q g1 g2 => (h3 q (Nat.lt_of_lt_of_le g1 hS.1)).trans (hS.2.1 q g1 g2)⟩) hS.2.2 hcs hsl
  rcases List.mem_cons.mp hw with rfl | hw
  · rfl
  · rcases List.mem_cons.mp hw with rfl | hw
    · rfl
    · exact hT.2.2.2 w hw
theorem g_throwW {cls text : String} {ik is ic : Nat} {X' : Mem} (B : Amb D (foot X) ev RX11 nm cc nL ret rm) (ht : Tb0 ev) (hT : ThrOK cls ic) (hk : Cond.classLink RX11 ik cls ∈ gd) (hini : Cond.initialized cls ∈ gd) (hstr : (is, text) ∈ strW)
    (d0 : decode cc pc = .ok (.new ik, 3)) (d3 : decode cc (pc + 3) = .ok (.dup, 1)) (d4 : decode cc (pc + 4) = .ok (.ldc_w is, 3)) (d7 : decode cc (pc + 7) = .ok (.invokespecial ic, 3)) (d10 : decode cc (pc + 10) = .ok (.athrow, 1)) (hw : tW st + 82 ≤ rm.locals) (hfr : 5 < rm.frames) (hcs : cs + 1 ≤ rm.cells) (hsl : sl + 6 ≤ rm.slots) : Gd D (foot X) ev (QF D ev X (.inl cls) X' rm) X cs sl pc L st := by
  obtain ⟨p, l, e9, R, s, m, args, below, meth, c9⟩ := ev
  intro H locs ls hR hA hS hl
  have hRR : R = rm := B.2.2.2.2.2.2.2.1
  subst hRR
  have hAK := B.2.2.2.2.1
  obtain ⟨sa, hsa⟩ := hAK.2.2.2.1 _ hstr
  refine vx_throwSW (names := nmsX) (A := foot X) B.1 B.2.1 B.2.2.2.2.2.2.2.2.2.1 B.2.2.2.1 hT.1 hT.2.1 (hAK.w hk) (hAK.w hini) hsa (thr_at hT hAK) (fun w hw => ?_) B.2.2.2.2.2.2.2.2.2.2.1.1 B.2.2.2.2.2.2.2.2.2.2.1.2 hS hl.1 d0 d3 d4 d7 d10 (fun x hx => (ht x hx).elim) hfr (by rw [tW_sum]; exact hw) hcs hsl B.2.2.2.2.2.1 (fun t h1 h2 h3 => ⟨rfl, ⟨t.heap.size, hR.grown h3⟩, Nat.le_trans hS.1 h2, fun q g1 g2 => (h3 q (Nat.lt_of_lt_of_le g1 hS.1)).trans (hS.2.1 q g1 g2)⟩) hS.2.2 hcs hsl
  rcases List.mem_cons.mp hw with rfl | hw
  · rfl
  · rcases List.mem_cons.mp hw with rfl | hw
    · rfl
    · exact hT.2.2.2 w hw
end GT
end
section
/-! COMBINATORS of the functions read off the bytecode, and rows that follow them -/
def bW {α β γ : Type} (o : Option (α × β)) (k : α → β → Option γ) : Option γ := match o with
  | none => none
  | some (a, b) => k a b
def bE {α β : Type} (o : Option (String ⊕ α)) (k : α → Option (String ⊕ β)) : Option (String ⊕ β) := match o with
  | none => none
  | some (.inl E) => some (.inl E)
  | some (.inr a) => k a
def bEW {α β γ : Type} (o : Option (String ⊕ (α × β))) (k : α → β → Option (String ⊕ γ)) : Option (String ⊕ γ) := match o with
  | none => none
  | some (.inl E) => some (.inl E)
  | some (.inr (a, b)) => k a b
def oT {α : Type} (g : α → Option TV) : String ⊕ α → String ⊕ Option TV := fun r => match r with
  | .inl E => .inl E
  | .inr a => .inr (g a)
def xT {α : Type} (X0 : Mem) (g : α → Mem) : String ⊕ α → Mem := fun r => match r with
  | .inl _ => X0
  | .inr a => g a
theorem ob {α β : Type} {o : Option α} {k : α → Option β} {r : β} (h : Option.bind o k = some r) : ∃ a, o = some a ∧ k a = some r := by
  cases o with
  | none => exact nomatch h
  | some a => exact ⟨a, rfl, h⟩
theorem obW {α β γ : Type} {o : Option (α × β)} {k : α → β → Option γ} {r : γ} (h : bW o k = some r) : ∃ a b, o = some (a, b) ∧ k a b = some r := by
  match o, h with
  | none, h => exact nomatch h
  | some (a, b), h => exact ⟨a, b, rfl, h⟩
theorem bE_c {α β : Type} {o : Option (String ⊕ α)} {k : α → Option (String ⊕ β)} {r : String ⊕ β} (h : bE o k = some r) : (∃ E, o = some (.inl E) ∧ r = .inl E) ∨ ∃ a, o = some (.inr a) ∧ k a = some r := by
  match o, h with
  | none, h => exact nomatch h
  | some (.inl E), h => exact Or.inl ⟨E, rfl, (Option.some.inj h).symm⟩
  | some (.inr a), h => exact Or.inr ⟨a, rfl, h⟩
theorem bEW_c {α β γ : Type} {o : Option (String ⊕ (α × β))} {k : α → β → Option (String ⊕ γ)} {r : String ⊕ γ} (h : bEW o k = some r) : (∃ E, o = some (.inl E) ∧ r = .inl E) ∨ ∃ a b, o = some (.inr (a, b)) ∧ k a b = some r := by
  match o, h with
  | none, h => exact nomatch h
  | some (.inl E), h => exact Or.inl ⟨E, rfl, (Option.some.inj h).symm⟩
  | some (.inr (a, b)), h => exact Or.inr ⟨a, b, rfl, h⟩
theorem chk {α : Type} {c : Prop} {hd : Decidable c} {x : Option α} {r : α} (h : (if c then x else none) = some r) : c ∧ x = some r := by
  by_cases hc : c
  · rw [if_pos hc] at h; exact ⟨hc, h⟩
  · rw [if_neg hc] at h; exact nomatch h
theorem chkN {α : Type} {c : Prop} {hd : Decidable c} {x : Option α} {r : α} (h : (if c then none else x) = some r) : ¬ c ∧ x = some r := by
  by_cases hc : c
  · rw [if_pos hc] at h; exact nomatch h
  · rw [if_neg hc] at h; exact ⟨hc, h⟩
def inb (X : Mem) (t a : Nat) (i : Int32) : Bool := match mK X a with
  | some (c, n) => (c == 20 + t) && !(decide (i < 0)) && decide (i.toNatClampNeg < n)
  | none => false
theorem inb_s {X : Mem} {t a : Nat} {i : Int32} (h : inb X t a i = true) : ∃ n, mK X a = some (20 + t, n) ∧ vp_in i n := by
  unfold inb at h
  split at h
  · rename_i c n e
    simp only [Bool.and_eq_true, beq_iff_eq, Bool.not_eq_true', decide_eq_false_iff_not, decide_eq_true_eq] at h
    obtain ⟨⟨h1, h2⟩, h3⟩ := h
    subst h1
    exact ⟨n, e, fun q => q.elim h2 (fun q => by omega)⟩
  · exact nomatch h
def alen (X : Mem) (a : Nat) : Option Nat := match mK X a with
  | some (c, n) => if 20 ≤ c ∧ c < 27 then some n else none
  | none => none
theorem alen_s {X : Mem} {a n : Nat} (h : alen X a = some n) : ∃ t, mK X a = some (20 + t, n) ∧ t < 7 := by
  unfold alen at h
  split at h
  · rename_i c n' e
    obtain ⟨hc, h⟩ := chk h
    cases h
    exact ⟨c - 20, by rw [e, show 20 + (c - 20) = c by omega], by omega⟩
  · exact nomatch h
section HC
variable {D : DD} {A0 : Nat → Prop} {ev : EV} {Q : State → Prop} {X X' : Mem} {cs sl pc : Nat} {L : List (Nat × TV)} {st st9 st10 : List TV} {own nm : String} {cc : ByteArray} {nL : Nat} {ret : Option FieldType} {rm : Room}
variable {y : MethodName} {cc2 : ByteArray} {nL2 n index : Nat} {ret2 : Option FieldType} {rm2 : Room} {As : List TV} {v : Option TV}
theorem h_callV {b ci n9 : Nat} {cs' sl' : Nat} (B : Amb D A0 ev own nm cc nL ret rm) (hc : CalOK y cc2 nL2 ret2 n) (hl : Cond.methodLink own index y ∈ gd) (hi : Cond.instanceMethod y ∈ gd) (hse : Cond.selects y.cls y y ∈ gd) (hk : mK X b = some (ci, n9)) (hci : ci < 13) (hcl : clC ci = y.cls) (hM : ∀ l, l.stackTraces = false → Ctr D l y cc2 nL2 ret2 rm2 (vA (some b) :: As) X (.inr v) X') (hn : As.length = n) (hw : tW st ≤ 8) (hr : rm2.frames + 1 ≤ rm.frames ∧ 8 + (nL2 + 11) + rm2.locals ≤ rm.locals) (hf : cs + rm2.cells ≤ rm.cells ∧ sl + rm2.slots ≤ rm.slots) (d : decode cc pc = .ok (.invokevirtual index, 3)) (e9 : As.reverse ++ vA (some b) :: st = st9) (ec : cs + rm2.cells = cs') (es : sl + rm2.slots = sl') (e10 : v.toList ++ st = st10) (k9 : Gd D A0 ev Q X' cs' sl' (pc + 3) L st10) : Gd D A0 ev Q X cs sl pc L st9 := by
  subst e9; subst ec; subst es; subst e10
  exact g_callV B hc hl hi hse hk hci hcl hM hn hw hr hf d k9
theorem h_callVT {b ci n9 : Nat} {E : String} (B : Amb D A0 ev own nm cc nL ret rm) (hc : CalOK y cc2 nL2 ret2 n) (hl : Cond.methodLink own index y ∈ gd) (hi : Cond.instanceMethod y ∈ gd) (hse : Cond.selects y.cls y y ∈ gd) (hk : mK X b = some (ci, n9)) (hci : ci < 13) (hcl : clC ci = y.cls) (hM : ∀ l, l.stackTraces = false → Ctr D l y cc2 nL2 ret2 rm2 (vA (some b) :: As) X (.inl E) X') (hn : As.length = n) (hw : tW st ≤ 8) (hr : rm2.frames + 1 ≤ rm.frames ∧ 8 + (nL2 + 11) + rm2.locals ≤ rm.locals) (hf : cs + rm2.cells ≤ rm.cells ∧ sl + rm2.slots ≤ rm.slots) (d : decode cc pc = .ok (.invokevirtual index, 3)) (e9 : As.reverse ++ vA (some b) :: st = st9) (k9 : Gx D A0 ev Q X E (cs + rm2.cells) (sl + rm2.slots) pc L st) : Gd D A0 ev Q X cs sl pc L st9 := by
  subst e9
  exact g_callVT B hc hl hi hse hk hci hcl hM hn hw hr hf d k9
theorem h_callS {cs' sl' : Nat} (B : Amb D A0 ev own nm cc nL ret rm) (hc : CalOK y cc2 nL2 ret2 n) (hl : Cond.methodLink own index y ∈ gd) (hi : Cond.static y ∈ gd) (hM : ∀ l, l.stackTraces = false → Ctr D l y cc2 nL2 ret2 rm2 As X (.inr v) X') (hn : As.length = n) (hw : tW st ≤ 8) (hr : rm2.frames + 1 ≤ rm.frames ∧ 8 + (nL2 + 11) + rm2.locals ≤ rm.locals) (hf : cs + rm2.cells ≤ rm.cells ∧ sl + rm2.slots ≤ rm.slots) (d : decode cc pc = .ok (.invokestatic index, 3)) (e9 : As.reverse ++ st = st9) (ec : cs + rm2.cells = cs') (es : sl + rm2.slots = sl') (e10 : v.toList ++ st = st10) (k9 : Gd D A0 ev Q X' cs' sl' (pc + 3) L st10) : Gd D A0 ev Q X cs sl pc L st9 := by
  subst e9; subst ec; subst es; subst e10
  exact g_callS B hc hl hi hM hn hw hr hf d k9
theorem h_callST {E : String} (B : Amb D A0 ev own nm cc nL ret rm) (hc : CalOK y cc2 nL2 ret2 n) (hl : Cond.methodLink own index y ∈ gd) (hi : Cond.static y ∈ gd) (hM : ∀ l, l.stackTraces = false → Ctr D l y cc2 nL2 ret2 rm2 As X (.inl E) X') (hn : As.length = n) (hw : tW st ≤ 8) (hr : rm2.frames + 1 ≤ rm.frames ∧ 8 + (nL2 + 11) + rm2.locals ≤ rm.locals) (hf : cs + rm2.cells ≤ rm.cells ∧ sl + rm2.slots ≤ rm.slots) (d : decode cc pc = .ok (.invokestatic index, 3)) (e9 : As.reverse ++ st = st9) (k9 : Gx D A0 ev Q X E (cs + rm2.cells) (sl + rm2.slots) pc L st) : Gd D A0 ev Q X cs sl pc L st9 := by
  subst e9
  exact g_callST B hc hl hi hM hn hw hr hf d k9
theorem h_callSN {host : String} {cs' sl' : Nat} (B : Amb D A0 ev own nm cc nL ret rm) (hc : CalOK y cc2 nL2 ret2 n) (hl : Cond.methodLinkNest own index y host ∈ nestW) (hi : Cond.static y ∈ gd) (hM : ∀ l, l.stackTraces = false → Ctr D l y cc2 nL2 ret2 rm2 As X (.inr v) X') (hn : As.length = n) (hw : tW st ≤ 8) (hr : rm2.frames + 1 ≤ rm.frames ∧ 8 + (nL2 + 11) + rm2.locals ≤ rm.locals) (hf : cs + rm2.cells ≤ rm.cells ∧ sl + rm2.slots ≤ rm.slots) (d : decode cc pc = .ok (.invokestatic index, 3)) (e9 : As.reverse ++ st = st9) (ec : cs + rm2.cells = cs') (es : sl + rm2.slots = sl') (e10 : v.toList ++ st = st10) (k9 : Gd D A0 ev Q X' cs' sl' (pc + 3) L st10) : Gd D A0 ev Q X cs sl pc L st9 := by
  subst e9; subst ec; subst es; subst e10
  exact g_callSN B hc hl hi hM hn hw hr hf d k9
theorem h_callI {b : Nat} {cs' sl' : Nat} (B : Amb D A0 ev own nm cc nL ret rm) (hc : CalOK y cc2 nL2 none n) (hl : Cond.methodLink own index y ∈ gd) (hi : Cond.instanceMethod y ∈ gd) (hyn : y.name = "<init>") (hM : ∀ l, l.stackTraces = false → Ctr D l y cc2 nL2 none rm2 (vA (some b) :: As) X (.inr none) X') (hn : As.length = n) (hw : tW st ≤ 8) (hr : rm2.frames + 1 ≤ rm.frames ∧ 8 + (nL2 + 11) + rm2.locals ≤ rm.locals) (hf : cs + rm2.cells ≤ rm.cells ∧ sl + rm2.slots ≤ rm.slots) (d : decode cc pc = .ok (.invokespecial index, 3)) (e9 : As.reverse ++ vA (some b) :: st = st9) (ec : cs + rm2.cells = cs') (es : sl + rm2.slots = sl') (k9 : Gd D A0 ev Q X' cs' sl' (pc + 3) L st) : Gd D A0 ev Q X cs sl pc L st9 := by
  subst e9; subst ec; subst es
  exact g_callI B hc hl hi hyn hM hn hw hr hf d k9
theorem h_callIN {b : Nat} {host : String} {cs' sl' : Nat} (B : Amb D A0 ev own nm cc nL ret rm) (hc : CalOK y cc2 nL2 none n) (hl : Cond.methodLinkNest own index y host ∈ nestW) (hi : Cond.instanceMethod y ∈ gd) (hyn : y.name = "<init>") (hM : ∀ l, l.stackTraces = false → Ctr D l y cc2 nL2 none rm2 (vA (some b) :: As) X (.inr none) X') (hn : As.length = n) (hw : tW st ≤ 8) (hr : rm2.frames + 1 ≤ rm.frames ∧ 8 + (nL2 + 11) + rm2.locals ≤ rm.locals) (hf : cs + rm2.cells ≤ rm.cells ∧ sl + rm2.slots ≤ rm.slots) (d : decode cc pc = .ok (.invokespecial index, 3)) (e9 : As.reverse ++ vA (some b) :: st = st9) (ec : cs + rm2.cells = cs') (es : sl + rm2.slots = sl') (k9 : Gd D A0 ev Q X' cs' sl' (pc + 3) L st) : Gd D A0 ev Q X cs sl pc L st9 := by
  subst e9; subst ec; subst es
  exact g_callIN B hc hl hi hyn hM hn hw hr hf d k9
end HC
/-! THE REFERENCE's state: scalars by field, arrays by rank; its memory lies at m, m + 1 .. -/
abbrev SM : Type := (Nat → Int32) × (Nat → Nat → Int32) × (Nat → Nat → Int64)
def sc (S : SM) : Nat → Int32 := S.1
def ar (S : SM) : Nat → Nat → Int32 := S.2.1
def al (S : SM) : Nat → Nat → Int64 := S.2.2
def uc (S : SM) (k : Nat) (v : Int32) : SM := (fun j => if j = k then v else sc S j, ar S, al S)
def ua (S : SM) (r i : Nat) (v : Int32) : SM := (sc S, up2 (ar S) r i v, al S)
def ul (S : SM) (r i : Nat) (v : Int64) : SM := (sc S, ar S, up2 (al S) r i v)
def akind : Nat → Nat × Nat := fun r => match r with
  | 0 => (20, 30)
  | 1 => (20, 30)
  | 2 => (20, 30)
  | 3 => (21, 30)
  | 4 => (20, 30)
  | 5 => (20, 30)
  | 6 => (20, 900)
  | 7 => (20, 900)
  | 8 => (20, 900)
  | 9 => (21, 900)
  | 10 => (20, 30)
  | 11 => (20, 30)
  | 12 => (20, 30)
  | 13 => (20, 480)
  | 14 => (20, 480)
  | 15 => (20, 4)
  | 16 => (20, 300)
  | 17 => (20, 300)
  | 18 => (20, 601)
  | 19 => (20, 60)
  | 20 => (20, 4)
  | 21 => (20, 4)
  | 22 => (20, 961)
  | 23 => (20, 6)
  | 24 => (20, 6)
  | 25 => (20, 6)
  | 26 => (20, 24)
  | 27 => (20, 24)
  | 28 => (21, 24)
  | 29 => (22, 40)
  | 30 => (20, 24)
  | _ => (0, 0)
def rkOf : Nat → Nat := fun k => match k with
  | 4 => 0
  | 5 => 1
  | 6 => 2
  | 7 => 3
  | 9 => 4
  | 10 => 5
  | 11 => 6
  | 12 => 7
  | 13 => 8
  | 14 => 9
  | 15 => 10
  | 16 => 11
  | 17 => 12
  | 18 => 13
  | 19 => 14
  | 20 => 15
  | 30 => 16
  | 31 => 17
  | 32 => 18
  | 33 => 19
  | 34 => 20
  | 35 => 21
  | 36 => 22
  | 38 => 23
  | 39 => 24
  | 40 => 25
  | 42 => 26
  | 43 => 27
  | 44 => 28
  | 47 => 29
  | 48 => 30
  | _ => 0
def xS (m : Nat) (S : SM) (z : Nat) : Mem := (fun a => if a = m then some (12, 0) else if m < a ∧ a ≤ m + 31 then some (akind (a - m - 1)) else none, fun f a => if a = m ∧ 1200 ≤ f then sc S (f - 1200) else 0, fun f a => if a = m ∧ 1200 ≤ f then some (m + 1 + rkOf (f - 1200)) else none, fun a i => if m < a then ar S (a - m - 1) i else 0, fun a i => if m < a then al S (a - m - 1) i else 0, fun _ _ => none, z)
def inS (t r : Nat) (i : Int32) : Bool := decide (r < 31) && ((akind r).1 == 20 + t) && !(decide (i < 0)) && decide (i.toNatClampNeg < (akind r).2)
theorem hkS {m z : Nat} {S : SM} : mK (xS m S z) m = some (12, 0) := by simp [xS, mK]
theorem inS_s {m z : Nat} {S : SM} {t r : Nat} {i : Int32} (h : inS t r i = true) : ∃ n, mK (xS m S z) (m + 1 + r) = some (20 + t, n) ∧ vp_in i n := by
  unfold inS at h
  simp only [Bool.and_eq_true, beq_iff_eq, Bool.not_eq_true', decide_eq_false_iff_not, decide_eq_true_eq] at h
  obtain ⟨⟨⟨h0, h1⟩, h2⟩, h3⟩ := h
  refine ⟨(akind r).2, ?_, fun q => q.elim h2 (fun q => by omega)⟩
  show (if m + 1 + r = m then _ else if m < m + 1 + r ∧ m + 1 + r ≤ m + 31 then some (akind (m + 1 + r - m - 1)) else none) = _
  rw [if_neg (by omega), if_pos ⟨by omega, by omega⟩, show m + 1 + r - m - 1 = r by omega, ← h1]
theorem S_mI {m z k : Nat} {S : SM} : mI (xS m S z) (100 * 12 + k) m = sc S k := by
  show (if m = m ∧ 1200 ≤ 1200 + k then sc S (1200 + k - 1200) else 0) = _
  rw [if_pos ⟨rfl, by omega⟩, show 1200 + k - 1200 = k by omega]
theorem S_mR {m z k : Nat} {S : SM} : mR (xS m S z) (100 * 12 + k) m = some (m + 1 + rkOf k) := by
  show (if m = m ∧ 1200 ≤ 1200 + k then some (m + 1 + rkOf (1200 + k - 1200)) else none) = _
  rw [if_pos ⟨rfl, by omega⟩, show 1200 + k - 1200 = k by omega]
theorem S_aI {m z r : Nat} {S : SM} : aI (xS m S z) (m + 1 + r) = ar S r := by
  funext i
  show (if m < m + 1 + r then ar S (m + 1 + r - m - 1) i else 0) = _
  rw [if_pos (by omega), show m + 1 + r - m - 1 = r by omega]
theorem S_aJ {m z r : Nat} {S : SM} : aJ (xS m S z) (m + 1 + r) = al S r := by
  funext i
  show (if m < m + 1 + r then al S (m + 1 + r - m - 1) i else 0) = _
  rw [if_pos (by omega), show m + 1 + r - m - 1 = r by omega]
theorem S_wI {m z k : Nat} {S : SM} {v : Int32} : wI (xS m S z) (100 * 12 + k) m v = xS m (uc S k v) z := by
  have e : up2 (mI (xS m S z)) (100 * 12 + k) m v = mI (xS m (uc S k v) z) := by
    funext f a
    simp only [up2, mI, xS, uc, sc]
    by_cases ha : a = m ∧ 1200 ≤ f
    · rw [if_pos ha, if_pos ha]
      by_cases hf : f - 1200 = k
      · rw [if_pos hf, if_pos ⟨by omega, ha.1⟩]
      · rw [if_neg hf, if_neg (fun q => hf (by omega))]
    · rw [if_neg ha, if_neg ha, if_neg (fun q => ha ⟨q.2, by omega⟩)]
  unfold wI
  rw [e]
  rfl
theorem S_sI {m z r i : Nat} {S : SM} {v : Int32} : sI (xS m S z) (m + 1 + r) i v = xS m (ua S r i v) z := by
  have e : up2 (aI (xS m S z)) (m + 1 + r) i v = aI (xS m (ua S r i v) z) := by
    funext a j
    show (if a = m + 1 + r ∧ j = i then v else if m < a then ar S (a - m - 1) j else 0) = if m < a then (if a - m - 1 = r ∧ j = i then v else ar S (a - m - 1) j) else 0
    by_cases ha : m < a
    · rw [if_pos ha, if_pos ha]
      by_cases hf : a - m - 1 = r ∧ j = i
      · rw [if_pos hf, if_pos ⟨by omega, hf.2⟩]
      · rw [if_neg hf, if_neg (fun q => hf ⟨by omega, q.2⟩)]
    · rw [if_neg ha, if_neg ha, if_neg (fun q => ha (by omega))]
  unfold sI
  rw [e]
  rfl
theorem S_sJ {m z r i : Nat} {S : SM} {v : Int64} : sJ (xS m S z) (m + 1 + r) i v = xS m (ul S r i v) z := by
  have e : up2 (aJ (xS m S z)) (m + 1 + r) i v = aJ (xS m (ul S r i v) z) := by
    funext a j
    show (if a = m + 1 + r ∧ j = i then v else if m < a then al S (a - m - 1) j else 0) = if m < a then (if a - m - 1 = r ∧ j = i then v else al S (a - m - 1) j) else 0
    by_cases ha : m < a
    · rw [if_pos ha, if_pos ha]
      by_cases hf : a - m - 1 = r ∧ j = i
      · rw [if_pos hf, if_pos ⟨by omega, hf.2⟩]
      · rw [if_neg hf, if_neg (fun q => hf ⟨by omega, q.2⟩)]
    · rw [if_neg ha, if_neg ha, if_neg (fun q => ha (by omega))]
  unfold sJ
  rw [e]
  rfl
section GS
variable {D : DD} {A0 : Nat → Prop} {ev : EV} {Q : State → Prop} {S : SM} {m z : Nat} {cs sl pc : Nat} {L : List (Nat × TV)} {st : List TV} {own nm : String} {cc : ByteArray} {nL : Nat} {ret : Option FieldType} {rm : Room}
theorem gs_get (k : Nat) {index : Nat} (B : Amb D A0 ev own nm cc nL ret rm) (hf : k < fN 12) (hr : fR 12 k = false) (lk : Cond.fieldLink own index (clT 12 k).1 (clT 12 k).2.1 (clT 12 k).2.2.1 ∈ gd) (d : decode cc pc = .ok (.getfield index, 3)) (k9 : Gd D A0 ev Q (xS m S z) cs sl (pc + 3) L (vI (sc S k) :: st)) : Gd D A0 ev Q (xS m S z) cs sl pc L (vA (some m) :: st) :=
  g_getI 12 k B hkS (by decide) hf hr lk d (by rw [S_mI]; exact k9)
theorem gs_arr (k r : Nat) {index : Nat} (B : Amb D A0 ev own nm cc nL ret rm) (hf : k < fN 12) (hr : fR 12 k = true ∧ rkOf k = r) (lk : Cond.fieldLink own index (clT 12 k).1 (clT 12 k).2.1 (clT 12 k).2.2.1 ∈ gd) (d : decode cc pc = .ok (.getfield index, 3)) (k9 : Gd D A0 ev Q (xS m S z) cs sl (pc + 3) L (vA (some (m + 1 + r)) :: st)) : Gd D A0 ev Q (xS m S z) cs sl pc L (vA (some m) :: st) :=
  g_getR 12 k B hkS (by decide) hf hr.1 lk d (by rw [S_mR, hr.2]; exact k9)
theorem gs_put (k : Nat) {index : Nat} {v : Int32} (B : Amb D A0 ev own nm cc nL ret rm) (hf : k < fN 12) (hy : tyOf 12 k = .int) (hfin : (clT 12 k).2.2.2 = false) (lk : Cond.fieldLink own index (clT 12 k).1 (clT 12 k).2.1 (clT 12 k).2.2.1 ∈ gd) (d : decode cc pc = .ok (.putfield index, 3)) (k9 : Gd D A0 ev Q (xS m (uc S k v) z) cs sl (pc + 3) L st) : Gd D A0 ev Q (xS m S z) cs sl pc L (vI v :: vA (some m) :: st) :=
  g_putI 12 k B hkS (by decide) hf hy hfin lk d (by rw [S_wI]; exact k9)
theorem gs_putZ (k : Nat) {index : Nat} {v : Int32} (B : Amb D A0 ev own nm cc nL ret rm) (hf : k < fN 12) (hy : tyOf 12 k = .boolean) (hfin : (clT 12 k).2.2.2 = false) (hv : v = 0 ∨ v = 1) (lk : Cond.fieldLink own index (clT 12 k).1 (clT 12 k).2.1 (clT 12 k).2.2.1 ∈ gd) (d : decode cc pc = .ok (.putfield index, 3)) (k9 : Gd D A0 ev Q (xS m (uc S k v) z) cs sl (pc + 3) L st) : Gd D A0 ev Q (xS m S z) cs sl pc L (vI v :: vA (some m) :: st) :=
  g_putZ 12 k B hkS (by decide) hf hy hv hfin lk d (by rw [S_wI]; exact k9)
theorem gs_iald {r : Nat} {i : Int32} (B : Amb D A0 ev own nm cc nL ret rm) (h : inS 0 r i = true) (d : decode cc pc = .ok (.iaload, 1)) (k9 : Gd D A0 ev Q (xS m S z) cs sl (pc + 1) L (vI (ar S r i.toNatClampNeg) :: st)) : Gd D A0 ev Q (xS m S z) cs sl pc L (vI i :: vA (some (m + 1 + r)) :: st) := by
  obtain ⟨n, h1, h2⟩ := inS_s (m := m) (z := z) (S := S) h
  exact g_iald B h1 h2 d (by rw [S_aI]; exact k9)
theorem gs_zald {r : Nat} {i : Int32} (B : Amb D A0 ev own nm cc nL ret rm) (h : inS 1 r i = true) (d : decode cc pc = .ok (.baload, 1)) (k9 : Gd D A0 ev Q (xS m S z) cs sl (pc + 1) L (vI (ar S r i.toNatClampNeg) :: st)) : Gd D A0 ev Q (xS m S z) cs sl pc L (vI i :: vA (some (m + 1 + r)) :: st) := by
  obtain ⟨n, h1, h2⟩ := inS_s (m := m) (z := z) (S := S) h
  exact g_zald B h1 h2 d (by rw [S_aI]; exact k9)
theorem gs_lald {r : Nat} {i : Int32} (B : Amb D A0 ev own nm cc nL ret rm) (h : inS 2 r i = true) (d : decode cc pc = .ok (.laload, 1)) (k9 : Gd D A0 ev Q (xS m S z) cs sl (pc + 1) L (vJ (al S r i.toNatClampNeg) :: st)) : Gd D A0 ev Q (xS m S z) cs sl pc L (vI i :: vA (some (m + 1 + r)) :: st) := by
  obtain ⟨n, h1, h2⟩ := inS_s (m := m) (z := z) (S := S) h
  exact g_lald B h1 h2 d (by rw [S_aJ]; exact k9)
theorem gs_iast {r : Nat} {i x : Int32} (B : Amb D A0 ev own nm cc nL ret rm) (h : inS 0 r i = true) (d : decode cc pc = .ok (.iastore, 1)) (k9 : Gd D A0 ev Q (xS m (ua S r i.toNatClampNeg x) z) cs sl (pc + 1) L st) : Gd D A0 ev Q (xS m S z) cs sl pc L (vI x :: vI i :: vA (some (m + 1 + r)) :: st) := by
  obtain ⟨n, h1, h2⟩ := inS_s (m := m) (z := z) (S := S) h
  exact g_iast B h1 h2 d (by rw [S_sI]; exact k9)
theorem gs_zast {r : Nat} {i x : Int32} (B : Amb D A0 ev own nm cc nL ret rm) (h : inS 1 r i = true) (hx : x = 0 ∨ x = 1) (d : decode cc pc = .ok (.bastore, 1)) (k9 : Gd D A0 ev Q (xS m (ua S r i.toNatClampNeg x) z) cs sl (pc + 1) L st) : Gd D A0 ev Q (xS m S z) cs sl pc L (vI x :: vI i :: vA (some (m + 1 + r)) :: st) := by
  obtain ⟨n, h1, h2⟩ := inS_s (m := m) (z := z) (S := S) h
  exact g_zast B h1 h2 hx d (by rw [S_sI]; exact k9)
theorem gs_last {r : Nat} {i : Int32} {x : Int64} (B : Amb D A0 ev own nm cc nL ret rm) (h : inS 2 r i = true) (d : decode cc pc = .ok (.lastore, 1)) (k9 : Gd D A0 ev Q (xS m (ul S r i.toNatClampNeg x) z) cs sl (pc + 1) L st) : Gd D A0 ev Q (xS m S z) cs sl pc L (vJ x :: vI i :: vA (some (m + 1 + r)) :: st) := by
  obtain ⟨n, h1, h2⟩ := inS_s (m := m) (z := z) (S := S) h
  exact g_last B h1 h2 d (by rw [S_sJ]; exact k9)
end GS
end
section
theorem i_vc : Claimed_1_1 ∧ Claimed_1_2 := sorry
end
