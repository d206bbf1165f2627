section
-- ===== PART A: goes FIRST, ahead of the names: the tables' words, and 'selects' of the private methods out of them =====
/-- a private method of a class that the tables say can be made, by its rows of tables_1 -/
def lw_okq (q : MethodName × Nat) : Prop := (q.1.cls ≠ "java/lang/invoke/MethodHandle" ∧ q.1.cls ≠ "java/lang/invoke/VarHandle") ∧ Cond.instantiable q.1.cls q.2 ∈ tables_1 ∧ Cond.privateMethod q.1 ∈ tables_1 ∧ Cond.instanceMethod q.1 ∈ tables_1
theorem lw_p0 : lw_okq (⟨"java/lang/Throwable", "fillInStackTrace", "(I)Ljava/lang/Throwable;"⟩, 6) := ⟨⟨by decide +kernel, by decide +kernel⟩, List.mem_of_getElem? (i := 285) (by decide +kernel), List.mem_of_getElem? (i := 283) (by decide +kernel), List.mem_of_getElem? (i := 284) (by decide +kernel)⟩
theorem lw_p1 : lw_okq (⟨"TurtleChalk", "addOrder", "(IIIZ)I"⟩, 11) := ⟨⟨by decide +kernel, by decide +kernel⟩, List.mem_of_getElem? (i := 22) (by decide +kernel), List.mem_of_getElem? (i := 331) (by decide +kernel), List.mem_of_getElem? (i := 332) (by decide +kernel)⟩
theorem lw_p2 : lw_okq (⟨"TurtleChalk$Program", "pairBlocks", "()V"⟩, 8) := ⟨⟨by decide +kernel, by decide +kernel⟩, List.mem_of_getElem? (i := 470) (by decide +kernel), List.mem_of_getElem? (i := 484) (by decide +kernel), List.mem_of_getElem? (i := 485) (by decide +kernel)⟩
theorem lw_p3 : lw_okq (⟨"TurtleChalk$Program", "lastOpenAhead", "(I)I"⟩, 8) := ⟨⟨by decide +kernel, by decide +kernel⟩, List.mem_of_getElem? (i := 470) (by decide +kernel), List.mem_of_getElem? (i := 488) (by decide +kernel), List.mem_of_getElem? (i := 489) (by decide +kernel)⟩
theorem lw_p4 : lw_okq (⟨"TurtleChalk$Program", "findWords", "()V"⟩, 8) := ⟨⟨by decide +kernel, by decide +kernel⟩, List.mem_of_getElem? (i := 470) (by decide +kernel), List.mem_of_getElem? (i := 501) (by decide +kernel), List.mem_of_getElem? (i := 502) (by decide +kernel)⟩
theorem lw_p5 : lw_okq (⟨"TurtleChalk$Program", "buildForm", "()V"⟩, 8) := ⟨⟨by decide +kernel, by decide +kernel⟩, List.mem_of_getElem? (i := 470) (by decide +kernel), List.mem_of_getElem? (i := 505) (by decide +kernel), List.mem_of_getElem? (i := 506) (by decide +kernel)⟩
theorem lw_p6 : lw_okq (⟨"TurtleChalk$Run", "follow", "(LTurtleChalk$Program;I)I"⟩, 9) := ⟨⟨by decide +kernel, by decide +kernel⟩, List.mem_of_getElem? (i := 52) (by decide +kernel), List.mem_of_getElem? (i := 577) (by decide +kernel), List.mem_of_getElem? (i := 578) (by decide +kernel)⟩
theorem lw_p7 : lw_okq (⟨"TurtleChalk$Run", "closeBlock", "(LTurtleChalk$Program;I)I"⟩, 9) := ⟨⟨by decide +kernel, by decide +kernel⟩, List.mem_of_getElem? (i := 52) (by decide +kernel), List.mem_of_getElem? (i := 583) (by decide +kernel), List.mem_of_getElem? (i := 584) (by decide +kernel)⟩
theorem lw_p8 : lw_okq (⟨"TurtleChalk$Run", "leaveWord", "()I"⟩, 9) := ⟨⟨by decide +kernel, by decide +kernel⟩, List.mem_of_getElem? (i := 52) (by decide +kernel), List.mem_of_getElem? (i := 587) (by decide +kernel), List.mem_of_getElem? (i := 588) (by decide +kernel)⟩
theorem lw_p9 : lw_okq (⟨"TurtleChalk$Run", "canCount", "()Z"⟩, 9) := ⟨⟨by decide +kernel, by decide +kernel⟩, List.mem_of_getElem? (i := 52) (by decide +kernel), List.mem_of_getElem? (i := 591) (by decide +kernel), List.mem_of_getElem? (i := 592) (by decide +kernel)⟩
theorem lw_p10 : lw_okq (⟨"TurtleChalk$Run", "valueOf", "(LTurtleChalk$Order;)I"⟩, 9) := ⟨⟨by decide +kernel, by decide +kernel⟩, List.mem_of_getElem? (i := 52) (by decide +kernel), List.mem_of_getElem? (i := 595) (by decide +kernel), List.mem_of_getElem? (i := 596) (by decide +kernel)⟩
theorem lw_p11 : lw_okq (⟨"TurtleChalk$Run", "nameAt", "(I)I"⟩, 9) := ⟨⟨by decide +kernel, by decide +kernel⟩, List.mem_of_getElem? (i := 52) (by decide +kernel), List.mem_of_getElem? (i := 599) (by decide +kernel), List.mem_of_getElem? (i := 600) (by decide +kernel)⟩
theorem lw_p12 : lw_okq (⟨"TurtleChalk$Run", "goForward", "(I)Z"⟩, 9) := ⟨⟨by decide +kernel, by decide +kernel⟩, List.mem_of_getElem? (i := 52) (by decide +kernel), List.mem_of_getElem? (i := 603) (by decide +kernel), List.mem_of_getElem? (i := 604) (by decide +kernel)⟩
theorem lw_p13 : lw_okq (⟨"TurtleChalk$Turtle", "aheadX", "()I"⟩, 4) := ⟨⟨by decide +kernel, by decide +kernel⟩, List.mem_of_getElem? (i := 58) (by decide +kernel), List.mem_of_getElem? (i := 611) (by decide +kernel), List.mem_of_getElem? (i := 612) (by decide +kernel)⟩
theorem lw_p14 : lw_okq (⟨"TurtleChalk$Turtle", "aheadY", "()I"⟩, 4) := ⟨⟨by decide +kernel, by decide +kernel⟩, List.mem_of_getElem? (i := 58) (by decide +kernel), List.mem_of_getElem? (i := 618) (by decide +kernel), List.mem_of_getElem? (i := 619) (by decide +kernel)⟩
theorem lw_p15 : lw_okq (⟨"TurtleChalk$Drawing", "takeIn", "(IIII)V"⟩, 7) := ⟨⟨by decide +kernel, by decide +kernel⟩, List.mem_of_getElem? (i := 77) (by decide +kernel), List.mem_of_getElem? (i := 634) (by decide +kernel), List.mem_of_getElem? (i := 635) (by decide +kernel)⟩
def lw_privs_1 : List (MethodName × Nat) := [(⟨"java/lang/Throwable", "fillInStackTrace", "(I)Ljava/lang/Throwable;"⟩, 6), (⟨"TurtleChalk", "addOrder", "(IIIZ)I"⟩, 11), (⟨"TurtleChalk$Program", "pairBlocks", "()V"⟩, 8), (⟨"TurtleChalk$Program", "lastOpenAhead", "(I)I"⟩, 8), (⟨"TurtleChalk$Program", "findWords", "()V"⟩, 8), (⟨"TurtleChalk$Program", "buildForm", "()V"⟩, 8), (⟨"TurtleChalk$Run", "follow", "(LTurtleChalk$Program;I)I"⟩, 9), (⟨"TurtleChalk$Run", "closeBlock", "(LTurtleChalk$Program;I)I"⟩, 9), (⟨"TurtleChalk$Run", "leaveWord", "()I"⟩, 9), (⟨"TurtleChalk$Run", "canCount", "()Z"⟩, 9), (⟨"TurtleChalk$Run", "valueOf", "(LTurtleChalk$Order;)I"⟩, 9), (⟨"TurtleChalk$Run", "nameAt", "(I)I"⟩, 9), (⟨"TurtleChalk$Run", "goForward", "(I)Z"⟩, 9), (⟨"TurtleChalk$Turtle", "aheadX", "()I"⟩, 4), (⟨"TurtleChalk$Turtle", "aheadY", "()I"⟩, 4), (⟨"TurtleChalk$Drawing", "takeIn", "(IIII)V"⟩, 7)]
theorem lw_r1 : ∀ q ∈ lw_privs_1, lw_okq q := List.forall_mem_cons.mpr ⟨lw_p0, List.forall_mem_cons.mpr ⟨lw_p1, List.forall_mem_cons.mpr ⟨lw_p2, List.forall_mem_cons.mpr ⟨lw_p3, List.forall_mem_cons.mpr ⟨lw_p4, List.forall_mem_cons.mpr ⟨lw_p5, List.forall_mem_cons.mpr ⟨lw_p6, List.forall_mem_cons.mpr ⟨lw_p7, List.forall_mem_cons.mpr ⟨lw_p8, List.forall_mem_cons.mpr ⟨lw_p9, List.forall_mem_cons.mpr ⟨lw_p10, List.forall_mem_cons.mpr ⟨lw_p11, List.forall_mem_cons.mpr ⟨lw_p12, List.forall_mem_cons.mpr ⟨lw_p13, List.forall_mem_cons.mpr ⟨lw_p14, List.forall_mem_cons.mpr ⟨lw_p15, fun _ h => absurd h List.not_mem_nil⟩⟩⟩⟩⟩⟩⟩⟩⟩⟩⟩⟩⟩⟩⟩⟩
theorem lw_p16 : lw_okq (⟨"TurtleChalk$Run", "putName", "(II)Z"⟩, 9) := ⟨⟨by decide +kernel, by decide +kernel⟩, List.mem_of_getElem? (i := 52) (by decide +kernel), List.mem_of_getElem? (i := 649) (by decide +kernel), List.mem_of_getElem? (i := 650) (by decide +kernel)⟩
theorem lw_p17 : lw_okq (⟨"TurtleChalk$Run", "beginRepeat", "(LTurtleChalk$Program;II)I"⟩, 9) := ⟨⟨by decide +kernel, by decide +kernel⟩, List.mem_of_getElem? (i := 52) (by decide +kernel), List.mem_of_getElem? (i := 653) (by decide +kernel), List.mem_of_getElem? (i := 654) (by decide +kernel)⟩
theorem lw_p18 : lw_okq (⟨"TurtleChalk$Run", "enterWord", "(LTurtleChalk$Program;II)I"⟩, 9) := ⟨⟨by decide +kernel, by decide +kernel⟩, List.mem_of_getElem? (i := 52) (by decide +kernel), List.mem_of_getElem? (i := 657) (by decide +kernel), List.mem_of_getElem? (i := 658) (by decide +kernel)⟩
theorem lw_p19 : lw_okq (⟨"TurtleChalk", "programAt", "(I)LTurtleChalk$Program;"⟩, 11) := ⟨⟨by decide +kernel, by decide +kernel⟩, List.mem_of_getElem? (i := 22) (by decide +kernel), List.mem_of_getElem? (i := 684) (by decide +kernel), List.mem_of_getElem? (i := 685) (by decide +kernel)⟩
theorem lw_p20 : lw_okq (⟨"TurtleChalk", "exerciseAt", "(I)LTurtleChalk$Exercise;"⟩, 11) := ⟨⟨by decide +kernel, by decide +kernel⟩, List.mem_of_getElem? (i := 22) (by decide +kernel), List.mem_of_getElem? (i := 716) (by decide +kernel), List.mem_of_getElem? (i := 717) (by decide +kernel)⟩
theorem lw_p21 : lw_okq (⟨"TurtleChalk", "layWall", "()V"⟩, 11) := ⟨⟨by decide +kernel, by decide +kernel⟩, List.mem_of_getElem? (i := 22) (by decide +kernel), List.mem_of_getElem? (i := 725) (by decide +kernel), List.mem_of_getElem? (i := 726) (by decide +kernel)⟩
theorem lw_p22 : lw_okq (⟨"TurtleChalk$Drawing", "rowInCorner", "([II)I"⟩, 7) := ⟨⟨by decide +kernel, by decide +kernel⟩, List.mem_of_getElem? (i := 77) (by decide +kernel), List.mem_of_getElem? (i := 746) (by decide +kernel), List.mem_of_getElem? (i := 747) (by decide +kernel)⟩
theorem lw_p23 : lw_okq (⟨"TurtleChalk$Wall", "takenFrom", "(II)J"⟩, 3) := ⟨⟨by decide +kernel, by decide +kernel⟩, List.mem_of_getElem? (i := 150) (by decide +kernel), List.mem_of_getElem? (i := 766) (by decide +kernel), List.mem_of_getElem? (i := 767) (by decide +kernel)⟩
theorem lw_p24 : lw_okq (⟨"TurtleChalk$Wall", "take", "(IIJ)V"⟩, 3) := ⟨⟨by decide +kernel, by decide +kernel⟩, List.mem_of_getElem? (i := 150) (by decide +kernel), List.mem_of_getElem? (i := 773) (by decide +kernel), List.mem_of_getElem? (i := 774) (by decide +kernel)⟩
theorem lw_p25 : lw_okq (⟨"TurtleChalk", "countMeeting", "(LTurtleChalk$Exercise;)I"⟩, 11) := ⟨⟨by decide +kernel, by decide +kernel⟩, List.mem_of_getElem? (i := 22) (by decide +kernel), List.mem_of_getElem? (i := 781) (by decide +kernel), List.mem_of_getElem? (i := 782) (by decide +kernel)⟩
theorem lw_p26 : lw_okq (⟨"TurtleChalk", "findOriginal", "(LTurtleChalk$Program;LTurtleChalk$Exercise;)I"⟩, 11) := ⟨⟨by decide +kernel, by decide +kernel⟩, List.mem_of_getElem? (i := 22) (by decide +kernel), List.mem_of_getElem? (i := 794) (by decide +kernel), List.mem_of_getElem? (i := 795) (by decide +kernel)⟩
theorem lw_p27 : lw_okq (⟨"TurtleChalk", "workAt", "(I)LTurtleChalk$Work;"⟩, 11) := ⟨⟨by decide +kernel, by decide +kernel⟩, List.mem_of_getElem? (i := 22) (by decide +kernel), List.mem_of_getElem? (i := 843) (by decide +kernel), List.mem_of_getElem? (i := 844) (by decide +kernel)⟩
theorem lw_p28 : lw_okq (⟨"TurtleChalk", "countHanging", "()I"⟩, 11) := ⟨⟨by decide +kernel, by decide +kernel⟩, List.mem_of_getElem? (i := 22) (by decide +kernel), List.mem_of_getElem? (i := 860) (by decide +kernel), List.mem_of_getElem? (i := 861) (by decide +kernel)⟩
theorem lw_p29 : lw_okq (⟨"TurtleChalk$Desk", "fillBelow", "(I[II)V"⟩, 2) := ⟨⟨by decide +kernel, by decide +kernel⟩, List.mem_of_getElem? (i := 137) (by decide +kernel), List.mem_of_getElem? (i := 938) (by decide +kernel), List.mem_of_getElem? (i := 939) (by decide +kernel)⟩
theorem lw_p30 : lw_okq (⟨"TurtleChalkModel", "isValue", "(IIZI)Z"⟩, 49) := ⟨⟨by decide +kernel, by decide +kernel⟩, List.mem_of_getElem? (i := 991) (by decide +kernel), List.mem_of_getElem? (i := 1153) (by decide +kernel), List.mem_of_getElem? (i := 1154) (by decide +kernel)⟩
theorem lw_p31 : lw_okq (⟨"TurtleChalkModel", "holds", "(I)Z"⟩, 49) := ⟨⟨by decide +kernel, by decide +kernel⟩, List.mem_of_getElem? (i := 991) (by decide +kernel), List.mem_of_getElem? (i := 1163) (by decide +kernel), List.mem_of_getElem? (i := 1164) (by decide +kernel)⟩
def lw_privs_2 : List (MethodName × Nat) := [(⟨"TurtleChalk$Run", "putName", "(II)Z"⟩, 9), (⟨"TurtleChalk$Run", "beginRepeat", "(LTurtleChalk$Program;II)I"⟩, 9), (⟨"TurtleChalk$Run", "enterWord", "(LTurtleChalk$Program;II)I"⟩, 9), (⟨"TurtleChalk", "programAt", "(I)LTurtleChalk$Program;"⟩, 11), (⟨"TurtleChalk", "exerciseAt", "(I)LTurtleChalk$Exercise;"⟩, 11), (⟨"TurtleChalk", "layWall", "()V"⟩, 11), (⟨"TurtleChalk$Drawing", "rowInCorner", "([II)I"⟩, 7), (⟨"TurtleChalk$Wall", "takenFrom", "(II)J"⟩, 3), (⟨"TurtleChalk$Wall", "take", "(IIJ)V"⟩, 3), (⟨"TurtleChalk", "countMeeting", "(LTurtleChalk$Exercise;)I"⟩, 11), (⟨"TurtleChalk", "findOriginal", "(LTurtleChalk$Program;LTurtleChalk$Exercise;)I"⟩, 11), (⟨"TurtleChalk", "workAt", "(I)LTurtleChalk$Work;"⟩, 11), (⟨"TurtleChalk", "countHanging", "()I"⟩, 11), (⟨"TurtleChalk$Desk", "fillBelow", "(I[II)V"⟩, 2), (⟨"TurtleChalkModel", "isValue", "(IIZI)Z"⟩, 49), (⟨"TurtleChalkModel", "holds", "(I)Z"⟩, 49)]
theorem lw_r2 : ∀ q ∈ lw_privs_2, lw_okq q := List.forall_mem_cons.mpr ⟨lw_p16, List.forall_mem_cons.mpr ⟨lw_p17, List.forall_mem_cons.mpr ⟨lw_p18, List.forall_mem_cons.mpr ⟨lw_p19, List.forall_mem_cons.mpr ⟨lw_p20, List.forall_mem_cons.mpr ⟨lw_p21, List.forall_mem_cons.mpr ⟨lw_p22, List.forall_mem_cons.mpr ⟨lw_p23, List.forall_mem_cons.mpr ⟨lw_p24, List.forall_mem_cons.mpr ⟨lw_p25, List.forall_mem_cons.mpr ⟨lw_p26, List.forall_mem_cons.mpr ⟨lw_p27, List.forall_mem_cons.mpr ⟨lw_p28, List.forall_mem_cons.mpr ⟨lw_p29, List.forall_mem_cons.mpr ⟨lw_p30, List.forall_mem_cons.mpr ⟨lw_p31, fun _ h => absurd h List.not_mem_nil⟩⟩⟩⟩⟩⟩⟩⟩⟩⟩⟩⟩⟩⟩⟩⟩
theorem lw_p32 : lw_okq (⟨"TurtleChalkModel", "drafts", "(IIIZ)I"⟩, 49) := ⟨⟨by decide +kernel, by decide +kernel⟩, List.mem_of_getElem? (i := 991) (by decide +kernel), List.mem_of_getElem? (i := 1167) (by decide +kernel), List.mem_of_getElem? (i := 1168) (by decide +kernel)⟩
theorem lw_p33 : lw_okq (⟨"TurtleChalkModel", "wipes", "()I"⟩, 49) := ⟨⟨by decide +kernel, by decide +kernel⟩, List.mem_of_getElem? (i := 991) (by decide +kernel), List.mem_of_getElem? (i := 1207) (by decide +kernel), List.mem_of_getElem? (i := 1208) (by decide +kernel)⟩
theorem lw_p34 : lw_okq (⟨"TurtleChalkModel", "runs", "(I)V"⟩, 49) := ⟨⟨by decide +kernel, by decide +kernel⟩, List.mem_of_getElem? (i := 991) (by decide +kernel), List.mem_of_getElem? (i := 1215) (by decide +kernel), List.mem_of_getElem? (i := 1216) (by decide +kernel)⟩
theorem lw_p35 : lw_okq (⟨"TurtleChalkModel", "begins", "(I)V"⟩, 49) := ⟨⟨by decide +kernel, by decide +kernel⟩, List.mem_of_getElem? (i := 991) (by decide +kernel), List.mem_of_getElem? (i := 1219) (by decide +kernel), List.mem_of_getElem? (i := 1220) (by decide +kernel)⟩
theorem lw_p36 : lw_okq (⟨"TurtleChalkModel", "endOf", "(II)I"⟩, 49) := ⟨⟨by decide +kernel, by decide +kernel⟩, List.mem_of_getElem? (i := 991) (by decide +kernel), List.mem_of_getElem? (i := 1223) (by decide +kernel), List.mem_of_getElem? (i := 1224) (by decide +kernel)⟩
theorem lw_p37 : lw_okq (⟨"TurtleChalkModel", "ends", "()V"⟩, 49) := ⟨⟨by decide +kernel, by decide +kernel⟩, List.mem_of_getElem? (i := 991) (by decide +kernel), List.mem_of_getElem? (i := 1227) (by decide +kernel), List.mem_of_getElem? (i := 1228) (by decide +kernel)⟩
theorem lw_p38 : lw_okq (⟨"TurtleChalkModel", "counts", "()Z"⟩, 49) := ⟨⟨by decide +kernel, by decide +kernel⟩, List.mem_of_getElem? (i := 991) (by decide +kernel), List.mem_of_getElem? (i := 1231) (by decide +kernel), List.mem_of_getElem? (i := 1232) (by decide +kernel)⟩
theorem lw_p39 : lw_okq (⟨"TurtleChalkModel", "does", "(II)V"⟩, 49) := ⟨⟨by decide +kernel, by decide +kernel⟩, List.mem_of_getElem? (i := 991) (by decide +kernel), List.mem_of_getElem? (i := 1235) (by decide +kernel), List.mem_of_getElem? (i := 1236) (by decide +kernel)⟩
theorem lw_p40 : lw_okq (⟨"TurtleChalkModel", "goes", "(I)V"⟩, 49) := ⟨⟨by decide +kernel, by decide +kernel⟩, List.mem_of_getElem? (i := 991) (by decide +kernel), List.mem_of_getElem? (i := 1239) (by decide +kernel), List.mem_of_getElem? (i := 1240) (by decide +kernel)⟩
theorem lw_p41 : lw_okq (⟨"TurtleChalkModel", "draws", "(III)V"⟩, 49) := ⟨⟨by decide +kernel, by decide +kernel⟩, List.mem_of_getElem? (i := 991) (by decide +kernel), List.mem_of_getElem? (i := 1246) (by decide +kernel), List.mem_of_getElem? (i := 1247) (by decide +kernel)⟩
theorem lw_p42 : lw_okq (⟨"TurtleChalkModel", "enters", "(II)V"⟩, 49) := ⟨⟨by decide +kernel, by decide +kernel⟩, List.mem_of_getElem? (i := 991) (by decide +kernel), List.mem_of_getElem? (i := 1250) (by decide +kernel), List.mem_of_getElem? (i := 1251) (by decide +kernel)⟩
theorem lw_p43 : lw_okq (⟨"TurtleChalkModel", "callsWord", "(II)V"⟩, 49) := ⟨⟨by decide +kernel, by decide +kernel⟩, List.mem_of_getElem? (i := 991) (by decide +kernel), List.mem_of_getElem? (i := 1254) (by decide +kernel), List.mem_of_getElem? (i := 1255) (by decide +kernel)⟩
theorem lw_p44 : lw_okq (⟨"TurtleChalkModel", "blockOf", "(II)I"⟩, 49) := ⟨⟨by decide +kernel, by decide +kernel⟩, List.mem_of_getElem? (i := 991) (by decide +kernel), List.mem_of_getElem? (i := 1258) (by decide +kernel), List.mem_of_getElem? (i := 1259) (by decide +kernel)⟩
theorem lw_p45 : lw_okq (⟨"TurtleChalkModel", "isProgram", "(I)Z"⟩, 49) := ⟨⟨by decide +kernel, by decide +kernel⟩, List.mem_of_getElem? (i := 991) (by decide +kernel), List.mem_of_getElem? (i := 1266) (by decide +kernel), List.mem_of_getElem? (i := 1267) (by decide +kernel)⟩
theorem lw_p46 : lw_okq (⟨"TurtleChalkModel", "isExercise", "(I)Z"⟩, 49) := ⟨⟨by decide +kernel, by decide +kernel⟩, List.mem_of_getElem? (i := 991) (by decide +kernel), List.mem_of_getElem? (i := 1277) (by decide +kernel), List.mem_of_getElem? (i := 1278) (by decide +kernel)⟩
theorem lw_p47 : lw_okq (⟨"TurtleChalkModel", "doesMeet", "(I)Z"⟩, 49) := ⟨⟨by decide +kernel, by decide +kernel⟩, List.mem_of_getElem? (i := 991) (by decide +kernel), List.mem_of_getElem? (i := 1281) (by decide +kernel), List.mem_of_getElem? (i := 1282) (by decide +kernel)⟩
def lw_privs_3 : List (MethodName × Nat) := [(⟨"TurtleChalkModel", "drafts", "(IIIZ)I"⟩, 49), (⟨"TurtleChalkModel", "wipes", "()I"⟩, 49), (⟨"TurtleChalkModel", "runs", "(I)V"⟩, 49), (⟨"TurtleChalkModel", "begins", "(I)V"⟩, 49), (⟨"TurtleChalkModel", "endOf", "(II)I"⟩, 49), (⟨"TurtleChalkModel", "ends", "()V"⟩, 49), (⟨"TurtleChalkModel", "counts", "()Z"⟩, 49), (⟨"TurtleChalkModel", "does", "(II)V"⟩, 49), (⟨"TurtleChalkModel", "goes", "(I)V"⟩, 49), (⟨"TurtleChalkModel", "draws", "(III)V"⟩, 49), (⟨"TurtleChalkModel", "enters", "(II)V"⟩, 49), (⟨"TurtleChalkModel", "callsWord", "(II)V"⟩, 49), (⟨"TurtleChalkModel", "blockOf", "(II)I"⟩, 49), (⟨"TurtleChalkModel", "isProgram", "(I)Z"⟩, 49), (⟨"TurtleChalkModel", "isExercise", "(I)Z"⟩, 49), (⟨"TurtleChalkModel", "doesMeet", "(I)Z"⟩, 49)]
theorem lw_r3 : ∀ q ∈ lw_privs_3, lw_okq q := List.forall_mem_cons.mpr ⟨lw_p32, List.forall_mem_cons.mpr ⟨lw_p33, List.forall_mem_cons.mpr ⟨lw_p34, List.forall_mem_cons.mpr ⟨lw_p35, List.forall_mem_cons.mpr ⟨lw_p36, List.forall_mem_cons.mpr ⟨lw_p37, List.forall_mem_cons.mpr ⟨lw_p38, List.forall_mem_cons.mpr ⟨lw_p39, List.forall_mem_cons.mpr ⟨lw_p40, List.forall_mem_cons.mpr ⟨lw_p41, List.forall_mem_cons.mpr ⟨lw_p42, List.forall_mem_cons.mpr ⟨lw_p43, List.forall_mem_cons.mpr ⟨lw_p44, List.forall_mem_cons.mpr ⟨lw_p45, List.forall_mem_cons.mpr ⟨lw_p46, List.forall_mem_cons.mpr ⟨lw_p47, fun _ h => absurd h List.not_mem_nil⟩⟩⟩⟩⟩⟩⟩⟩⟩⟩⟩⟩⟩⟩⟩⟩
theorem lw_p48 : lw_okq (⟨"TurtleChalkModel", "alike", "(II)Z"⟩, 49) := ⟨⟨by decide +kernel, by decide +kernel⟩, List.mem_of_getElem? (i := 991) (by decide +kernel), List.mem_of_getElem? (i := 1285) (by decide +kernel), List.mem_of_getElem? (i := 1286) (by decide +kernel)⟩
theorem lw_p49 : lw_okq (⟨"TurtleChalkModel", "leastOf", "(IZ)I"⟩, 49) := ⟨⟨by decide +kernel, by decide +kernel⟩, List.mem_of_getElem? (i := 991) (by decide +kernel), List.mem_of_getElem? (i := 1289) (by decide +kernel), List.mem_of_getElem? (i := 1290) (by decide +kernel)⟩
theorem lw_p50 : lw_okq (⟨"TurtleChalkModel", "isWork", "(I)Z"⟩, 49) := ⟨⟨by decide +kernel, by decide +kernel⟩, List.mem_of_getElem? (i := 991) (by decide +kernel), List.mem_of_getElem? (i := 1301) (by decide +kernel), List.mem_of_getElem? (i := 1302) (by decide +kernel)⟩
theorem lw_p51 : lw_okq (⟨"TurtleChalkModel", "hangsAll", "()V"⟩, 49) := ⟨⟨by decide +kernel, by decide +kernel⟩, List.mem_of_getElem? (i := 991) (by decide +kernel), List.mem_of_getElem? (i := 1309) (by decide +kernel), List.mem_of_getElem? (i := 1310) (by decide +kernel)⟩
theorem lw_p52 : lw_okq (⟨"TurtleChalkModel", "copied", "(I)I"⟩, 49) := ⟨⟨by decide +kernel, by decide +kernel⟩, List.mem_of_getElem? (i := 991) (by decide +kernel), List.mem_of_getElem? (i := 1313) (by decide +kernel), List.mem_of_getElem? (i := 1314) (by decide +kernel)⟩
theorem lw_p53 : lw_okq (⟨"TurtleChalkModel", "oneForm", "(II)Z"⟩, 49) := ⟨⟨by decide +kernel, by decide +kernel⟩, List.mem_of_getElem? (i := 991) (by decide +kernel), List.mem_of_getElem? (i := 1317) (by decide +kernel), List.mem_of_getElem? (i := 1318) (by decide +kernel)⟩
theorem lw_p54 : lw_okq (⟨"TurtleChalkModel", "lays", "(II)V"⟩, 49) := ⟨⟨by decide +kernel, by decide +kernel⟩, List.mem_of_getElem? (i := 991) (by decide +kernel), List.mem_of_getElem? (i := 1321) (by decide +kernel), List.mem_of_getElem? (i := 1322) (by decide +kernel)⟩
theorem lw_p55 : lw_okq (⟨"TurtleChalkModel", "hangsOne", "(I)V"⟩, 49) := ⟨⟨by decide +kernel, by decide +kernel⟩, List.mem_of_getElem? (i := 991) (by decide +kernel), List.mem_of_getElem? (i := 1328) (by decide +kernel), List.mem_of_getElem? (i := 1329) (by decide +kernel)⟩
theorem lw_p56 : lw_okq (⟨"TurtleChalkModel", "greatestOf", "(IZ)I"⟩, 49) := ⟨⟨by decide +kernel, by decide +kernel⟩, List.mem_of_getElem? (i := 991) (by decide +kernel), List.mem_of_getElem? (i := 1332) (by decide +kernel), List.mem_of_getElem? (i := 1333) (by decide +kernel)⟩
theorem lw_p57 : lw_okq (⟨"TurtleChalkModel", "isFree", "(IIII)Z"⟩, 49) := ⟨⟨by decide +kernel, by decide +kernel⟩, List.mem_of_getElem? (i := 991) (by decide +kernel), List.mem_of_getElem? (i := 1336) (by decide +kernel), List.mem_of_getElem? (i := 1337) (by decide +kernel)⟩
theorem lw_p58 : lw_okq (⟨"TurtleChalkModel", "areTwo", "(II)Z"⟩, 49) := ⟨⟨by decide +kernel, by decide +kernel⟩, List.mem_of_getElem? (i := 991) (by decide +kernel), List.mem_of_getElem? (i := 1372) (by decide +kernel), List.mem_of_getElem? (i := 1373) (by decide +kernel)⟩
theorem lw_p59 : lw_okq (⟨"TurtleChalkModel", "longestRow", "(II)I"⟩, 49) := ⟨⟨by decide +kernel, by decide +kernel⟩, List.mem_of_getElem? (i := 991) (by decide +kernel), List.mem_of_getElem? (i := 1384) (by decide +kernel), List.mem_of_getElem? (i := 1385) (by decide +kernel)⟩
theorem lw_p60 : lw_okq (⟨"TurtleChalkModel", "covers", "(III)Z"⟩, 49) := ⟨⟨by decide +kernel, by decide +kernel⟩, List.mem_of_getElem? (i := 991) (by decide +kernel), List.mem_of_getElem? (i := 1408) (by decide +kernel), List.mem_of_getElem? (i := 1409) (by decide +kernel)⟩
def lw_privs_4 : List (MethodName × Nat) := [(⟨"TurtleChalkModel", "alike", "(II)Z"⟩, 49), (⟨"TurtleChalkModel", "leastOf", "(IZ)I"⟩, 49), (⟨"TurtleChalkModel", "isWork", "(I)Z"⟩, 49), (⟨"TurtleChalkModel", "hangsAll", "()V"⟩, 49), (⟨"TurtleChalkModel", "copied", "(I)I"⟩, 49), (⟨"TurtleChalkModel", "oneForm", "(II)Z"⟩, 49), (⟨"TurtleChalkModel", "lays", "(II)V"⟩, 49), (⟨"TurtleChalkModel", "hangsOne", "(I)V"⟩, 49), (⟨"TurtleChalkModel", "greatestOf", "(IZ)I"⟩, 49), (⟨"TurtleChalkModel", "isFree", "(IIII)Z"⟩, 49), (⟨"TurtleChalkModel", "areTwo", "(II)Z"⟩, 49), (⟨"TurtleChalkModel", "longestRow", "(II)I"⟩, 49), (⟨"TurtleChalkModel", "covers", "(III)Z"⟩, 49)]
theorem lw_r4 : ∀ q ∈ lw_privs_4, lw_okq q := List.forall_mem_cons.mpr ⟨lw_p48, List.forall_mem_cons.mpr ⟨lw_p49, List.forall_mem_cons.mpr ⟨lw_p50, List.forall_mem_cons.mpr ⟨lw_p51, List.forall_mem_cons.mpr ⟨lw_p52, List.forall_mem_cons.mpr ⟨lw_p53, List.forall_mem_cons.mpr ⟨lw_p54, List.forall_mem_cons.mpr ⟨lw_p55, List.forall_mem_cons.mpr ⟨lw_p56, List.forall_mem_cons.mpr ⟨lw_p57, List.forall_mem_cons.mpr ⟨lw_p58, List.forall_mem_cons.mpr ⟨lw_p59, List.forall_mem_cons.mpr ⟨lw_p60, fun _ h => absurd h List.not_mem_nil⟩⟩⟩⟩⟩⟩⟩⟩⟩⟩⟩⟩⟩
def lw_privs : List (MethodName × Nat) := lw_privs_1 ++ (lw_privs_2 ++ (lw_privs_3 ++ (lw_privs_4)))
def lw_tbl : List Cond := k2_sels lw_privs ++ tables_1
theorem lw_privs_ok : ∀ q ∈ lw_privs, lw_okq q := by
  show ∀ q ∈ lw_privs_1 ++ (lw_privs_2 ++ (lw_privs_3 ++ (lw_privs_4))), lw_okq q
  exact List.forall_mem_append.mpr ⟨lw_r1, List.forall_mem_append.mpr ⟨lw_r2, List.forall_mem_append.mpr ⟨lw_r3, lw_r4⟩⟩⟩
-- ===== end of PART A; then your names; then what follows =====
end
section
/-! ===== BEGIN words of one list among another's, by their places ===== -/
theorem goodIn_r {big : List Cond} (ws : List Cond) (ps : List Nat) (hp : ws = ps.filterMap (fun i => big[i]?)) (h : ws.all goodWord = true) : GoodIn big ws := by
  intro w hw
  have h1 := List.all_eq_true.mp h w hw
  rw [hp] at hw
  obtain ⟨i, -, hi⟩ := List.mem_filterMap.mp hw
  have hm : w ∈ big := by first | exact List.mem_of_getElem? hi | exact List.getElem?_mem hi
  exact ⟨hm, good_of_word h1⟩
theorem goodIn_app {big a b : List Cond} (ha : GoodIn big a) (hb : GoodIn big b) : GoodIn big (a ++ b) := fun w h => (List.mem_append.mp h).elim (ha w) (hb w)
theorem goodIn_ca {big a b : List Cond} {c : Cond} (ha : GoodIn big (c :: a)) (hb : GoodIn big b) : GoodIn big (c :: (a ++ b)) := fun w h => (List.mem_cons.mp h).elim (fun e => ha w (List.mem_cons.mpr (Or.inl e))) (fun h => (List.mem_append.mp h).elim (fun h => ha w (List.mem_cons.mpr (Or.inr h))) (hb w))
theorem goodIn_sub {big ws : List Cond} (hm : ∀ w ∈ ws, w ∈ big) (h : ws.all goodWord = true) : GoodIn big ws := fun w hw => ⟨hm w hw, good_of_word (List.all_eq_true.mp h w hw)⟩
/-! ===== END ===== -/

/-! ===== BEGIN exceptions that leave a method, and their catching by the caller (launches without stack traces) ===== -/
section VXA
/-! The laws vx_back, vx_callV, vx_callS, vx_callSW, vx_throw0, vx_throwS follow proofs of the library, with one case more: JvmDerived/Free/Laws.lean (Back.of_free), Shelf42/LK1.lean (callV, callS), Shelf/KitTraced.lean (throwNew0V, throwNewS). -/
/-- where a method has thrown q: the class by its name, the cell, what was written, the world -/
def vx_T (XC : String → State → State → Prop) (st : State) (q : Addr) (t : State) (mc ms : Nat) (free : Addr → Prop) : Prop :=
  ∃ (E : String) (ce : Cell) (L : List Loc), XC E st t ∧ t.heap[q]? = some ce ∧ ce.vm = .none ∧ st.vm.findClass E = some ce.cls ∧ st.WarmedH t.vm ∧ st.sameButNew ({ t with vm := st.vm } : State) L mc ms ∧ ∀ z ∈ L, free z.base
def vx_Q (Qc : Array Value → State → Outcome → State → Prop) (XC : String → State → State → Prop) (mc ms : Nat) (free : Addr → Prop) : Array Value → State → Outcome → State → Prop := fun a st o t =>
  (Qc a st o t ∧ ∃ L, FrameEnd st o t L mc ms ∧ ∀ q ∈ L, free q.base) ∨ ∃ q, o = .threw q ∧ vx_T XC st q t mc ms free
/-- a callee that returns or throws -/
def vx_Met (l : Launch) (y : MethodName) (ws : List Cond) (rm : Room) (Pc : Array Value → State → Prop) (Qc : Array Value → State → Outcome → State → Prop) (XC : String → State → State → Prop) (mc ms : Nat) (free : Addr → Prop) : Prop :=
  MetFree l y (headSpec ws rm) Pc (fun _ _ _ _ _ => True) (vx_Q Qc XC mc ms free)
def vx_Post (XC : String → State → State → Prop) (mc ms : Nat) (free : Addr → Prop) : Pt → Array Value → Addr → Pt → Prop := fun A a q B =>
  ∃ (g : JFrame) (mk : MethodId) (t : State) (L : List Loc) (E : String) (ce : Cell), B.U.heap = t.heap ∧ B.U.vm = t.vm ∧ XC E (A.U.calling g mk a) t ∧ t.heap[q]? = some ce ∧ ce.vm = .none ∧ A.U.vm.findClass E = some ce.cls ∧ B.locs = A.locs ++ L ∧ (∀ z ∈ L, free z.base) ∧ B.cells = A.cells + mc ∧ B.slots = A.slots + ms
def vx_Back (l : Launch) (R : Room) (p : Program) (e : Env) (below : List Frame) (s : State) (sargs : Array Value) (y : MethodName) (len W9 : Nat)
    (Pre : Pt → Array Value → Prop) (Post : Pt → Array Value → Option Value → Pt → Prop) (PostX : Pt → Array Value → Addr → Pt → Prop) : Prop :=
  ∀ (m : MethodId) (meth : Method) (c : Code) (A : Pt) (g : JFrame) (ig : Instr) (mk : MethodId) (a : Array Value),
    Stand p l e R s m sargs below meth c A.U A.locs A.cells A.slots → g.method = m → g.locals.size = c.maxLocals → decode c.code g.pc = .ok (ig, len) →
    2 * g.monitorRoom + (g.stack.map fun v => v.category).sum ≤ W9 → A.U.methodNamed? y = some mk → Pre A a →
    (∃ (v : Option Value) (B : Pt), Stand p l e R s m sargs below meth c B.U B.locs B.cells B.slots ∧ Post A a v B ∧
      Steps p.tables e below (doInvoke e (A.U.setTop g) [] mk a).1 (B.U.setTop { g with pc := g.pc + len, stack := v.toList ++ g.stack })) ∨
    (∃ (q : Addr) (B : Pt), Stand p l e R s m sargs below meth c B.U B.locs B.cells B.slots ∧ PostX A a q B ∧
      Steps p.tables e below (doInvoke e (A.U.setTop g) [] mk a).1 ((B.U.setTop g).pushFrame (.throwing q)))
section Payer
variable {l : Launch} {R : Room} {p : Program} {e : Env} {below : List Frame} {s : State} {sargs : Array Value} {y : MethodName} {len W9 : Nat}
theorem vx_back {ws : List Cond} {rm : Room} {Pc : Array Value → State → Prop} {Qc : Array Value → State → Outcome → State → Prop} {XC : String → State → State → Prop} {mc ms : Nat} {free : Addr → Prop} {bytes : ByteArray} {maxL : Nat} {ret : Option FieldType}
    (hM : vx_Met l y ws rm Pc Qc XC mc ms free) (hblind : FrameBlind Pc) (hrc : rm.cells = mc) (hrs : rm.slots = ms)
    (hframes : rm.frames + 1 ≤ R.frames) (hlocals : W9 + (maxL + 11) + rm.locals ≤ R.locals)
    (hws : ∀ w ∈ ws, ∀ a' U, s.WarmedH U.vm → w.before a' U = true) (hcode : Cond.code y bytes maxL ret ∈ ws) (hinit : ∀ a' U, s.WarmedH U.vm → (Cond.initialized y.cls).before a' U = true) :
    vx_Back l R p e below s sargs y len W9 (PreOf R mc ms Pc) (PostOf Qc mc ms free) (vx_Post XC mc ms free) := by
  intro m meth c A g ig mk a X hg hsize hdg hW hn hp
  have h1 : (headSpec ws rm).pre.before a A.U = true := atoms_intro fun w hw => hws w hw _ _ X.warmed
  have h2 : (Cond.code y bytes maxL ret).before a A.U = true := hws _ hcode _ _ X.warmed
  have h3 : (Cond.initialized y.cls).before a A.U = true := hinit _ _ X.warmed
  have h4 : A.cells + (headSpec ws rm).room.cells ≤ R.cells := by rw [show (headSpec ws rm).room.cells = mc from hrc]; exact hp.1
  have h5 : A.slots + (headSpec ws rm).room.slots ≤ R.slots := by rw [show (headSpec ws rm).room.slots = ms from hrs]; exact hp.2.1
  have hPc : Pc a (A.U.calling g mk a) := hblind _ _ _ _ hp.2.2
  obtain ⟨U, Ls, c0, s0⟩ := A
  dsimp only [Pt.U, Pt.locs, Pt.cells, Pt.slots] at h1 h2 h3 h4 h5 X hn hPc ⊢
  obtain ⟨methY, cY, hmY, hcY, -, hlY, -, -, -, -⟩ := Cond.code_spec hn h2
  obtain ⟨kY, hkY, -⟩ := className_of_methodNamed hn
  have hinitY : kY.init = .initialized := Cond.initialized_spec (findClass_of_methodNamed hn) hkY h3
  have h : At U g.method c below := by rw [hg]; exact X.here
  have hlocals9 : W9 + (maxL + 11) + (headSpec ws rm).room.locals ≤ R.locals := hlocals
  have happ : (headSpec ws rm).appliesLoose y e.platform (U.calling g mk a) = true :=
    Spec.appliesLoose_calling (g := g) h hdg hn hkY hinitY
      (X.room_calling (g := g) (R' := (headSpec ws rm).room) hsize hmY hcY hframes (by rw [hlY]; omega) h4 h5) h1
  obtain ⟨mid, hmid⟩ := h.above
  have hfr : (U.setTop g).frames = (.java g :: mid) ++ below := by rw [State.frames_setTop' g h.top, hmid]; rfl
  obtain ⟨o, s₂, hsteps, -, hend, hq⟩ := Steps.callFree hM p X.admits X.cas X.clock (acts := []) hfr happ hPc trivial
  have hq' : vx_Q Qc XC mc ms free a (U.calling g mk a) o s₂ := hq
  rw [State.frames_setTop' g h.top] at hend
  obtain ⟨g₀, hg0⟩ := Option.isSome_iff_exists.mp h.top
  obtain ⟨r, hr⟩ := State.topJava?_eq_some.mp hg0
  have hr' : (({ U with heap := s₂.heap, slotsUsed := s₂.slotsUsed } : State).setVm s₂.vm).frames = .java g₀ :: r := hr
  rcases hq' with ⟨hqc, L, hfe, hL⟩ | ⟨q, rfl, E, ce, L, hx, hce, hcv, hcl, hW₂, hsm, hL⟩
  · obtain ⟨⟨v, rfl⟩, hW₂, e2, q2, q3, q4, q5, q6⟩ := id hfe
    have e3 : s₂ = ({ (U.calling g mk a).setFrames s₂.frames with heap := s₂.heap, slotsUsed := s₂.slotsUsed } : State).setVm s₂.vm := by
      have : s₂ = ({ s₂ with vm := (U.calling g mk a).vm } : State).setVm s₂.vm := rfl
      rw [e2] at this
      exact this
    obtain ⟨c₂, i₂, len₂, hc₂, hd₂, hf₂⟩ := hend
    have hW' : U.WarmedH s₂.vm := hW₂
    have hcc : c₂ = c := by
      have h1 : s₂.code? g.method = U.code? g.method := by
        rw [State.code?_eq, State.code?_eq, hW'.alike.method?]
      exact Option.some.inj (hc₂.symm.trans (h1.trans h.code))
    subst hcc
    have hlen : len₂ = len := by rw [hdg] at hd₂; cases hd₂; rfl
    subst hlen
    have hs₂ : s₂ = (({ U with heap := s₂.heap, slotsUsed := s₂.slotsUsed } : State).setVm s₂.vm).setTop { g with pc := g.pc + len₂, stack := v.toList ++ g.stack } := by
      refine e3.trans ?_
      rw [hf₂, State.calling_eq h.top, State.setFrames_setFrames, State.setTop_of_frames _ hr', hr]
      rfl
    have hsame : U.sameButNew ({ U with heap := s₂.heap, slotsUsed := s₂.slotsUsed } : State) L mc ms := by
      refine ⟨?_, q2, q3, q4, q5, q6⟩
      obtain ⟨t, ht, -⟩ := State.frames_cons hr
      show ({ U with heap := s₂.heap, slotsUsed := s₂.slotsUsed } : State) = { U.setFrames U.frames with heap := s₂.heap, slotsUsed := s₂.slotsUsed }
      rw [State.setFrames_self ht]
    subst hg
    refine Or.inl ⟨v, ⟨(({ U with heap := s₂.heap, slotsUsed := s₂.slotsUsed } : State).setVm s₂.vm), Ls ++ L, c0 + mc, s0 + ms⟩,
      ⟨X.admits, X.cas, X.clock, X.frames, X.room, X.hears, X.method, X.code, (X.here.setHeapUsed s₂.heap s₂.slotsUsed).setVm hW'.alike, X.tail, State.WarmedH.trans X.warmed hW', X.limits, X.bytes, X.same.trans (hsame.setVm s.vm)⟩,
      ⟨g, mk, s₂, L, rfl, rfl, hqc, rfl, hL, rfl, rfl⟩, ?_⟩
    show Steps p.tables e below _ ((({ U with heap := s₂.heap, slotsUsed := s₂.slotsUsed } : State).setVm s₂.vm).setTop { g with pc := g.pc + len₂, stack := v.toList ++ g.stack })
    rw [← hs₂]
    exact hsteps
  · obtain ⟨e2, q2, q3, q4, q5, q6⟩ := id hsm
    have e3 : s₂ = ({ (U.calling g mk a).setFrames s₂.frames with heap := s₂.heap, slotsUsed := s₂.slotsUsed } : State).setVm s₂.vm := by
      have : s₂ = ({ s₂ with vm := (U.calling g mk a).vm } : State).setVm s₂.vm := rfl
      rw [e2] at this
      exact this
    have hf₂ : s₂.frames = .throwing q :: .java g :: U.frames.tail := hend
    have hW' : U.WarmedH s₂.vm := hW₂
    have hs₂ : s₂ = ((({ U with heap := s₂.heap, slotsUsed := s₂.slotsUsed } : State).setVm s₂.vm).setTop g).pushFrame (.throwing q) := by
      refine e3.trans ?_
      rw [hf₂, State.calling_eq h.top, State.setFrames_setFrames, State.pushFrame, State.frames_setTop _ hr', State.setTop_of_frames _ hr', State.setFrames_setFrames, hr]
      rfl
    have hsame : U.sameButNew ({ U with heap := s₂.heap, slotsUsed := s₂.slotsUsed } : State) L mc ms := by
      refine ⟨?_, q2, q3, q4, q5, q6⟩
      obtain ⟨t, ht, -⟩ := State.frames_cons hr
      show ({ U with heap := s₂.heap, slotsUsed := s₂.slotsUsed } : State) = { U.setFrames U.frames with heap := s₂.heap, slotsUsed := s₂.slotsUsed }
      rw [State.setFrames_self ht]
    subst hg
    refine Or.inr ⟨q, ⟨(({ U with heap := s₂.heap, slotsUsed := s₂.slotsUsed } : State).setVm s₂.vm), Ls ++ L, c0 + mc, s0 + ms⟩,
      ⟨X.admits, X.cas, X.clock, X.frames, X.room, X.hears, X.method, X.code, (X.here.setHeapUsed s₂.heap s₂.slotsUsed).setVm hW'.alike, X.tail, State.WarmedH.trans X.warmed hW', X.limits, X.bytes, X.same.trans (hsame.setVm s.vm)⟩,
      ⟨g, mk, s₂, L, E, ce, rfl, rfl, hx, hce, hcv, hcl, rfl, hL, rfl, rfl⟩, ?_⟩
    show Steps p.tables e below _ (((({ U with heap := s₂.heap, slotsUsed := s₂.slotsUsed } : State).setVm s₂.vm).setTop g).pushFrame (.throwing q))
    rw [← hs₂]
    exact hsteps
end Payer
section Calls
variable {p : Program} {l : Launch} {e : Env} {R : Room} {s : State} {m : MethodId} {args : Array Value} {below : List Frame} {meth : Method} {c : Code} {T : State} {locs : List Loc} {cells slots : Nat}
theorem vx_callV (X : Stand p l e R s m args below meth c T locs cells slots) (hexec : p.tables.exec = Jvm.exec) {own C : String} {index : Nat} {y : MethodName} {bytes : ByteArray} {maxL : Nat} {ret : Option FieldType}
    (hown : s.vm.findClass own = some m.cls) (hlink : (Cond.methodLink own index y).before args s = true) (hinst : (Cond.instanceMethod y).before args s = true) (hsel : (Cond.selects C y y).before args s = true)
    (hcode : (Cond.code y bytes maxL ret).before args s = true) (hy : y.cls ≠ "java/lang/invoke/MethodHandle" ∧ y.cls ≠ "java/lang/invoke/VarHandle")
    {W9 : Nat} {Pre : Pt → Array Value → Prop} {Post : Pt → Array Value → Option Value → Pt → Prop} {PostX : Pt → Array Value → Addr → Pt → Prop} (hK : vx_Back l R p e below s args y 3 W9 Pre Post PostX)
    {b : Addr} {cellB : Cell} (hcell : T.heap[b]? = some cellB) (hobj : cellB.vm.isStatics = false) (hcls : s.vm.findClass C = some cellB.cls)
    {g : JFrame} (hg : g.method = m) (hsize : g.locals.size = c.maxLocals) {argsL rest : List Value} (hlen : ∀ sig, parseMethodDescriptor y.desc = some sig → argsL.length = sig.parameters.length)
    (hstack : g.stack = argsL.reverse ++ .ref b :: rest) (hW : 2 * g.monitorRoom + (rest.map fun v => v.category).sum ≤ W9) (hdg : decode c.code g.pc = .ok (.invokevirtual index, 3))
    (hpre : ∀ vm₁, s.WarmedH vm₁ → Pre ⟨T.setVm vm₁, locs, cells, slots⟩ (Value.ref b :: argsL).toArray) :
    (∃ (v : Option Value) (vm₁ : Vm) (B : Pt), s.WarmedH vm₁ ∧ Stand p l e R s m args below meth c B.U B.locs B.cells B.slots ∧ Post ⟨T.setVm vm₁, locs, cells, slots⟩ (Value.ref b :: argsL).toArray v B ∧
      ∀ target, Steps p.tables e below (B.U.setTop { g with pc := g.pc + 3, stack := v.toList ++ rest }) target → Steps p.tables e below (T.setTop g) target) ∨
    (∃ (q : Addr) (vm₁ : Vm) (B : Pt), s.WarmedH vm₁ ∧ Stand p l e R s m args below meth c B.U B.locs B.cells B.slots ∧ PostX ⟨T.setVm vm₁, locs, cells, slots⟩ (Value.ref b :: argsL).toArray q B ∧
      Steps p.tables e below (T.setTop g) ((B.U.setTop { g with stack := rest }).pushFrame (.throwing q))) := by
  obtain ⟨mk, methM, hnamed, hmethM, hstM, habM⟩ := Cond.instanceMethod_spec hinst
  obtain ⟨methM', cM, hmethM', -, -, -, -, -, -, hsigM⟩ := Cond.code_spec hnamed hcode
  cases hmethM.symm.trans hmethM'
  obtain ⟨c2, r2, m2, q1, q2, q3, q4, kP, hkP, hkPi⟩ := Cond.selects_spec hsel
  cases hcls.symm.trans q1
  cases (State.methodFound?_of_named hnamed hy).symm.trans q2
  cases hnamed.symm.trans q3
  have hselP : selectMethod e.platform s.vm cellB.cls mk = .method mk := by rw [Launch.admits_selectMethod X.admits]; exact q4
  obtain ⟨vm₁, X₁, hstep₁⟩ := X.invokevirtual hexec hown hlink hnamed hmethM hstM hkP hkPi hy (a := b) (cell := cellB) hcell
    (fun z h => by rw [h] at hobj; cases hobj) hselP hmethM habM hkP hkPi (g := g) hg (argsL := argsL) (rest := rest) (hlen _ hsigM) hstack hdg
  rcases hK m meth c ⟨T.setVm vm₁, locs, cells, slots⟩ { g with stack := rest } (.invokevirtual index) mk (Value.ref b :: argsL).toArray X₁ hg hsize hdg hW (X₁.named hnamed) (hpre vm₁ X₁.warmed) with ⟨v, B, X', hpost, hsteps⟩ | ⟨q, B, X', hpost, hsteps⟩
  · exact Or.inl ⟨v, vm₁, B, X₁.warmed, X', hpost, fun target h => hstep₁ _ fun acts => by rw [doInvoke_state]; exact hsteps.trans h⟩
  · exact Or.inr ⟨q, vm₁, B, X₁.warmed, X', hpost, hstep₁ _ fun acts => by rw [doInvoke_state]; exact hsteps⟩
theorem vx_callS (X : Stand p l e R s m args below meth c T locs cells slots) (hexec : p.tables.exec = Jvm.exec) {own : String} {index : Nat} {y : MethodName} {bytes : ByteArray} {maxL : Nat} {ret : Option FieldType}
    (hown : s.vm.findClass own = some m.cls) (hlink : (Cond.methodLink own index y).before args s = true) (hstat : (Cond.static y).before args s = true) (hinit : (Cond.initialized y.cls).before args s = true)
    (hcode : (Cond.code y bytes maxL ret).before args s = true) (hy : y.cls ≠ "java/lang/invoke/MethodHandle" ∧ y.cls ≠ "java/lang/invoke/VarHandle")
    {W9 : Nat} {Pre : Pt → Array Value → Prop} {Post : Pt → Array Value → Option Value → Pt → Prop} {PostX : Pt → Array Value → Addr → Pt → Prop} (hK : vx_Back l R p e below s args y 3 W9 Pre Post PostX)
    {g : JFrame} (hg : g.method = m) (hsize : g.locals.size = c.maxLocals) {argsL rest : List Value} (hlen : ∀ sig, parseMethodDescriptor y.desc = some sig → argsL.length = sig.parameters.length)
    (hstack : g.stack = argsL.reverse ++ rest) (hW : 2 * g.monitorRoom + (rest.map fun v => v.category).sum ≤ W9) (hdg : decode c.code g.pc = .ok (.invokestatic index, 3))
    (hpre : ∀ vm₁, s.WarmedH vm₁ → Pre ⟨T.setVm vm₁, locs, cells, slots⟩ argsL.toArray) :
    (∃ (v : Option Value) (vm₁ : Vm) (B : Pt), s.WarmedH vm₁ ∧ Stand p l e R s m args below meth c B.U B.locs B.cells B.slots ∧ Post ⟨T.setVm vm₁, locs, cells, slots⟩ argsL.toArray v B ∧
      ∀ target, Steps p.tables e below (B.U.setTop { g with pc := g.pc + 3, stack := v.toList ++ rest }) target → Steps p.tables e below (T.setTop g) target) ∨
    (∃ (q : Addr) (vm₁ : Vm) (B : Pt), s.WarmedH vm₁ ∧ Stand p l e R s m args below meth c B.U B.locs B.cells B.slots ∧ PostX ⟨T.setVm vm₁, locs, cells, slots⟩ argsL.toArray q B ∧
      Steps p.tables e below (T.setTop g) ((B.U.setTop { g with stack := rest }).pushFrame (.throwing q))) := by
  obtain ⟨mk, hnamed⟩ := Cond.code_named hcode
  obtain ⟨methM, cM, hmethM, -, -, -, -, -, -, hsigM⟩ := Cond.code_spec hnamed hcode
  have hstatic : methM.isStatic = true := Cond.static_spec hnamed hmethM hstat
  obtain ⟨kP, hkP, -⟩ := className_of_methodNamed hnamed
  have hinitP : kP.init = .initialized := Cond.initialized_spec (findClass_of_methodNamed hnamed) hkP hinit
  obtain ⟨vm₁, X₁, hstep₁⟩ := X.invokestatic hexec hown hlink hnamed hmethM hstatic hkP hinitP hy (g := g) hg (argsL := argsL) (rest := rest) (hlen _ hsigM) hstack hdg
  rcases hK m meth c ⟨T.setVm vm₁, locs, cells, slots⟩ { g with stack := rest } (.invokestatic index) mk argsL.toArray X₁ hg hsize hdg hW (X₁.named hnamed) (hpre vm₁ X₁.warmed) with ⟨v, B, X', hpost, hsteps⟩ | ⟨q, B, X', hpost, hsteps⟩
  · exact Or.inl ⟨v, vm₁, B, X₁.warmed, X', hpost, fun target h => hstep₁ _ fun acts => by rw [doInvoke_state]; exact hsteps.trans h⟩
  · exact Or.inr ⟨q, vm₁, B, X₁.warmed, X', hpost, hstep₁ _ fun acts => by rw [doInvoke_state]; exact hsteps⟩
end Calls
theorem vx_cls {s : State} {T : State} {vm₁ : Vm} {E : String} {k : ClassId} (hW : s.WarmedH vm₁) (h : (T.setVm vm₁).vm.findClass E = some k) : s.vm.findClass E = some k := by
  have h1 : vm₁.findClass E = some k := h
  rw [hW.alike.findClass] at h1
  exact h1
/-- the method's frame g, with q thrown over it -/
def vx_W (p : Program) (l : Launch) (e : Env) (R : Room) (s : State) (m : MethodId) (args : Array Value) (below : List Frame) (meth : Method) (c : Code) (H : Heap) (locs : List Loc) (cells slots : Nat) (Q : State → Prop) (g : JFrame) (q : Addr) : Prop :=
  ∀ T : State, T.heap = H → Stand p l e R s m args below meth c T locs cells slots → ∃ t, Steps p.tables e below ((T.setTop g).pushFrame (.throwing q)) t ∧ Q t
def vx_Run (p : Program) (l : Launch) (e : Env) (R : Room) (s : State) (m : MethodId) (args : Array Value) (below : List Frame) (meth : Method) (c : Code) (H : Heap) (locs : List Loc) (cells slots mc ms : Nat) (g : JFrame) (rest : List Value) (Qa : State → Outcome → State → Prop) (XC : String → State → State → Prop) (free : Addr → Prop) : Prop :=
  ∀ T : State, T.heap = H → Stand p l e R s m args below meth c T locs cells slots →
    (∃ (v : Option Value) (st₀ t T' : State) (L : List Loc), st₀.heap = H ∧ Stand p l e R s m args below meth c T' (locs ++ L) (cells + mc) (slots + ms) ∧ (∀ q ∈ L, free q.base) ∧ T'.heap = t.heap ∧ T'.vm = t.vm ∧ Qa st₀ (.returned v) t ∧
      Goes p e below T g T' { g with pc := g.pc + 3, stack := v.toList ++ rest }) ∨
    (∃ (q : Addr) (st₀ t T' : State) (L : List Loc) (E : String) (ce : Cell), st₀.heap = H ∧ Stand p l e R s m args below meth c T' (locs ++ L) (cells + mc) (slots + ms) ∧ (∀ z ∈ L, free z.base) ∧ T'.heap = t.heap ∧ T'.vm = t.vm ∧ XC E st₀ t ∧ t.heap[q]? = some ce ∧ ce.vm = .none ∧ s.vm.findClass E = some ce.cls ∧
      Steps p.tables e below (T.setTop g) ((T'.setTop { g with stack := rest }).pushFrame (.throwing q)))
def vx_X {S : Type} (px : S → Prop) (B : String → S → State → Prop) (A : Nat → Prop) : String → State → State → Prop := fun E st t => ∃ u : S, px u ∧ B E u t ∧ va_F A st t
section Runs
variable {p : Program} {l : Launch} {e : Env} {R : Room} {s : State} {m : MethodId} {args : Array Value} {below : List Frame} {meth : Method} {c : Code} {H : Heap} {locs : List Loc} {cells slots : Nat}
variable {y : MethodName} {bytes cc : ByteArray} {maxL nL mc ms n index : Nat} {ret : Option FieldType} {ws : List Cond} {rm : Room} {Pc : Array Value → State → Prop} {Qc : Array Value → State → Outcome → State → Prop} {XC : String → State → State → Prop} {free : Addr → Prop} {Ts : List Cond} {own C : String} {b : Addr} {As rest : List Value} {g : JFrame}
theorem vx_callBack (cb : CallB R s args own index y bytes maxL ret ws rm mc ms n) (hM : vx_Met l y ws rm Pc Qc XC mc ms free) (hbl : FrameBlind Pc) : vx_Back l R p e below s args y 3 8 (PreOf R mc ms Pc) (PostOf Qc mc ms free) (vx_Post XC mc ms free) := by
  obtain ⟨hrc, hrs, hfr, hlo, hws, hcw, -, hini, -⟩ := cb
  exact vx_back (bytes := bytes) (maxL := maxL) (ret := ret) hM hbl hrc hrs hfr hlo hws hcw (fun a' U hW => word_at hW (Or.inl (by first | rfl | simp [Cond.onTables, Cond.keeps, Cond.steady])) hini)
theorem vx_runV (S : CallFix p m c cc nL s args Ts own) (hM : vx_Met l y ws rm Pc Qc XC mc ms free) (cw : CallW R s args own C index y bytes maxL ret ws rm mc ms n) (hp : PreV s H C b Pc As)
    (hg : g.method = m) (hn : As.length = n) (hsize : g.locals.size = nL) (hstack : g.stack = As.reverse ++ .ref b :: rest) (hW : 2 * g.monitorRoom + (rest.map fun v => v.category).sum ≤ 8) (hdg : decode cc g.pc = .ok (.invokevirtual index, 3)) (hf : cells + mc ≤ R.cells ∧ slots + ms ≤ R.slots) :
    vx_Run p l e R s m args below meth c H locs cells slots mc ms g rest (Qc (Value.ref b :: As).toArray) XC free := by
  have hK : vx_Back l R p e below s args y 3 8 (PreOf R mc ms Pc) (PostOf Qc mc ms free) (vx_Post XC mc ms free) := vx_callBack cw.1 hM hp.1
  obtain ⟨⟨-, -, -, -, -, -, hcode, -, hy, hlen, hl⟩, hin, hse⟩ := cw
  obtain ⟨hx, hb, hml, ho, -⟩ := S
  obtain ⟨-, ⟨cellB, hcB, hoB, hclB⟩, hPc⟩ := hp
  intro T hT X
  rcases vx_callV X hx (C := C) (bytes := bytes) (maxL := maxL) (ret := ret) ho hl hin hse hcode hy hK (by rw [hT]; exact hcB) hoB hclB hg (hsize.trans hml.symm) (argsL := As) (rest := rest) (fun sig h => hn.trans (hlen sig h)) hstack hW (by rw [hb]; exact hdg)
    (fun vm₁ hW₁ => ⟨hf.1, hf.2, hPc (T.setVm vm₁) hT hW₁⟩) with ⟨v, vm₁, ⟨U', l2, c2, s2⟩, hW₁, X', ⟨g', mk, t, L, e1, e2, hq, h1, hL, h2, h3⟩, st⟩ | ⟨q, vm₁, ⟨U', l2, c2, s2⟩, hW₁, X', ⟨g', mk, t, L, E, ce, e1, e2, hq, hce, hcv, hcl, h1, hL, h2, h3⟩, st⟩
  · dsimp only [Pt.U, Pt.locs, Pt.cells, Pt.slots] at X' e1 e2 h1 h2 h3 st
    subst h1; subst h2; subst h3
    exact Or.inl ⟨v, (T.setVm vm₁).calling g' mk (Value.ref b :: As).toArray, t, U', L, hT, X', hL, e1, e2, hq, st⟩
  · dsimp only [Pt.U, Pt.locs, Pt.cells, Pt.slots] at X' e1 e2 h1 h2 h3 st hcl
    subst h1; subst h2; subst h3
    exact Or.inr ⟨q, (T.setVm vm₁).calling g' mk (Value.ref b :: As).toArray, t, U', L, E, ce, hT, X', hL, e1, e2, hq, hce, hcv, vx_cls hW₁ hcl, st⟩
theorem vx_runS (S : CallFix p m c cc nL s args Ts own) (hM : vx_Met l y ws rm Pc Qc XC mc ms free) (cw : CallB R s args own index y bytes maxL ret ws rm mc ms n ∧ (Cond.static y).before args s = true) (hp : PreS s H Pc As)
    (hg : g.method = m) (hn : As.length = n) (hsize : g.locals.size = nL) (hstack : g.stack = As.reverse ++ rest) (hW : 2 * g.monitorRoom + (rest.map fun v => v.category).sum ≤ 8) (hdg : decode cc g.pc = .ok (.invokestatic index, 3)) (hf : cells + mc ≤ R.cells ∧ slots + ms ≤ R.slots) :
    vx_Run p l e R s m args below meth c H locs cells slots mc ms g rest (Qc As.toArray) XC free := by
  have hK : vx_Back l R p e below s args y 3 8 (PreOf R mc ms Pc) (PostOf Qc mc ms free) (vx_Post XC mc ms free) := vx_callBack cw.1 hM hp.1
  obtain ⟨⟨-, -, -, -, -, -, hcode, hini, hy, hlen, hl⟩, hstt⟩ := cw
  obtain ⟨hx, hb, hml, ho, -⟩ := S
  intro T hT X
  rcases vx_callS X hx (bytes := bytes) (maxL := maxL) (ret := ret) ho hl hstt hini hcode hy hK hg (hsize.trans hml.symm) (argsL := As) (rest := rest) (fun sig h => hn.trans (hlen sig h)) hstack hW (by rw [hb]; exact hdg)
    (fun vm₁ hW₁ => ⟨hf.1, hf.2, hp.2 (T.setVm vm₁) hT hW₁⟩) with ⟨v, vm₁, ⟨U', l2, c2, s2⟩, hW₁, X', ⟨g', mk, t, L, e1, e2, hq, h1, hL, h2, h3⟩, st⟩ | ⟨q, vm₁, ⟨U', l2, c2, s2⟩, hW₁, X', ⟨g', mk, t, L, E, ce, e1, e2, hq, hce, hcv, hcl, h1, hL, h2, h3⟩, st⟩
  · dsimp only [Pt.U, Pt.locs, Pt.cells, Pt.slots] at X' e1 e2 h1 h2 h3 st
    subst h1; subst h2; subst h3
    exact Or.inl ⟨v, (T.setVm vm₁).calling g' mk As.toArray, t, U', L, hT, X', hL, e1, e2, hq, st⟩
  · dsimp only [Pt.U, Pt.locs, Pt.cells, Pt.slots] at X' e1 e2 h1 h2 h3 st hcl
    subst h1; subst h2; subst h3
    exact Or.inr ⟨q, (T.setVm vm₁).calling g' mk As.toArray, t, U', L, E, ce, hT, X', hL, e1, e2, hq, hce, hcv, vx_cls hW₁ hcl, st⟩
end Runs
section Rows
variable {p : Program} {l : Launch} {e : Env} {R : Room} {s : State} {m : MethodId} {args : Array Value} {below : List Frame} {meth : Method} {c : Code} {H : Heap} {locs : List Loc} {cells slots : Nat} {Q : State → Prop}
variable {mc ms : Nat} {free : Addr → Prop} {A0 A1 : Nat → Prop} {H0 : Heap} {a : Array Value} {pc : Nat} {ls : Array Slot} {st0 rest : List Value}
theorem vx_keep {st₀ t T' : State} {L : List Loc} (h0 : st₀.heap = H) (e1 : T'.heap = t.heap) (hS : va_S A0 H0 H locs) (hA : ∀ q, q < H.size → A1 q → A0 q) (hf : ∀ q, free q → A0 q) (hL : ∀ q ∈ L, free q.base) (hF : va_F A1 st₀ t) :
    H.size ≤ T'.heap.size ∧ (∀ q : Nat, q < H.size → ¬ A1 q → T'.heap[q]? = H[q]?) ∧ va_S A0 H0 T'.heap (locs ++ L) := by
  obtain ⟨hz, hk⟩ := hF
  rw [h0] at hz hk
  exact ⟨by rw [e1]; exact hz, fun q h1 h2 => by rw [e1]; exact hk q h1 h2,
    ⟨Nat.le_trans hS.1 (by rw [e1]; exact hz), fun q h1 h2 => by rw [e1, hk q (Nat.lt_of_lt_of_le h1 hS.1) (fun z => h2 (hA q (Nat.lt_of_lt_of_le h1 hS.1) z))]; exact hS.2.1 q h1 h2, fun q hq => by
      rcases List.mem_append.mp hq with h | h
      · exact hS.2.2 q h
      · exact hf _ (hL q h)⟩⟩
theorem vx_calli {S SX : Type} {post : Int32 → S → Prop} {px : SX → Prop} {B : S → State → Prop} {BX : String → SX → State → Prop} {AX : Nat → Prop} (hr : vx_Run p l e R s m args below meth c H locs cells slots mc ms (F0 m pc ls st0) rest (va_Qi post B A1 a) (vx_X px BX AX) free) (hS : va_S A0 H0 H locs) (hA : ∀ q, q < H.size → A1 q → A0 q) (hf : ∀ q, free q → A0 q) (hAX : ∀ q, q < H.size → AX q → A0 q)
    (kx : ∀ (E : String) (ce : Cell) (q9 : Addr) (u : SX) (t : State) (H1 : Heap) (locs1 : List Loc), t.heap = H1 → s.vm.Alike t.vm → px u → BX E u t → H.size ≤ H1.size → (∀ q : Nat, q < H.size → ¬ AX q → H1[q]? = H[q]?) → va_S A0 H0 H1 locs1 → H1[q9]? = some ce → ce.vm = .none → s.vm.findClass E = some ce.cls → vx_W p l e R s m args below meth c H1 locs1 (cells + mc) (slots + ms) Q (F0 m pc ls rest) q9)
    (kk : ∀ (r : Int32) (u : S) (t : State) (H1 : Heap) (locs1 : List Loc), t.heap = H1 → s.vm.Alike t.vm → post r u → B u t → H.size ≤ H1.size → (∀ q : Nat, q < H.size → ¬ A1 q → H1[q]? = H[q]?) → va_S A0 H0 H1 locs1 → W p l e R s m args below meth c H1 locs1 (cells + mc) (slots + ms) Q (F0 m (pc + 3) ls (.int r :: rest))) : W p l e R s m args below meth c H locs cells slots Q (F0 m pc ls st0) := by
  intro T hT X
  rcases hr T hT X with ⟨v, st₀, t, T', L, h0, X', hL, e1, e2, ⟨⟨r, u, hv, hp, hb⟩, hF⟩, st⟩ | ⟨q, st₀, t, T', L, E, ce, h0, X', hL, e1, e2, ⟨u, hp, hb, hF⟩, hce, hcv, hcl, st⟩
  · cases hv
    obtain ⟨k1, k2, k3⟩ := vx_keep h0 e1 hS hA hf hL hF
    obtain ⟨t2, a1, b1⟩ := kk r u t T'.heap (locs ++ L) e1.symm (by rw [← e2]; exact X'.warmed.alike) hp hb k1 k2 k3 T' rfl X'
    exact ⟨t2, st t2 a1, b1⟩
  · obtain ⟨k1, k2, k3⟩ := vx_keep h0 e1 hS hAX hf hL hF
    obtain ⟨t2, a1, b1⟩ := kx E ce q u t T'.heap (locs ++ L) e1.symm (by rw [← e2]; exact X'.warmed.alike) hp hb k1 k2 k3 (by rw [e1]; exact hce) hcv hcl T' rfl X'
    exact ⟨t2, st.trans a1, b1⟩
theorem vx_calll {S SX : Type} {post : Int64 → S → Prop} {px : SX → Prop} {B : S → State → Prop} {BX : String → SX → State → Prop} {AX : Nat → Prop} (hr : vx_Run p l e R s m args below meth c H locs cells slots mc ms (F0 m pc ls st0) rest (va_Ql post B A1 a) (vx_X px BX AX) free) (hS : va_S A0 H0 H locs) (hA : ∀ q, q < H.size → A1 q → A0 q) (hf : ∀ q, free q → A0 q) (hAX : ∀ q, q < H.size → AX q → A0 q)
    (kx : ∀ (E : String) (ce : Cell) (q9 : Addr) (u : SX) (t : State) (H1 : Heap) (locs1 : List Loc), t.heap = H1 → s.vm.Alike t.vm → px u → BX E u t → H.size ≤ H1.size → (∀ q : Nat, q < H.size → ¬ AX q → H1[q]? = H[q]?) → va_S A0 H0 H1 locs1 → H1[q9]? = some ce → ce.vm = .none → s.vm.findClass E = some ce.cls → vx_W p l e R s m args below meth c H1 locs1 (cells + mc) (slots + ms) Q (F0 m pc ls rest) q9)
    (kk : ∀ (r : Int64) (u : S) (t : State) (H1 : Heap) (locs1 : List Loc), t.heap = H1 → s.vm.Alike t.vm → post r u → B u t → H.size ≤ H1.size → (∀ q : Nat, q < H.size → ¬ A1 q → H1[q]? = H[q]?) → va_S A0 H0 H1 locs1 → W p l e R s m args below meth c H1 locs1 (cells + mc) (slots + ms) Q (F0 m (pc + 3) ls (.long r :: rest))) : W p l e R s m args below meth c H locs cells slots Q (F0 m pc ls st0) := by
  intro T hT X
  rcases hr T hT X with ⟨v, st₀, t, T', L, h0, X', hL, e1, e2, ⟨⟨r, u, hv, hp, hb⟩, hF⟩, st⟩ | ⟨q, st₀, t, T', L, E, ce, h0, X', hL, e1, e2, ⟨u, hp, hb, hF⟩, hce, hcv, hcl, st⟩
  · cases hv
    obtain ⟨k1, k2, k3⟩ := vx_keep h0 e1 hS hA hf hL hF
    obtain ⟨t2, a1, b1⟩ := kk r u t T'.heap (locs ++ L) e1.symm (by rw [← e2]; exact X'.warmed.alike) hp hb k1 k2 k3 T' rfl X'
    exact ⟨t2, st t2 a1, b1⟩
  · obtain ⟨k1, k2, k3⟩ := vx_keep h0 e1 hS hAX hf hL hF
    obtain ⟨t2, a1, b1⟩ := kx E ce q u t T'.heap (locs ++ L) e1.symm (by rw [← e2]; exact X'.warmed.alike) hp hb k1 k2 k3 (by rw [e1]; exact hce) hcv hcl T' rfl X'
    exact ⟨t2, st.trans a1, b1⟩
theorem vx_callf {S SX : Type} {post : UInt32 → S → Prop} {px : SX → Prop} {B : S → State → Prop} {BX : String → SX → State → Prop} {AX : Nat → Prop} (hr : vx_Run p l e R s m args below meth c H locs cells slots mc ms (F0 m pc ls st0) rest (va_Qf post B A1 a) (vx_X px BX AX) free) (hS : va_S A0 H0 H locs) (hA : ∀ q, q < H.size → A1 q → A0 q) (hf : ∀ q, free q → A0 q) (hAX : ∀ q, q < H.size → AX q → A0 q)
    (kx : ∀ (E : String) (ce : Cell) (q9 : Addr) (u : SX) (t : State) (H1 : Heap) (locs1 : List Loc), t.heap = H1 → s.vm.Alike t.vm → px u → BX E u t → H.size ≤ H1.size → (∀ q : Nat, q < H.size → ¬ AX q → H1[q]? = H[q]?) → va_S A0 H0 H1 locs1 → H1[q9]? = some ce → ce.vm = .none → s.vm.findClass E = some ce.cls → vx_W p l e R s m args below meth c H1 locs1 (cells + mc) (slots + ms) Q (F0 m pc ls rest) q9)
    (kk : ∀ (r : UInt32) (u : S) (t : State) (H1 : Heap) (locs1 : List Loc), t.heap = H1 → s.vm.Alike t.vm → post r u → B u t → H.size ≤ H1.size → (∀ q : Nat, q < H.size → ¬ A1 q → H1[q]? = H[q]?) → va_S A0 H0 H1 locs1 → W p l e R s m args below meth c H1 locs1 (cells + mc) (slots + ms) Q (F0 m (pc + 3) ls (.float r :: rest))) : W p l e R s m args below meth c H locs cells slots Q (F0 m pc ls st0) := by
  intro T hT X
  rcases hr T hT X with ⟨v, st₀, t, T', L, h0, X', hL, e1, e2, ⟨⟨r, u, hv, hp, hb⟩, hF⟩, st⟩ | ⟨q, st₀, t, T', L, E, ce, h0, X', hL, e1, e2, ⟨u, hp, hb, hF⟩, hce, hcv, hcl, st⟩
  · cases hv
    obtain ⟨k1, k2, k3⟩ := vx_keep h0 e1 hS hA hf hL hF
    obtain ⟨t2, a1, b1⟩ := kk r u t T'.heap (locs ++ L) e1.symm (by rw [← e2]; exact X'.warmed.alike) hp hb k1 k2 k3 T' rfl X'
    exact ⟨t2, st t2 a1, b1⟩
  · obtain ⟨k1, k2, k3⟩ := vx_keep h0 e1 hS hAX hf hL hF
    obtain ⟨t2, a1, b1⟩ := kx E ce q u t T'.heap (locs ++ L) e1.symm (by rw [← e2]; exact X'.warmed.alike) hp hb k1 k2 k3 (by rw [e1]; exact hce) hcv hcl T' rfl X'
    exact ⟨t2, st.trans a1, b1⟩
theorem vx_calld {S SX : Type} {post : UInt64 → S → Prop} {px : SX → Prop} {B : S → State → Prop} {BX : String → SX → State → Prop} {AX : Nat → Prop} (hr : vx_Run p l e R s m args below meth c H locs cells slots mc ms (F0 m pc ls st0) rest (va_Qd post B A1 a) (vx_X px BX AX) free) (hS : va_S A0 H0 H locs) (hA : ∀ q, q < H.size → A1 q → A0 q) (hf : ∀ q, free q → A0 q) (hAX : ∀ q, q < H.size → AX q → A0 q)
    (kx : ∀ (E : String) (ce : Cell) (q9 : Addr) (u : SX) (t : State) (H1 : Heap) (locs1 : List Loc), t.heap = H1 → s.vm.Alike t.vm → px u → BX E u t → H.size ≤ H1.size → (∀ q : Nat, q < H.size → ¬ AX q → H1[q]? = H[q]?) → va_S A0 H0 H1 locs1 → H1[q9]? = some ce → ce.vm = .none → s.vm.findClass E = some ce.cls → vx_W p l e R s m args below meth c H1 locs1 (cells + mc) (slots + ms) Q (F0 m pc ls rest) q9)
    (kk : ∀ (r : UInt64) (u : S) (t : State) (H1 : Heap) (locs1 : List Loc), t.heap = H1 → s.vm.Alike t.vm → post r u → B u t → H.size ≤ H1.size → (∀ q : Nat, q < H.size → ¬ A1 q → H1[q]? = H[q]?) → va_S A0 H0 H1 locs1 → W p l e R s m args below meth c H1 locs1 (cells + mc) (slots + ms) Q (F0 m (pc + 3) ls (.double r :: rest))) : W p l e R s m args below meth c H locs cells slots Q (F0 m pc ls st0) := by
  intro T hT X
  rcases hr T hT X with ⟨v, st₀, t, T', L, h0, X', hL, e1, e2, ⟨⟨r, u, hv, hp, hb⟩, hF⟩, st⟩ | ⟨q, st₀, t, T', L, E, ce, h0, X', hL, e1, e2, ⟨u, hp, hb, hF⟩, hce, hcv, hcl, st⟩
  · cases hv
    obtain ⟨k1, k2, k3⟩ := vx_keep h0 e1 hS hA hf hL hF
    obtain ⟨t2, a1, b1⟩ := kk r u t T'.heap (locs ++ L) e1.symm (by rw [← e2]; exact X'.warmed.alike) hp hb k1 k2 k3 T' rfl X'
    exact ⟨t2, st t2 a1, b1⟩
  · obtain ⟨k1, k2, k3⟩ := vx_keep h0 e1 hS hAX hf hL hF
    obtain ⟨t2, a1, b1⟩ := kx E ce q u t T'.heap (locs ++ L) e1.symm (by rw [← e2]; exact X'.warmed.alike) hp hb k1 k2 k3 (by rw [e1]; exact hce) hcv hcl T' rfl X'
    exact ⟨t2, st.trans a1, b1⟩
theorem vx_callv {S SX : Type} {post : S → Prop} {px : SX → Prop} {B : S → State → Prop} {BX : String → SX → State → Prop} {AX : Nat → Prop} (hr : vx_Run p l e R s m args below meth c H locs cells slots mc ms (F0 m pc ls st0) rest (va_Qv post B A1 a) (vx_X px BX AX) free) (hS : va_S A0 H0 H locs) (hA : ∀ q, q < H.size → A1 q → A0 q) (hf : ∀ q, free q → A0 q) (hAX : ∀ q, q < H.size → AX q → A0 q)
    (kx : ∀ (E : String) (ce : Cell) (q9 : Addr) (u : SX) (t : State) (H1 : Heap) (locs1 : List Loc), t.heap = H1 → s.vm.Alike t.vm → px u → BX E u t → H.size ≤ H1.size → (∀ q : Nat, q < H.size → ¬ AX q → H1[q]? = H[q]?) → va_S A0 H0 H1 locs1 → H1[q9]? = some ce → ce.vm = .none → s.vm.findClass E = some ce.cls → vx_W p l e R s m args below meth c H1 locs1 (cells + mc) (slots + ms) Q (F0 m pc ls rest) q9)
    (kk : ∀ (u : S) (t : State) (H1 : Heap) (locs1 : List Loc), t.heap = H1 → s.vm.Alike t.vm → post u → B u t → H.size ≤ H1.size → (∀ q : Nat, q < H.size → ¬ A1 q → H1[q]? = H[q]?) → va_S A0 H0 H1 locs1 → W p l e R s m args below meth c H1 locs1 (cells + mc) (slots + ms) Q (F0 m (pc + 3) ls (rest))) : W p l e R s m args below meth c H locs cells slots Q (F0 m pc ls st0) := by
  intro T hT X
  rcases hr T hT X with ⟨v, st₀, t, T', L, h0, X', hL, e1, e2, ⟨⟨u, hv, hp, hb⟩, hF⟩, st⟩ | ⟨q, st₀, t, T', L, E, ce, h0, X', hL, e1, e2, ⟨u, hp, hb, hF⟩, hce, hcv, hcl, st⟩
  · cases hv
    obtain ⟨k1, k2, k3⟩ := vx_keep h0 e1 hS hA hf hL hF
    obtain ⟨t2, a1, b1⟩ := kk u t T'.heap (locs ++ L) e1.symm (by rw [← e2]; exact X'.warmed.alike) hp hb k1 k2 k3 T' rfl X'
    exact ⟨t2, st t2 a1, b1⟩
  · obtain ⟨k1, k2, k3⟩ := vx_keep h0 e1 hS hAX hf hL hF
    obtain ⟨t2, a1, b1⟩ := kx E ce q u t T'.heap (locs ++ L) e1.symm (by rw [← e2]; exact X'.warmed.alike) hp hb k1 k2 k3 (by rw [e1]; exact hce) hcv hcl T' rfl X'
    exact ⟨t2, st.trans a1, b1⟩
/-- caught by the row x of this method's table; the rows ahead don't take it -/
theorem vx_catch {own name : String} {E : String} {ce : Cell} {q : Addr} (hown : s.vm.findClass own = some m.cls) (pre : List ExceptionTableEntry) (x : ExceptionTableEntry) (suf : List ExceptionTableEntry) (hsplit : c.exceptionTable.toList = pre ++ x :: suf)
    (hpass : ∀ z ∈ pre, covers z pc = false ∨ (z.catchType ≠ 0 ∧ ∃ nm : String, (Cond.classLink own z.catchType nm).before args s = true ∧ va_Nc E nm s)) (hx : covers x pc = true) (h0 : x.catchType ≠ 0)
    (hlink : (Cond.classLink own x.catchType name).before args s = true) (hcast : (Cond.castable E name).before args s = true) (hcell : H[q]? = some ce) (hv : ce.vm = .none) (hcl : s.vm.findClass E = some ce.cls)
    (kk : W p l e R s m args below meth c H locs cells slots Q (F0 m x.handlerPc ls [.ref q])) : vx_W p l e R s m args below meth c H locs cells slots Q (F0 m pc ls rest) q := by
  intro T hT X
  have hpl : e.platform.magicAccessors = ({} : Platform).magicAccessors := by rw [X.admits.platform]
  obtain ⟨c3, c4, hc3, hc4, hasg⟩ := Cond.castable_spec hcast
  cases Option.some.inj (hc3.symm.trans hcl)
  obtain ⟨c5, hc5, hcl5⟩ := Cond.classLink_spec hown hlink e.platform hpl
  cases Option.some.inj (hc4.symm.trans hc5)
  obtain ⟨vm', X', st⟩ := X.thenCaughtThrough q (g := F0 m pc ls rest) rfl (Steps.refl _) (by rw [hT]; exact hcell) (by rw [hv]; rfl) (by obtain ⟨k9, h9, -⟩ := Vm.findClass_spec hcl; exact ⟨k9, h9⟩) pre x suf hsplit
    (fun z hz => by
      rcases hpass z hz with h | ⟨hz0, nm, hl1, hn1⟩
      · exact Or.inl h
      · obtain ⟨c6, hc6, hcl6⟩ := Cond.classLink_spec hown hl1 e.platform hpl
        obtain ⟨a8, b8, h1, h2, h3⟩ := hn1
        cases Option.some.inj (h1.symm.trans hcl)
        cases Option.some.inj (h2.symm.trans hc6)
        exact Or.inr ⟨hz0, _, hcl6, h3⟩) hx (Or.inr ⟨h0, c4, hcl5, hasg⟩)
  obtain ⟨t, a1, b1⟩ := kk (T.setVm vm') hT X'
  exact ⟨t, st.trans a1, b1⟩
end Rows
section Ends
variable {p : Program} {l : Launch} {e : Env} {R : Room} {s : State} {m : MethodId} {args : Array Value} {below : List Frame} {meth : Method} {c : Code} {H : Heap} {locs : List Loc} {cells slots : Nat} {Q : State → Prop}
variable {mc ms : Nat} {free : Addr → Prop} {A0 A1 : Nat → Prop} {H0 : Heap} {a : Array Value} {ls : Array Slot} {st0 rest : List Value}
variable {Qc : Array Value → State → Outcome → State → Prop} {XC : String → State → State → Prop}
/-- what a body that may throw owes at its end -/
def vx_MQ (below : List Frame) (Qc : Array Value → State → Outcome → State → Prop) (XC : String → State → State → Prop) (a : Array Value) (s : State) (mc ms : Nat) (free : Addr → Prop) : State → Prop := fun t =>
  ∃ o, t.status = .running ∧ Ended t below o ∧ vx_Q Qc XC mc ms free a s o t
theorem vx_ret {g : JFrame} {mc ms : Nat} (k : W p l e R s m args below meth c H locs cells slots (MQ below Qc args s mc ms free) g) : W p l e R s m args below meth c H locs cells slots (vx_MQ below Qc XC args s mc ms free) g := by
  intro T hT X
  obtain ⟨t, a1, o, b1, b2, b3, b4⟩ := k T hT X
  exact ⟨t, a1, o, b1, b2, Or.inl ⟨b3, b4⟩⟩
/-- not caught here: it goes on to the caller -/
theorem vx_widen {g : JFrame} {q : Addr} {k n : Nat} (h1 : cells ≤ k) (h2 : slots ≤ n) (kk : vx_W p l e R s m args below meth c H locs k n Q g q) : vx_W p l e R s m args below meth c H locs cells slots Q g q := fun T hT X => kk T hT (stand_widen X h1 h2)
theorem vx_out {pc : Nat} {E : String} {ce : Cell} {q : Addr} {mc ms : Nat} (hout : ∀ x ∈ c.exceptionTable.toList, covers x pc = false) (hlocks : meth.locks = false) (hcell : H[q]? = some ce) (hv : ce.vm = .none) (hcl : s.vm.findClass E = some ce.cls)
    (hx : ∀ t : State, t.heap = H → s.vm.Alike t.vm → XC E s t) (hf : ∀ z ∈ locs, free z.base) (hc : cells ≤ mc) (hs : slots ≤ ms) :
    vx_W p l e R s m args below meth c H locs cells slots (vx_MQ below Qc XC args s mc ms free) (F0 m pc ls rest) q := by
  intro T hT X
  obtain ⟨st1, hrun, hend, hW, hsm⟩ := X.leaveThrown q (g := F0 m pc ls rest) rfl rfl rfl hout hlocks
  have hcell9 : (T.setFrames (.throwing q :: below)).heap[q]? = some ce := by
    show T.heap[q]? = some ce
    rw [hT]; exact hcell
  exact ⟨_, st1, .threw q, hrun, hend, Or.inr ⟨q, rfl, E, ce, locs, hx _ hT hW.alike, hcell9, hv, hcl, hW, hsm.mono hc hs, hf⟩⟩
theorem vx_frame {U : State} {k n : Nat} (h : s.sameButNew ({ U with vm := s.vm } : State) locs k n) : s.heap.size ≤ U.heap.size ∧ ∀ q : Nat, q < s.heap.size → (∀ z ∈ locs, z.base ≠ q) → U.heap[q]? = s.heap[q]? := by
  obtain ⟨-, h2, -, -, -, h6⟩ := h
  refine ⟨h2, fun q hq hz => ?_⟩
  obtain ⟨c9, e1, e2, e3, e4⟩ := h6 q _ (Array.getElem?_eq_getElem hq)
  have hs : c9.slots = (s.heap[q]).slots := Array.ext_getElem? fun i => e4 i fun hm => hz _ hm rfl
  have h9 : c9 = s.heap[q] := by
    rw [hs] at e2
    exact e2
  have e5 : U.heap[q]? = some c9 := e1
  rw [e5, h9, Array.getElem?_eq_getElem hq]
/-- the words of a throw but the four that speak of the heap -/
def vx_no (w : Cond) : Bool := decide (w ≠ .isRef (.static Bundle.tN "UNASSIGNED_STACK" Bundle.steD)) && decide (w ≠ .isRef (.static Bundle.tN "SUPPRESSED_SENTINEL" Bundle.listD)) && decide (w ≠ .laysStatic Bundle.tN "UNASSIGNED_STACK" Bundle.steD) && decide (w ≠ .laysStatic Bundle.tN "SUPPRESSED_SENTINEL" Bundle.listD)
def vx_at0 (own : String) (ic : Nat) (X : String) (names : List String) : List Cond := (Bundle.ownAtoms0 own ic X names).filter vx_no
def vx_atS (own : String) (ic : Nat) (X : String) (names : List String) : List Cond := (Bundle.ownAtoms own ic X names).filter vx_no
/-- a word that the tables alone decide, or a good one -/
def vx_ot (w : Cond) : Bool := w.onTables || goodWord w
theorem vx_ot_at {args a' : Array Value} {s U : State} {w : Cond} (hW : s.WarmedH U.vm) (hvm : s.vm = U.vm) (hg : vx_ot w = true) (h : w.before args s = true) : w.before a' U = true := by
  simp only [vx_ot, Bool.or_eq_true] at hg
  rcases hg with hg | hg
  · exact va_tabs hg hvm h
  · exact word_at hW (good_of_word hg) h
/-- a list's words: the good ones out of the method's own list, the others by premises of their own -/
theorem vx_hat {args : Array Value} {s : State} {L B : List Cond} (h1 : ∀ w ∈ L.filter goodWord, w.before args s = true) (h2 : ∀ w ∈ L.filter (fun w => !goodWord w), w ∈ B) (h3 : ∀ w ∈ B, w.before args s = true) : ∀ w ∈ L, w.before args s = true := by
  intro w hw
  by_cases g : goodWord w = true
  · exact h1 w (List.mem_filter.mpr ⟨hw, g⟩)
  · refine h3 w (h2 w (List.mem_filter.mpr ⟨hw, ?_⟩))
    show (!goodWord w) = true
    cases hgw : goodWord w
    · rfl
    · exact absurd hgw g
theorem vx_c {args : Array Value} {s : State} {w : Cond} {B : List Cond} (h : w.before args s = true) (t : ∀ w ∈ B, w.before args s = true) : ∀ w' ∈ w :: B, w'.before args s = true := fun w' h' => (List.mem_cons.mp h').elim (fun e => by rw [e]; exact h) (t w')
theorem vx_n {args : Array Value} {s : State} : ∀ w ∈ ([] : List Cond), w.before args s = true := fun _ h => nomatch h
theorem vx_own {args : Array Value} {s : State} {L : List Cond} (h1 : ∀ w ∈ L.filter vx_no, w.before args s = true)
    (hU : (Cond.isRef (.static Bundle.tN "UNASSIGNED_STACK" Bundle.steD)).before args s = true) (hN : (Cond.isRef (.static Bundle.tN "SUPPRESSED_SENTINEL" Bundle.listD)).before args s = true)
    (lU : (Cond.laysStatic Bundle.tN "UNASSIGNED_STACK" Bundle.steD).before args s = true) (lN : (Cond.laysStatic Bundle.tN "SUPPRESSED_SENTINEL" Bundle.listD).before args s = true) : ∀ w ∈ L, w.before args s = true := by
  intro w hw
  by_cases e1 : w = .isRef (.static Bundle.tN "UNASSIGNED_STACK" Bundle.steD)
  · rw [e1]; exact hU
  · by_cases e2 : w = .isRef (.static Bundle.tN "SUPPRESSED_SENTINEL" Bundle.listD)
    · rw [e2]; exact hN
    · by_cases e3 : w = .laysStatic Bundle.tN "UNASSIGNED_STACK" Bundle.steD
      · rw [e3]; exact lU
      · by_cases e4 : w = .laysStatic Bundle.tN "SUPPRESSED_SENTINEL" Bundle.listD
        · rw [e4]; exact lN
        · exact h1 w (List.mem_filter.mpr ⟨hw, by unfold vx_no; rw [decide_eq_true e1, decide_eq_true e2, decide_eq_true e3, decide_eq_true e4]; rfl⟩)
/-- where a static field lies, its class's statics cell in H -/
def vx_L (C n d : String) (A : Nat → Prop) (U : State) (H : Heap) : Prop := ∃ (c : ClassId) (k : Class) (i : Nat) (f : Field) (a : Nat) (cell : Cell), U.vm.findClass C = some c ∧ U.fieldFound? C n d = some (c, k, i, f) ∧ f.isStatic = true ∧ k.statics = some a ∧ H[a]? = some cell ∧ cell.vm.isStatics = true ∧ cell.cls = c ∧ f.slot < cell.slots.size ∧ k.staticTypes[f.slot]? = some f.type ∧ ¬ A a
theorem vx_L.moved {C n d : String} {A : Nat → Prop} {u U : State} {H : Heap} (hvm : u.vm.Alike U.vm) (h : vx_L C n d A u H) : vx_L C n d A U H := by
  obtain ⟨c, k, i, f, a, cell, h1, h2, h3, h4, h5, h6, h7, h8, h9, h10⟩ := h
  obtain ⟨k', hi', he⟩ := State.fieldFound?_setVm hvm h2
  exact ⟨c, k', i, f, a, cell, by rw [hvm.findClass]; exact h1, hi', h3, by rw [he]; exact h4, h5, h6, h7, h8, by rw [he]; exact h9, h10⟩
theorem vx_L.kept {C n d : String} {A : Nat → Prop} {U : State} {H H1 : Heap} (h : vx_L C n d A U H) (hq : ∀ a : Nat, a < H.size → ¬ A a → H1[a]? = H[a]?) : vx_L C n d A U H1 := by
  obtain ⟨c, k, i, f, a, cell, h1, h2, h3, h4, h5, h6, h7, h8, h9, h10⟩ := h
  exact ⟨c, k, i, f, a, cell, h1, h2, h3, h4, by rw [hq a (Array.getElem?_eq_some_iff.mp h5).1 h10]; exact h5, h6, h7, h8, h9, h10⟩
theorem vx_L.narrow {C n d : String} {A B : Nat → Prop} {U : State} {H : Heap} (h : vx_L C n d A U H) (hAB : ∀ q, B q → A q) : vx_L C n d B U H := by
  obtain ⟨c, k, i, f, a, cell, h1, h2, h3, h4, h5, h6, h7, h8, h9, h10⟩ := h
  exact ⟨c, k, i, f, a, cell, h1, h2, h3, h4, h5, h6, h7, h8, h9, fun z => h10 (hAB _ z)⟩
theorem vx_L.word {C n d : String} {A : Nat → Prop} {s : State} {args : Array Value} (h : vx_L C n d A s s.heap) : (Cond.laysStatic C n d).before args s = true := by
  obtain ⟨c, k, i, f, a, cell, h1, h2, h3, h4, h5, h6, h7, h8, h9, -⟩ := h
  show (Cond.laysStatic C n d).holds args s none s [] = true
  exact Cond.laysStatic_of h1 h2 h3 h4 h5 h6 h7 h8 h9
/-- .. and what it holds: null or some reference -/
def vx_Zq (C n d : String) (A : Nat → Prop) (U : State) (H : Heap) : Prop := va_Zq C n d A U H ∧ vx_L C n d A U H
theorem vx_Zq.moved {C n d : String} {A : Nat → Prop} {u U : State} {H : Heap} (hvm : u.vm.Alike U.vm) (h : vx_Zq C n d A u H) : vx_Zq C n d A U H := ⟨va_Zq.moved hvm h.1, vx_L.moved hvm h.2⟩
theorem vx_Zq.kept {C n d : String} {A : Nat → Prop} {U : State} {H H1 : Heap} (h : vx_Zq C n d A U H) (hq : ∀ a : Nat, a < H.size → ¬ A a → H1[a]? = H[a]?) : vx_Zq C n d A U H1 := ⟨va_Zq.kept h.1 hq, vx_L.kept h.2 hq⟩
theorem vx_Zq.narrow {C n d : String} {A B : Nat → Prop} {U : State} {H : Heap} (h : vx_Zq C n d A U H) (hAB : ∀ q, B q → A q) : vx_Zq C n d B U H := ⟨va_Zq.narrow h.1 hAB, vx_L.narrow h.2 hAB⟩
theorem vx_Zqof {args : Array Value} {s : State} {C n d : String} {A : Nat → Prop} (hl : (Cond.laysStatic C n d).before args s = true) (hini : (Cond.initialized C).before args s = true) (h : (Cond.isRef (.static C n d)).before args s = true) (hA : ∀ a : Nat, a < s.heap.size → ¬ A a) : vx_Zq C n d A s s.heap := by
  refine ⟨va_Zqof hl hini h hA, ?_⟩
  obtain ⟨c, k, i, f, a, cell, h1, h2, h3, h4, h5, h6, h7, h8, h9⟩ := Cond.laysStatic_spec hl
  exact ⟨c, k, i, f, a, cell, h1, h2, h3, h4, h5, h6, h7, h8, h9, hA a (Array.getElem?_eq_some_iff.mp h5).1⟩
theorem vx_isRef {C n d : String} {v : Value} {A : Nat → Prop} {s : State} {args : Array Value} (h : va_Z C n d v A s s.heap) (hv : v.isRef = true) : (Cond.isRef (.static C n d)).before args s = true := by
  obtain ⟨cf, kf, fi, f, a, cell, h1, h2, h3, h4, h5, h6, h7, -⟩ := h
  have he : (Term.static C n d).eval args s none [] s = some v := by
    simp [Term.eval, State.fieldNamed?, h1, h2, h4, h5, h6, h7]
  simp only [Cond.before, Cond.holds, Cond.value, he]
  cases v <;> simp_all [Value.isRef]
theorem vx_isRefq {C n d : String} {A : Nat → Prop} {s : State} {args : Array Value} (h : va_Zq C n d A s s.heap) : (Cond.isRef (.static C n d)).before args s = true := by
  rcases h with h | ⟨t, h⟩
  · exact vx_isRef h rfl
  · exact vx_isRef h rfl
/-- the same frame, seen from here: as if the method were called anew in this heap -/
theorem vx_rebase {T : State} (X : Stand p l e R s m args below meth c T locs cells slots) {R' : Room} (hf : R'.frames ≤ R.frames) (hl : R'.locals ≤ R.locals) (hc : cells + R'.cells ≤ R.cells) (hs : slots + R'.slots ≤ R.slots) :
    Stand p l e R' ((T.setVm s.vm).setFrames (.invoking m args :: below)) m args below meth c T [] 0 0 := by
  have htop : (T.setVm s.vm).topJava?.isSome := X.here.top
  have hF : ((T.setVm s.vm).setFrames (.invoking m args :: below)).frames = .invoking m args :: below := State.frames_setFrames _ (State.cur_lt_of_top htop)
  obtain ⟨g₀, hg0⟩ := Option.isSome_iff_exists.mp htop
  obtain ⟨r, hr⟩ := State.topJava?_eq_some.mp hg0
  have hl9 : e.platform.stackLimits (T.setVm s.vm).me = e.platform.stackLimits s.me := X.limits
  have hb9 : (T.setVm s.vm).me.stackBytes = s.me.stackBytes := X.bytes
  refine ⟨X.admits, X.cas, X.clock, hF, ?_, X.hears, X.method, X.code, X.here, X.tail, X.warmed, ?_, ?_, ?_⟩
  · have h := X.room
    have hU : ((T.setVm s.vm).setFrames (.invoking m args :: below)).localsInUse = s.localsInUse := by
      rw [State.localsInUse_invoking hF (meth := meth) (c := c) X.method X.code, State.localsInUse_invoking X.frames X.method X.code]
    simp only [State.hasRoom, Bool.and_eq_true, decide_eq_true_eq] at h ⊢
    obtain ⟨⟨⟨⟨h1, h2, h3, h4, h5, h6⟩, h7⟩, h8⟩, h9⟩ := h
    rw [X.frames, List.length_cons] at h2 h3
    have q1 := X.heapSize
    have q2 := X.used
    simp only [hF, hU, List.length_cons, State.stackLimits_setFrames, State.stackBytes_setFrames, hl9, hb9]
    refine ⟨⟨⟨⟨by omega, by omega, by omega, by omega, by omega, h6⟩, ?_⟩, ?_⟩, X.book⟩
    · show T.heap.size + R'.cells ≤ e.platform.maxCells
      omega
    · show T.slotsUsed + R'.slots ≤ e.platform.maxSlots
      omega
  · rw [State.stackLimits_setFrames]; rfl
  · rw [State.stackBytes_setFrames]; rfl
  · refine ⟨?_, Nat.le_refl _, Nat.le_refl _, ?_, ?_, fun a c9 h9 => ⟨c9, h9, rfl, rfl, fun _ _ => rfl⟩⟩
    · obtain ⟨t, ht, -⟩ := State.frames_cons hr
      show T.setVm s.vm = { ((T.setVm s.vm).setFrames (.invoking m args :: below)).setFrames (T.setVm s.vm).frames with heap := T.heap, slotsUsed := T.slotsUsed }
      rw [State.setFrames_setFrames, State.setFrames_self ht]
      rfl
    · show T.slotsUsed = T.slotsUsed + ((T.heap.toList.drop T.heap.size).map (·.slots.size)).sum
      rw [List.drop_eq_nil_of_le (Nat.le_of_eq Array.length_toList)]
      rfl
    · show ((T.heap.toList.drop T.heap.size).map (·.slots.size)).sum ≤ 0
      rw [List.drop_eq_nil_of_le (Nat.le_of_eq Array.length_toList)]
      exact Nat.le_refl _
/-- 'throw new E()': new; dup; invokespecial; athrow -/
theorem vx_throw0 {cc : ByteArray} {pc : Nat} (hexec : p.tables.exec = Jvm.exec) (hb : c.code = cc) (hl : l.stackTraces = false) {own cls : String} {names : List String} {ik ic mc ms : Nat} {A : Nat → Prop}
    (hown : s.vm.findClass own = some m.cls) (hcls : Bundle.fit cls = true) (hnames : ∀ n ∈ names, Bundle.fit n = true)
    (hk : (Cond.classLink own ik cls).before args s = true) (hini : (Cond.initialized cls).before args s = true) (hat : ∀ w ∈ vx_at0 own ic cls names, w.before args s = true)
    (hgood : ∀ w ∈ Cond.classLink own ik cls :: Cond.initialized cls :: vx_at0 own ic cls names, vx_ot w = true)
    (hU : vx_Zq Bundle.tN "UNASSIGNED_STACK" Bundle.steD A s s.heap) (hN : vx_Zq Bundle.tN "SUPPRESSED_SENTINEL" Bundle.listD A s s.heap) (hS : va_S A s.heap H locs) (hsize : ls.size = c.maxLocals)
    (d0 : decode cc pc = .ok (.new ik, 3)) (d3 : decode cc (pc + 3) = .ok (.dup, 1)) (d4 : decode cc (pc + 4) = .ok (.invokespecial ic, 3)) (d7 : decode cc (pc + 7) = .ok (.athrow, 1))
    (hout : ∀ x ∈ c.exceptionTable.toList, covers x (pc + 7) = false)
    (hRframes : names.length + 3 < R.frames) (hRlocals : (rest.map fun v => v.category).sum + (13 * (names.length + 1) + 42) ≤ R.locals) (hRcells : cells + 1 ≤ R.cells) (hRslots : slots + 6 ≤ R.slots) (hlocks : meth.locks = false)
    (hx : ∀ t : State, s.vm.Alike t.vm → H.size ≤ t.heap.size → (∀ q : Nat, q < H.size → t.heap[q]? = H[q]?) → XC cls s t)
    (hf : ∀ z ∈ locs, free z.base) (hc : cells + 1 ≤ mc) (hs : slots + 6 ≤ ms) :
    W p l e R s m args below meth c H locs cells slots (vx_MQ below Qc XC args s mc ms free) (F0 m pc ls rest) := by
  intro T hT X
  have htr : e.platform.stackTraces = false := (show e.platform.stackTraces = l.stackTraces by rw [X.admits.platform]).trans hl
  have Y := vx_rebase X (R' := { frames := R.frames, locals := R.locals, cells := 1, slots := 6 }) (Nat.le_refl _) (Nat.le_refl _) hRcells hRslots
  obtain ⟨s', hA⟩ : ∃ z, z = (T.setVm s.vm).setFrames (.invoking m args :: below) := ⟨_, rfl⟩
  rw [← hA] at Y
  have hvm : s'.vm = s.vm := by rw [hA]; rfl
  have hhp : s'.heap = H := by rw [hA]; exact hT
  have hW0 : s.WarmedH s'.vm := by rw [hvm]; exact State.WarmedH.refl s
  have hat' : ∀ w ∈ vx_at0 own ic cls names, w.before args s' = true := fun w hw => vx_ot_at hW0 hvm.symm (hgood w (List.mem_cons_of_mem _ (List.mem_cons_of_mem _ hw))) (hat w hw)
  have hk' : (Cond.classLink own ik cls).before args s' = true := vx_ot_at hW0 hvm.symm (hgood _ List.mem_cons_self) hk
  have hini' : (Cond.initialized cls).before args s' = true := vx_ot_at hW0 hvm.symm (hgood _ (List.mem_cons_of_mem _ List.mem_cons_self)) hini
  have hU' : vx_Zq Bundle.tN "UNASSIGNED_STACK" Bundle.steD A s' s'.heap := by rw [hhp]; exact vx_Zq.moved hW0.alike (hU.kept hS.2.1)
  have hN' : vx_Zq Bundle.tN "SUPPRESSED_SENTINEL" Bundle.listD A s' s'.heap := by rw [hhp]; exact vx_Zq.moved hW0.alike (hN.kept hS.2.1)
  have h : ∀ w ∈ Bundle.ownAtoms0 own ic cls names, w.before args s' = true := vx_own hat' (vx_isRefq hU'.1) (vx_isRefq hN'.1) hU'.2.word hN'.2.word
  have hown' : s'.vm.findClass own = some m.cls := by rw [hvm]; exact hown
  have hins : (Cond.instantiable cls 6).before args s' = true := h _ (by simp [Bundle.ownAtoms0])
  obtain ⟨vm₁, cX, kX, hfX, hkX, -, -, X₁, st1⟩ := Y.newCold hexec (own := own) (C := cls) (index := ik) (n := 6) hown' hk' hins hini'
    (g := F0 m pc ls rest) rfl (by rw [hb]; exact d0) (Nat.le_refl _) (Nat.le_refl _)
  generalize hT1 : (T.setVm vm₁).pushCell { cls := cX, slots := kX.instanceTypes.map defaultValue, vm := .none } = T1 at X₁ st1
  have hcat : (Value.ref T.heap.size).category = 1 := rfl
  have hcellA : T1.heap[T.heap.size]? = some (freshCell cX kX) := by rw [← hT1]; exact State.heap_pushCell_size _ _
  have d3' : decode c.code (pc + 3) = .ok (.dup, 1) := by rw [hb]; exact d3
  obtain ⟨U, hsteps, hrun, hend, hW, hsame, ce, hce, hO⟩ := X₁.ctorThrow0 hexec htr (own := own) (cls := cls) (names := names) (ic := ic) hown' hcls hnames h (fun x hx => nomatch hx) hfX hkX hcellA (by rw [hhp, hT]; exact Nat.le_refl _)
    (g := { method := m, pc := pc + 4, locals := ls, stack := .ref T.heap.size :: .ref T.heap.size :: rest, locked := none }) rfl hsize rfl rfl (rest := rest) rfl
    (by rw [hb]; exact d4) (by rw [hb]; exact d7) hout hRframes (by simp only [List.map_cons, List.sum_cons, hcat]; omega) hlocks
  obtain ⟨f1, f2⟩ := vx_frame hsame
  rw [hhp] at f1 f2
  have hWs : s.WarmedH U.vm := State.WarmedH.trans hW0 hW
  have hcl : s.vm.findClass cls = some ce.cls := by
    have h9 := hO.cls
    rw [hvm] at h9
    exact h9
  have hall : s.sameButNew ({ U with vm := s.vm } : State) locs mc ms := by
    subst hA
    obtain ⟨e1, e2⟩ := hsame
    rw [State.setFrames_setFrames] at e1
    have h2 : (T.setVm s.vm).sameButNew ({ U with vm := s.vm } : State) [] (0 + 1) (0 + 6) := ⟨e1, e2⟩
    have h3 := X.same.trans h2
    rw [List.append_nil] at h3
    exact h3.mono hc hs
  refine ⟨U, ?_, .threw T.heap.size, hrun, hend, Or.inr ⟨T.heap.size, rfl, cls, ce, locs, hx U hWs.alike f1 (fun q hq => f2 q hq (fun z hz => nomatch hz)), hce, hO.vm, hcl, hWs, hall, hf⟩⟩
  refine st1 _ ?_
  show Steps p.tables e below (T1.setTop { method := m, pc := pc + 3, locals := ls, stack := .ref T.heap.size :: rest, locked := none }) _
  jvm_step X₁.here [X₁.here.top, hexec, d3', Value.category]
  exact hsteps
/-- 'throw new E("text")': new; dup; ldc; invokespecial; athrow -/
theorem vx_throwS {cc : ByteArray} {pc : Nat} (hexec : p.tables.exec = Jvm.exec) (hb : c.code = cc) (hl : l.stackTraces = false) {own cls text : String} {names : List String} {ik is ic mc ms sa : Nat} {A : Nat → Prop}
    (hown : s.vm.findClass own = some m.cls) (hcls : Bundle.fit cls = true) (hnames : ∀ n ∈ names, Bundle.fit n = true)
    (hk : (Cond.classLink own ik cls).before args s = true) (hini : (Cond.initialized cls).before args s = true) (hstr : vk_R own is text sa s) (hat : ∀ w ∈ vx_atS own ic cls names, w.before args s = true)
    (hgood : ∀ w ∈ Cond.classLink own ik cls :: Cond.initialized cls :: vx_atS own ic cls names, vx_ot w = true)
    (hU : vx_Zq Bundle.tN "UNASSIGNED_STACK" Bundle.steD A s s.heap) (hN : vx_Zq Bundle.tN "SUPPRESSED_SENTINEL" Bundle.listD A s s.heap) (hS : va_S A s.heap H locs) (hsize : ls.size = c.maxLocals)
    (d0 : decode cc pc = .ok (.new ik, 3)) (d3 : decode cc (pc + 3) = .ok (.dup, 1)) (d4 : decode cc (pc + 4) = .ok (.ldc is, 2)) (d6 : decode cc (pc + 6) = .ok (.invokespecial ic, 3)) (d9 : decode cc (pc + 9) = .ok (.athrow, 1))
    (hout : ∀ x ∈ c.exceptionTable.toList, covers x (pc + 9) = false)
    (hRframes : names.length + 3 < R.frames) (hRlocals : (rest.map fun v => v.category).sum + (13 * (names.length + 1) + 43) ≤ R.locals) (hRcells : cells + 1 ≤ R.cells) (hRslots : slots + 6 ≤ R.slots) (hlocks : meth.locks = false)
    (hx : ∀ t : State, s.vm.Alike t.vm → H.size ≤ t.heap.size → (∀ q : Nat, q < H.size → t.heap[q]? = H[q]?) → XC cls s t)
    (hf : ∀ z ∈ locs, free z.base) (hc : cells + 1 ≤ mc) (hs : slots + 6 ≤ ms) :
    W p l e R s m args below meth c H locs cells slots (vx_MQ below Qc XC args s mc ms free) (F0 m pc ls rest) := by
  intro T hT X
  have htr : e.platform.stackTraces = false := (show e.platform.stackTraces = l.stackTraces by rw [X.admits.platform]).trans hl
  have Y := vx_rebase X (R' := { frames := R.frames, locals := R.locals, cells := 1, slots := 6 }) (Nat.le_refl _) (Nat.le_refl _) hRcells hRslots
  obtain ⟨s', hA⟩ : ∃ z, z = (T.setVm s.vm).setFrames (.invoking m args :: below) := ⟨_, rfl⟩
  rw [← hA] at Y
  have hvm : s'.vm = s.vm := by rw [hA]; rfl
  have hhp : s'.heap = H := by rw [hA]; exact hT
  have hW0 : s.WarmedH s'.vm := by rw [hvm]; exact State.WarmedH.refl s
  have hat' : ∀ w ∈ vx_atS own ic cls names, w.before args s' = true := fun w hw => vx_ot_at hW0 hvm.symm (hgood w (List.mem_cons_of_mem _ (List.mem_cons_of_mem _ hw))) (hat w hw)
  have hk' : (Cond.classLink own ik cls).before args s' = true := vx_ot_at hW0 hvm.symm (hgood _ List.mem_cons_self) hk
  have hini' : (Cond.initialized cls).before args s' = true := vx_ot_at hW0 hvm.symm (hgood _ (List.mem_cons_of_mem _ List.mem_cons_self)) hini
  have hU' : vx_Zq Bundle.tN "UNASSIGNED_STACK" Bundle.steD A s' s'.heap := by rw [hhp]; exact vx_Zq.moved hW0.alike (hU.kept hS.2.1)
  have hN' : vx_Zq Bundle.tN "SUPPRESSED_SENTINEL" Bundle.listD A s' s'.heap := by rw [hhp]; exact vx_Zq.moved hW0.alike (hN.kept hS.2.1)
  have h : ∀ w ∈ Bundle.ownAtoms own ic cls names, w.before args s' = true := vx_own hat' (vx_isRefq hU'.1) (vx_isRefq hN'.1) hU'.2.word hN'.2.word
  have hown' : s'.vm.findClass own = some m.cls := by rw [hvm]; exact hown
  have hins : (Cond.instantiable cls 6).before args s' = true := h _ (by simp [Bundle.ownAtoms])
  obtain ⟨vm₁, cX, kX, hfX, hkX, -, -, X₁, st1⟩ := Y.newCold hexec (own := own) (C := cls) (index := ik) (n := 6) hown' hk' hins hini'
    (g := F0 m pc ls rest) rfl (by rw [hb]; exact d0) (Nat.le_refl _) (Nat.le_refl _)
  generalize hT1 : (T.setVm vm₁).pushCell { cls := cX, slots := kX.instanceTypes.map defaultValue, vm := .none } = T1 at X₁ st1
  have hcat : (Value.ref T.heap.size).category = 1 := rfl
  have hcellA : T1.heap[T.heap.size]? = some (freshCell cX kX) := by rw [← hT1]; exact State.heap_pushCell_size _ _
  have d3' : decode c.code (pc + 3) = .ok (.dup, 1) := by rw [hb]; exact d3
  have d4' : decode c.code (pc + 4) = .ok (.ldc is, 2) := by rw [hb]; exact d4
  have hstr' : vk_R own is text sa s' := vk_R.warm hW0 hstr
  obtain ⟨U, hsteps, hrun, hend, hW, hsame, ce, hce, hO⟩ := X₁.ctorThrowS hexec htr (own := own) (cls := cls) (names := names) (ic := ic) hown' hcls hnames h (fun x hx => nomatch hx) hfX hkX hcellA (by rw [hhp, hT]; exact Nat.le_refl _) (msg := .ref sa) rfl
    (g := { method := m, pc := pc + 6, locals := ls, stack := .ref sa :: .ref T.heap.size :: .ref T.heap.size :: rest, locked := none }) rfl hsize rfl rfl (rest := rest) rfl
    (by rw [hb]; exact d6) (by rw [hb]; exact d9) hout hRframes (by simp only [List.map_cons, List.sum_cons, hcat]; omega) hlocks
  obtain ⟨f1, f2⟩ := vx_frame hsame
  rw [hhp] at f1 f2
  have hWs : s.WarmedH U.vm := State.WarmedH.trans hW0 hW
  have hcl : s.vm.findClass cls = some ce.cls := by
    have h9 := hO.cls
    rw [hvm] at h9
    exact h9
  have hall : s.sameButNew ({ U with vm := s.vm } : State) locs mc ms := by
    subst hA
    obtain ⟨e1, e2⟩ := hsame
    rw [State.setFrames_setFrames] at e1
    have h2 : (T.setVm s.vm).sameButNew ({ U with vm := s.vm } : State) [] (0 + 1) (0 + 6) := ⟨e1, e2⟩
    have h3 := X.same.trans h2
    rw [List.append_nil] at h3
    exact h3.mono hc hs
  refine ⟨U, ?_, .threw T.heap.size, hrun, hend, Or.inr ⟨T.heap.size, rfl, cls, ce, locs, hx U hWs.alike f1 (fun q hq => f2 q hq (fun z hz => nomatch hz)), hce, hO.vm, hcl, hWs, hall, hf⟩⟩
  refine st1 _ ?_
  show Steps p.tables e below (T1.setTop { method := m, pc := pc + 3, locals := ls, stack := .ref T.heap.size :: rest, locked := none }) _
  jvm_step X₁.here [X₁.here.top, hexec, d3', Value.category]
  exact X₁.ldcString hexec (own := own) (text := text) (index := is) (a := sa) hown' hstr'.1 hstr'.2
    (g := { method := m, pc := pc + 4, locals := ls, stack := .ref T.heap.size :: .ref T.heap.size :: rest, locked := none }) rfl d4' _ hsteps
/-- 'throw new E("text")', the text by a wide index -/
theorem vx_throwSW {cc : ByteArray} {pc : Nat} (hexec : p.tables.exec = Jvm.exec) (hb : c.code = cc) (hl : l.stackTraces = false) {own cls text : String} {names : List String} {ik is ic mc ms sa : Nat} {A : Nat → Prop}
    (hown : s.vm.findClass own = some m.cls) (hcls : Bundle.fit cls = true) (hnames : ∀ n ∈ names, Bundle.fit n = true)
    (hk : (Cond.classLink own ik cls).before args s = true) (hini : (Cond.initialized cls).before args s = true) (hstr : vk_R own is text sa s) (hat : ∀ w ∈ vx_atS own ic cls names, w.before args s = true)
    (hgood : ∀ w ∈ Cond.classLink own ik cls :: Cond.initialized cls :: vx_atS own ic cls names, vx_ot w = true)
    (hU : vx_Zq Bundle.tN "UNASSIGNED_STACK" Bundle.steD A s s.heap) (hN : vx_Zq Bundle.tN "SUPPRESSED_SENTINEL" Bundle.listD A s s.heap) (hS : va_S A s.heap H locs) (hsize : ls.size = c.maxLocals)
    (d0 : decode cc pc = .ok (.new ik, 3)) (d3 : decode cc (pc + 3) = .ok (.dup, 1)) (d4 : decode cc (pc + 4) = .ok (.ldc_w is, 3)) (d7 : decode cc (pc + 7) = .ok (.invokespecial ic, 3)) (d10 : decode cc (pc + 10) = .ok (.athrow, 1))
    (hout : ∀ x ∈ c.exceptionTable.toList, covers x (pc + 10) = false)
    (hRframes : names.length + 3 < R.frames) (hRlocals : (rest.map fun v => v.category).sum + (13 * (names.length + 1) + 43) ≤ R.locals) (hRcells : cells + 1 ≤ R.cells) (hRslots : slots + 6 ≤ R.slots) (hlocks : meth.locks = false)
    (hx : ∀ t : State, s.vm.Alike t.vm → H.size ≤ t.heap.size → (∀ q : Nat, q < H.size → t.heap[q]? = H[q]?) → XC cls s t)
    (hf : ∀ z ∈ locs, free z.base) (hc : cells + 1 ≤ mc) (hs : slots + 6 ≤ ms) :
    W p l e R s m args below meth c H locs cells slots (vx_MQ below Qc XC args s mc ms free) (F0 m pc ls rest) := by
  intro T hT X
  have htr : e.platform.stackTraces = false := (show e.platform.stackTraces = l.stackTraces by rw [X.admits.platform]).trans hl
  have Y := vx_rebase X (R' := { frames := R.frames, locals := R.locals, cells := 1, slots := 6 }) (Nat.le_refl _) (Nat.le_refl _) hRcells hRslots
  obtain ⟨s', hA⟩ : ∃ z, z = (T.setVm s.vm).setFrames (.invoking m args :: below) := ⟨_, rfl⟩
  rw [← hA] at Y
  have hvm : s'.vm = s.vm := by rw [hA]; rfl
  have hhp : s'.heap = H := by rw [hA]; exact hT
  have hW0 : s.WarmedH s'.vm := by rw [hvm]; exact State.WarmedH.refl s
  have hat' : ∀ w ∈ vx_atS own ic cls names, w.before args s' = true := fun w hw => vx_ot_at hW0 hvm.symm (hgood w (List.mem_cons_of_mem _ (List.mem_cons_of_mem _ hw))) (hat w hw)
  have hk' : (Cond.classLink own ik cls).before args s' = true := vx_ot_at hW0 hvm.symm (hgood _ List.mem_cons_self) hk
  have hini' : (Cond.initialized cls).before args s' = true := vx_ot_at hW0 hvm.symm (hgood _ (List.mem_cons_of_mem _ List.mem_cons_self)) hini
  have hU' : vx_Zq Bundle.tN "UNASSIGNED_STACK" Bundle.steD A s' s'.heap := by rw [hhp]; exact vx_Zq.moved hW0.alike (hU.kept hS.2.1)
  have hN' : vx_Zq Bundle.tN "SUPPRESSED_SENTINEL" Bundle.listD A s' s'.heap := by rw [hhp]; exact vx_Zq.moved hW0.alike (hN.kept hS.2.1)
  have h : ∀ w ∈ Bundle.ownAtoms own ic cls names, w.before args s' = true := vx_own hat' (vx_isRefq hU'.1) (vx_isRefq hN'.1) hU'.2.word hN'.2.word
  have hown' : s'.vm.findClass own = some m.cls := by rw [hvm]; exact hown
  have hins : (Cond.instantiable cls 6).before args s' = true := h _ (by simp [Bundle.ownAtoms])
  obtain ⟨vm₁, cX, kX, hfX, hkX, -, -, X₁, st1⟩ := Y.newCold hexec (own := own) (C := cls) (index := ik) (n := 6) hown' hk' hins hini'
    (g := F0 m pc ls rest) rfl (by rw [hb]; exact d0) (Nat.le_refl _) (Nat.le_refl _)
  generalize hT1 : (T.setVm vm₁).pushCell { cls := cX, slots := kX.instanceTypes.map defaultValue, vm := .none } = T1 at X₁ st1
  have hcat : (Value.ref T.heap.size).category = 1 := rfl
  have hcellA : T1.heap[T.heap.size]? = some (freshCell cX kX) := by rw [← hT1]; exact State.heap_pushCell_size _ _
  have d3' : decode c.code (pc + 3) = .ok (.dup, 1) := by rw [hb]; exact d3
  have d4' : decode c.code (pc + 4) = .ok (.ldc_w is, 3) := by rw [hb]; exact d4
  have hstr' : vk_R own is text sa s' := vk_R.warm hW0 hstr
  obtain ⟨U, hsteps, hrun, hend, hW, hsame, ce, hce, hO⟩ := X₁.ctorThrowS hexec htr (own := own) (cls := cls) (names := names) (ic := ic) hown' hcls hnames h (fun x hx => nomatch hx) hfX hkX hcellA (by rw [hhp, hT]; exact Nat.le_refl _) (msg := .ref sa) rfl
    (g := { method := m, pc := pc + 7, locals := ls, stack := .ref sa :: .ref T.heap.size :: .ref T.heap.size :: rest, locked := none }) rfl hsize rfl rfl (rest := rest) rfl
    (by rw [hb]; exact d7) (by rw [hb]; exact d10) hout hRframes (by simp only [List.map_cons, List.sum_cons, hcat]; omega) hlocks
  obtain ⟨f1, f2⟩ := vx_frame hsame
  rw [hhp] at f1 f2
  have hWs : s.WarmedH U.vm := State.WarmedH.trans hW0 hW
  have hcl : s.vm.findClass cls = some ce.cls := by
    have h9 := hO.cls
    rw [hvm] at h9
    exact h9
  have hall : s.sameButNew ({ U with vm := s.vm } : State) locs mc ms := by
    subst hA
    obtain ⟨e1, e2⟩ := hsame
    rw [State.setFrames_setFrames] at e1
    have h2 : (T.setVm s.vm).sameButNew ({ U with vm := s.vm } : State) [] (0 + 1) (0 + 6) := ⟨e1, e2⟩
    have h3 := X.same.trans h2
    rw [List.append_nil] at h3
    exact h3.mono hc hs
  refine ⟨U, ?_, .threw T.heap.size, hrun, hend, Or.inr ⟨T.heap.size, rfl, cls, ce, locs, hx U hWs.alike f1 (fun q hq => f2 q hq (fun z hz => nomatch hz)), hce, hO.vm, hcl, hWs, hall, hf⟩⟩
  refine st1 _ ?_
  show Steps p.tables e below (T1.setTop { method := m, pc := pc + 3, locals := ls, stack := .ref T.heap.size :: rest, locked := none }) _
  jvm_step X₁.here [X₁.here.top, hexec, d3', Value.category]
  exact X₁.ldcStringW hexec (own := own) (text := text) (index := is) (a := sa) hown' hstr'.1 hstr'.2
    (g := { method := m, pc := pc + 4, locals := ls, stack := .ref T.heap.size :: .ref T.heap.size :: rest, locked := none }) rfl d4' _ hsteps
end Ends
section Bodies
variable {l : Launch}
theorem vx_ofW {y : MethodName} {ws ws' : List Cond} {rm : Room} {Pc : Array Value → State → Prop} {Qc : Array Value → State → Outcome → State → Prop} {XC : String → State → State → Prop} {mc ms : Nat} {free : Addr → Prop} {cc : ByteArray} {maxL : Nat} {ret : Option FieldType}
    (hy : plainName y.cls = true) (hw : ws = Cond.code y cc maxL ret :: ws')
    (body : ∀ p e s m args below meth c s₁, BodyLoose p l y (headSpec ws rm) cc maxL ret e s m args below meth c s₁ → c.maxLocals = maxL → (∀ x ∈ c.exceptionTable.toList, False) → Pc args s →
      W p l e (headSpec ws rm).room s m args below meth c s.heap [] 0 0 (vx_MQ below Qc XC args s mc ms free) (entryFrame m args maxL)) : vx_Met l y ws rm Pc Qc XC mc ms free := by
  refine MetFree.of_bodyS (code := cc) (maxLocals := maxL) (ret := ret) hy ?_ ?_
  · intro args s m h hn
    obtain ⟨meth, c, h1, h2, h3, h4, h5, h6, -, -⟩ := Cond.code_spec hn (atoms_spec (ws := ws) h _ (by rw [hw]; exact List.mem_cons_self))
    exact ⟨meth, c, h1, h2, h3, h4, h5, h6⟩
  · intro p e s m args below meth c s₁ B hml hP _
    have hh0 : s₁.heap = s.heap := by rw [B.state]; rfl
    have ht : ∀ x ∈ c.exceptionTable.toList, False := by
      obtain ⟨meth9, c9, h1, h2, -, -, -, -, h7, -⟩ := Cond.code_spec B.named (atoms_spec (ws := ws) B.pre _ (by rw [hw]; exact List.mem_cons_self))
      cases Option.some.inj (h1.symm.trans B.method)
      cases Option.some.inj (h2.symm.trans (Stand.of_body B).code)
      intro x hx
      rw [Array.isEmpty_iff.mp h7] at hx
      cases hx
    obtain ⟨t, a1, o, b1, b2, b3⟩ := body p e s m args below meth c s₁ B hml ht hP s₁ hh0 (Stand.of_body B)
    exact ⟨t, o, a1, b1, b2, b3⟩
/-- the table of a body with handlers -/
theorem vx_table {p : Program} {x y : MethodName} {S : Spec} {cc bytes : ByteArray} {maxL maxL' : Nat} {ret ret' : Option FieldType} {e : Env} {s s₁ : State} {m : MethodId} {args : Array Value} {below : List Frame} {meth : Method} {c : Code} {hh : List (Nat × Nat × Nat × Nat)}
    (B : BodyLoose p l y S cc maxL ret e s m args below meth c s₁) (h : (Cond.codeWith y bytes maxL' ret' hh).before args s = true) : c.exceptionTable.toList = tableOf hh := by
  obtain ⟨m9, meth9, c9, hn9, h1, h2, -, -, h6, -⟩ := Cond.codeWith_spec h
  cases Option.some.inj (hn9.symm.trans B.named)
  cases Option.some.inj (h1.symm.trans B.method)
  cases Option.some.inj (h2.symm.trans (Stand.of_body B).code)
  rw [← h6, table_eq]
end Bodies
end VXA
/-! ===== END ===== -/
/-! ===== BEGIN a static call of a method with an exception table ===== -/
section VXS
variable {p : Program} {l : Launch} {e : Env} {R : Room} {s : State} {m : MethodId} {args : Array Value} {below : List Frame} {meth : Method} {c : Code} {T : State} {H : Heap} {locs : List Loc} {cells slots : Nat}
abbrev vx_CSW (R : Room) (s : State) (args : Array Value) (own : String) (index : Nat) (y : MethodName) (bytes : ByteArray) (maxL : Nat) (ret : Option FieldType) (hh : List (Nat × Nat × Nat × Nat)) (ws : List Cond) (rm : Room) (mc ms n : Nat) : Prop :=
  (rm.cells = mc ∧ rm.slots = ms ∧ rm.frames + 1 ≤ R.frames ∧ 8 + (maxL + 11) + rm.locals ≤ R.locals ∧ (∀ w ∈ ws, ∀ (a' : Array Value) (U : State), s.WarmedH U.vm → w.before a' U = true) ∧ Cond.codeWith y bytes maxL ret hh ∈ ws) ∧
  (Cond.codeWith y bytes maxL ret hh).before args s = true ∧ (Cond.initialized y.cls).before args s = true ∧ (y.cls ≠ "java/lang/invoke/MethodHandle" ∧ y.cls ≠ "java/lang/invoke/VarHandle") ∧
  (∀ sig, parseMethodDescriptor y.desc = some sig → n = sig.parameters.length) ∧ (Cond.methodLink own index y).before args s = true ∧ (Cond.static y).before args s = true
theorem vx_cwSW {own : String} {index maxL mc ms : Nat} {y : MethodName} {bytes : ByteArray} {ret : Option FieldType} {hh : List (Nat × Nat × Nat × Nat)} {Ts ws ws' : List Cond} {rm : Room} (n : Nat) (ht : ∀ w ∈ Ts, w.before args s = true) (hT : GoodIn Ts (va_wsS own index y ws)) (hw : ws = Cond.codeWith y bytes maxL ret hh :: ws') (hrc : rm.cells = mc) (hrs : rm.slots = ms)
    (hd : y.cls ≠ "java/lang/invoke/MethodHandle" ∧ y.cls ≠ "java/lang/invoke/VarHandle" ∧ (parseMethodDescriptor y.desc).map (fun d => d.parameters.length) = some n) (hR : rm.frames + 1 ≤ R.frames ∧ 8 + (maxL + 11) + rm.locals ≤ R.locals) :
    vx_CSW R s args own index y bytes maxL ret hh ws rm mc ms n := by
  have ok : ∀ w ∈ va_wsS own index y ws, w.before args s = true := fun w h => ht w (hT w h).1
  have hG : GoodIn Ts ws := fun w h => hT w (by unfold va_wsS; exact List.mem_append_right _ h)
  have hc : Cond.codeWith y bytes maxL ret hh ∈ ws := by rw [hw]; exact List.mem_cons_self
  refine ⟨⟨hrc, hrs, hR.1, hR.2, pay_in ht hG, hc⟩, ht _ (hG _ hc).1, ok _ (by simp [va_wsS]), ⟨hd.1, hd.2.1⟩, fun sig h => ?_, ok _ (by simp [va_wsS]), ok _ (by simp [va_wsS])⟩
  have h2 := hd.2.2
  rw [h] at h2
  exact (Option.some.inj h2).symm
theorem vx_callSW (X : Stand p l e R s m args below meth c T locs cells slots) (hexec : p.tables.exec = Jvm.exec) {own : String} {index : Nat} {y : MethodName} {bytes : ByteArray} {maxL : Nat} {ret : Option FieldType} {hh : List (Nat × Nat × Nat × Nat)}
    (hown : s.vm.findClass own = some m.cls) (hlink : (Cond.methodLink own index y).before args s = true) (hstat : (Cond.static y).before args s = true) (hinit : (Cond.initialized y.cls).before args s = true)
    (hcode : (Cond.codeWith y bytes maxL ret hh).before args s = true) (hy : y.cls ≠ "java/lang/invoke/MethodHandle" ∧ y.cls ≠ "java/lang/invoke/VarHandle")
    {W9 : Nat} {Pre : Pt → Array Value → Prop} {Post : Pt → Array Value → Option Value → Pt → Prop} (hK : Back l R p e below s args y 3 W9 Pre Post)
    {g : JFrame} (hg : g.method = m) (hsize : g.locals.size = c.maxLocals) {argsL rest : List Value} (hlen : ∀ sig, parseMethodDescriptor y.desc = some sig → argsL.length = sig.parameters.length)
    (hstack : g.stack = argsL.reverse ++ rest) (hW : 2 * g.monitorRoom + (rest.map fun v => v.category).sum ≤ W9) (hdg : decode c.code g.pc = .ok (.invokestatic index, 3))
    (hpre : ∀ vm₁, s.WarmedH vm₁ → Pre ⟨T.setVm vm₁, locs, cells, slots⟩ argsL.toArray) :
    ∃ (v : Option Value) (vm₁ : Vm) (B : Pt), s.WarmedH vm₁ ∧ Stand p l e R s m args below meth c B.U B.locs B.cells B.slots ∧ Post ⟨T.setVm vm₁, locs, cells, slots⟩ argsL.toArray v B ∧
      ∀ target, Steps p.tables e below (B.U.setTop { g with pc := g.pc + 3, stack := v.toList ++ rest }) target → Steps p.tables e below (T.setTop g) target := by
  obtain ⟨mk, methM, cM, hnamed, hmethM, -, -, -, -, -, -, hsigM⟩ := Cond.codeWith_spec hcode
  have hstatic : methM.isStatic = true := Cond.static_spec hnamed hmethM hstat
  obtain ⟨kP, hkP, -⟩ := className_of_methodNamed hnamed
  have hinitP : kP.init = .initialized := Cond.initialized_spec (findClass_of_methodNamed hnamed) hkP hinit
  obtain ⟨vm₁, X₁, hstep₁⟩ := X.invokestatic hexec hown hlink hnamed hmethM hstatic hkP hinitP hy (g := g) hg (argsL := argsL) (rest := rest) (hlen _ hsigM) hstack hdg
  obtain ⟨v, B, X', hpost, hsteps⟩ := hK m meth c ⟨T.setVm vm₁, locs, cells, slots⟩ { g with stack := rest } (.invokestatic index) mk argsL.toArray X₁ hg hsize hdg hW (X₁.named hnamed) (hpre vm₁ X₁.warmed)
  exact ⟨v, vm₁, B, X₁.warmed, X', hpost, fun target h => hstep₁ _ fun acts => by rw [doInvoke_state]; exact hsteps.trans h⟩
theorem vx_runSW {y : MethodName} {bytes cc : ByteArray} {maxL nL mc ms n index : Nat} {ret : Option FieldType} {hh : List (Nat × Nat × Nat × Nat)} {ws : List Cond} {rm : Room} {Pc : Array Value → State → Prop} {Qc : Array Value → State → Outcome → State → Prop} {free : Addr → Prop} {Ts : List Cond} {own : String} {As rest : List Value} {g : JFrame}
    (S : CallFix p m c cc nL s args Ts own) (hM : Met l y ws rm Pc Qc mc ms free) (cw : vx_CSW R s args own index y bytes maxL ret hh ws rm mc ms n) (hp : PreS s H Pc As)
    (hg : g.method = m) (hn : As.length = n) (hsize : g.locals.size = nL) (hstack : g.stack = As.reverse ++ rest) (hW : 2 * g.monitorRoom + (rest.map fun v => v.category).sum ≤ 8) (hdg : decode cc g.pc = .ok (.invokestatic index, 3)) (hf : cells + mc ≤ R.cells ∧ slots + ms ≤ R.slots) :
    va_Run p l e R s m args below meth c H locs cells slots mc ms g rest (Qc As.toArray) (free) := by
  obtain ⟨⟨hrc, hrs, hfr, hlo, hws, hcw⟩, hcode, hini, hy, hlen, hl, hstt⟩ := cw
  have hK : Back l R p e below s args y 3 8 (PreOf R mc ms Pc) (PostOf Qc mc ms free) := va_backW (hh := hh) (bytes := bytes) (maxL := maxL) (ret := ret) hM hp.1 hrc hrs hfr hlo hws hcw (fun a' U hW => word_at hW (Or.inl (by first | rfl | simp [Cond.onTables, Cond.keeps, Cond.steady])) hini)
  obtain ⟨hx, hb, hml, ho, -⟩ := S
  intro T hT X
  obtain ⟨v, vm₁, ⟨U', l2, c2, s2⟩, hW₁, X', ⟨g', mk, t, L, e1, e2, hq, h1, hL, h2, h3⟩, st⟩ := vx_callSW X hx (hh := hh) (bytes := bytes) (maxL := maxL) (ret := ret) ho hl hstt hini hcode hy hK hg (hsize.trans hml.symm) (argsL := As) (rest := rest) (fun sig h => hn.trans (hlen sig h)) hstack hW (by rw [hb]; exact hdg)
    (fun vm₁ hW₁ => ⟨hf.1, hf.2, hp.2 (T.setVm vm₁) hT hW₁⟩)
  dsimp only [Pt.U, Pt.locs, Pt.cells, Pt.slots] at X' e1 e2 h1 h2 h3 st
  subst h1; subst h2; subst h3
  exact ⟨v, (T.setVm vm₁).calling g' mk As.toArray, t, U', L, hT, X', hL, e1, e2, hq, st⟩
/-- not caught here, past rows that name other classes: it goes on to the caller -/
theorem vx_outP {p : Program} {l : Launch} {e : Env} {R : Room} {s : State} {m : MethodId} {args : Array Value} {below : List Frame} {meth : Method} {c : Code} {H : Heap} {locs : List Loc} {cells slots : Nat} {free : Addr → Prop} {ls : Array Slot} {rest : List Value} {Qc : Array Value → State → Outcome → State → Prop} {XC : String → State → State → Prop}
    {pc : Nat} {own E : String} {ce : Cell} {q : Addr} {mc ms : Nat} (hown : s.vm.findClass own = some m.cls) (hlocks : meth.locks = false)
    (hpass : ∀ z ∈ c.exceptionTable.toList, covers z pc = false ∨ (z.catchType ≠ 0 ∧ ∃ nm : String, (Cond.classLink own z.catchType nm).before args s = true ∧ va_Nc E nm s)) (hcell : H[q]? = some ce) (hv : ce.vm = .none) (hcl : s.vm.findClass E = some ce.cls)
    (hx : ∀ t : State, t.heap = H → s.vm.Alike t.vm → XC E s t) (hf : ∀ z ∈ locs, free z.base) (hc : cells ≤ mc) (hs : slots ≤ ms) :
    vx_W p l e R s m args below meth c H locs cells slots (vx_MQ below Qc XC args s mc ms free) (F0 m pc ls rest) q := by
  intro T hT X
  have hpl : e.platform.magicAccessors = ({} : Platform).magicAccessors := by rw [X.admits.platform]
  obtain ⟨vm', hW', X', st⟩ := X.outThrough hlocks q (g := F0 m pc ls rest) rfl rfl rfl (cell := ce) (by rw [hT]; exact hcell) (by rw [hv]; rfl)
    (by obtain ⟨k9, h9, -⟩ := Vm.findClass_spec hcl; exact ⟨k9, h9⟩) (fun z hz => by
      rcases hpass z hz with h | ⟨hz0, nm, hl1, hn1⟩
      · exact Or.inl h
      · obtain ⟨c6, hc6, hcl6⟩ := Cond.classLink_spec hown hl1 e.platform hpl
        obtain ⟨a8, b8, h1, h2, h3⟩ := hn1
        cases Option.some.inj (h1.symm.trans hcl)
        cases Option.some.inj (h2.symm.trans hc6)
        exact Or.inr ⟨hz0, _, hcl6, h3⟩)
  obtain ⟨g₀, hfr⟩ := X'.frames_eq
  have hcell9 : ((T.setVm vm').setFrames (.throwing q :: below)).heap[q]? = some ce := by
    show T.heap[q]? = some ce
    rw [hT]; exact hcell
  have hend : Ended ((T.setVm vm').setFrames (.throwing q :: below)) below (.threw q) := State.frames_setFrames _ (State.cur_lt_of_frames hfr)
  refine ⟨(T.setVm vm').setFrames (.throwing q :: below), ?_, .threw q, X'.here.running, hend, Or.inr ⟨q, rfl, E, ce, locs, hx _ hT (X'.ends _).1.alike, hcell9, hv, hcl, (X'.ends _).1, (X'.ends _).2.mono hc hs, hf⟩⟩
  rw [X.pushThrowing_eq]
  exact st
/-- a thing of a world lies in the heap -/
theorem vx_lt {D : va_G} {cl : List vw_C} {ws : va_W} {H1 : Heap} (h : va_P D cl ws H1) {k : Nat} {q : Nat × va_E} (hk : ws[k]? = some q) : q.1 < H1.size := (h k q hk).lt
end VXS
/-! ===== END ===== -/
/-! ===== BEGIN methods with a table of their own: called by a name, returning or throwing ===== -/
section VXH
/-! vx_backW, vx_callVX, vx_callSX, vx_callVW, vx_runVW, vx_runVX, vx_runSX, vx_ofWH follow the same proofs as their sisters above (Free/Laws.lean, Shelf42/LK1.lean); vx_outP calls Shelf42/NT130.lean (outThrough). -/
section
variable {l : Launch} {R : Room} {p : Program} {e : Env} {below : List Frame} {s : State} {sargs : Array Value} {y : MethodName} {len W9 : Nat}
theorem vx_backW {ws : List Cond} {rm : Room} {Pc : Array Value → State → Prop} {Qc : Array Value → State → Outcome → State → Prop} {XC : String → State → State → Prop} {mc ms : Nat} {free : Addr → Prop} {bytes : ByteArray} {maxL : Nat} {ret : Option FieldType} {hh : List (Nat × Nat × Nat × Nat)}
    (hM : vx_Met l y ws rm Pc Qc XC mc ms free) (hblind : FrameBlind Pc) (hrc : rm.cells = mc) (hrs : rm.slots = ms)
    (hframes : rm.frames + 1 ≤ R.frames) (hlocals : W9 + (maxL + 11) + rm.locals ≤ R.locals)
    (hws : ∀ w ∈ ws, ∀ a' U, s.WarmedH U.vm → w.before a' U = true) (hcode : Cond.codeWith y bytes maxL ret hh ∈ ws) (hinit : ∀ a' U, s.WarmedH U.vm → (Cond.initialized y.cls).before a' U = true) :
    vx_Back l R p e below s sargs y len W9 (PreOf R mc ms Pc) (PostOf Qc mc ms free) (vx_Post XC mc ms free) := by
  intro m meth c A g ig mk a X hg hsize hdg hW hn hp
  have h1 : (headSpec ws rm).pre.before a A.U = true := atoms_intro fun w hw => hws w hw _ _ X.warmed
  have h2 : (Cond.codeWith y bytes maxL ret hh).before a A.U = true := hws _ hcode _ _ X.warmed
  have h3 : (Cond.initialized y.cls).before a A.U = true := hinit _ _ X.warmed
  have h4 : A.cells + (headSpec ws rm).room.cells ≤ R.cells := by rw [show (headSpec ws rm).room.cells = mc from hrc]; exact hp.1
  have h5 : A.slots + (headSpec ws rm).room.slots ≤ R.slots := by rw [show (headSpec ws rm).room.slots = ms from hrs]; exact hp.2.1
  have hPc : Pc a (A.U.calling g mk a) := hblind _ _ _ _ hp.2.2
  obtain ⟨U, Ls, c0, s0⟩ := A
  dsimp only [Pt.U, Pt.locs, Pt.cells, Pt.slots] at h1 h2 h3 h4 h5 X hn hPc ⊢
  obtain ⟨m9, methY, cY, hn9, hmY, hcY, -, hlY, -⟩ := Cond.codeWith_spec h2
  cases Option.some.inj (hn9.symm.trans hn)
  obtain ⟨kY, hkY, -⟩ := className_of_methodNamed hn
  have hinitY : kY.init = .initialized := Cond.initialized_spec (findClass_of_methodNamed hn) hkY h3
  have h : At U g.method c below := by rw [hg]; exact X.here
  have hlocals9 : W9 + (maxL + 11) + (headSpec ws rm).room.locals ≤ R.locals := hlocals
  have happ : (headSpec ws rm).appliesLoose y e.platform (U.calling g mk a) = true :=
    Spec.appliesLoose_calling (g := g) h hdg hn hkY hinitY
      (X.room_calling (g := g) (R' := (headSpec ws rm).room) hsize hmY hcY hframes (by rw [hlY]; omega) h4 h5) h1
  obtain ⟨mid, hmid⟩ := h.above
  have hfr : (U.setTop g).frames = (.java g :: mid) ++ below := by rw [State.frames_setTop' g h.top, hmid]; rfl
  obtain ⟨o, s₂, hsteps, -, hend, hq⟩ := Steps.callFree hM p X.admits X.cas X.clock (acts := []) hfr happ hPc trivial
  have hq' : vx_Q Qc XC mc ms free a (U.calling g mk a) o s₂ := hq
  rw [State.frames_setTop' g h.top] at hend
  obtain ⟨g₀, hg0⟩ := Option.isSome_iff_exists.mp h.top
  obtain ⟨r, hr⟩ := State.topJava?_eq_some.mp hg0
  have hr' : (({ U with heap := s₂.heap, slotsUsed := s₂.slotsUsed } : State).setVm s₂.vm).frames = .java g₀ :: r := hr
  rcases hq' with ⟨hqc, L, hfe, hL⟩ | ⟨q, rfl, E, ce, L, hx, hce, hcv, hcl, hW₂, hsm, hL⟩
  · obtain ⟨⟨v, rfl⟩, hW₂, e2, q2, q3, q4, q5, q6⟩ := id hfe
    have e3 : s₂ = ({ (U.calling g mk a).setFrames s₂.frames with heap := s₂.heap, slotsUsed := s₂.slotsUsed } : State).setVm s₂.vm := by
      have : s₂ = ({ s₂ with vm := (U.calling g mk a).vm } : State).setVm s₂.vm := rfl
      rw [e2] at this
      exact this
    obtain ⟨c₂, i₂, len₂, hc₂, hd₂, hf₂⟩ := hend
    have hW' : U.WarmedH s₂.vm := hW₂
    have hcc : c₂ = c := by
      have h1 : s₂.code? g.method = U.code? g.method := by
        rw [State.code?_eq, State.code?_eq, hW'.alike.method?]
      exact Option.some.inj (hc₂.symm.trans (h1.trans h.code))
    subst hcc
    have hlen : len₂ = len := by rw [hdg] at hd₂; cases hd₂; rfl
    subst hlen
    have hs₂ : s₂ = (({ U with heap := s₂.heap, slotsUsed := s₂.slotsUsed } : State).setVm s₂.vm).setTop { g with pc := g.pc + len₂, stack := v.toList ++ g.stack } := by
      refine e3.trans ?_
      rw [hf₂, State.calling_eq h.top, State.setFrames_setFrames, State.setTop_of_frames _ hr', hr]
      rfl
    have hsame : U.sameButNew ({ U with heap := s₂.heap, slotsUsed := s₂.slotsUsed } : State) L mc ms := by
      refine ⟨?_, q2, q3, q4, q5, q6⟩
      obtain ⟨t, ht, -⟩ := State.frames_cons hr
      show ({ U with heap := s₂.heap, slotsUsed := s₂.slotsUsed } : State) = { U.setFrames U.frames with heap := s₂.heap, slotsUsed := s₂.slotsUsed }
      rw [State.setFrames_self ht]
    subst hg
    refine Or.inl ⟨v, ⟨(({ U with heap := s₂.heap, slotsUsed := s₂.slotsUsed } : State).setVm s₂.vm), Ls ++ L, c0 + mc, s0 + ms⟩,
      ⟨X.admits, X.cas, X.clock, X.frames, X.room, X.hears, X.method, X.code, (X.here.setHeapUsed s₂.heap s₂.slotsUsed).setVm hW'.alike, X.tail, State.WarmedH.trans X.warmed hW', X.limits, X.bytes, X.same.trans (hsame.setVm s.vm)⟩,
      ⟨g, mk, s₂, L, rfl, rfl, hqc, rfl, hL, rfl, rfl⟩, ?_⟩
    show Steps p.tables e below _ ((({ U with heap := s₂.heap, slotsUsed := s₂.slotsUsed } : State).setVm s₂.vm).setTop { g with pc := g.pc + len₂, stack := v.toList ++ g.stack })
    rw [← hs₂]
    exact hsteps
  · obtain ⟨e2, q2, q3, q4, q5, q6⟩ := id hsm
    have e3 : s₂ = ({ (U.calling g mk a).setFrames s₂.frames with heap := s₂.heap, slotsUsed := s₂.slotsUsed } : State).setVm s₂.vm := by
      have : s₂ = ({ s₂ with vm := (U.calling g mk a).vm } : State).setVm s₂.vm := rfl
      rw [e2] at this
      exact this
    have hf₂ : s₂.frames = .throwing q :: .java g :: U.frames.tail := hend
    have hW' : U.WarmedH s₂.vm := hW₂
    have hs₂ : s₂ = ((({ U with heap := s₂.heap, slotsUsed := s₂.slotsUsed } : State).setVm s₂.vm).setTop g).pushFrame (.throwing q) := by
      refine e3.trans ?_
      rw [hf₂, State.calling_eq h.top, State.setFrames_setFrames, State.pushFrame, State.frames_setTop _ hr', State.setTop_of_frames _ hr', State.setFrames_setFrames, hr]
      rfl
    have hsame : U.sameButNew ({ U with heap := s₂.heap, slotsUsed := s₂.slotsUsed } : State) L mc ms := by
      refine ⟨?_, q2, q3, q4, q5, q6⟩
      obtain ⟨t, ht, -⟩ := State.frames_cons hr
      show ({ U with heap := s₂.heap, slotsUsed := s₂.slotsUsed } : State) = { U.setFrames U.frames with heap := s₂.heap, slotsUsed := s₂.slotsUsed }
      rw [State.setFrames_self ht]
    subst hg
    refine Or.inr ⟨q, ⟨(({ U with heap := s₂.heap, slotsUsed := s₂.slotsUsed } : State).setVm s₂.vm), Ls ++ L, c0 + mc, s0 + ms⟩,
      ⟨X.admits, X.cas, X.clock, X.frames, X.room, X.hears, X.method, X.code, (X.here.setHeapUsed s₂.heap s₂.slotsUsed).setVm hW'.alike, X.tail, State.WarmedH.trans X.warmed hW', X.limits, X.bytes, X.same.trans (hsame.setVm s.vm)⟩,
      ⟨g, mk, s₂, L, E, ce, rfl, rfl, hx, hce, hcv, hcl, rfl, hL, rfl, rfl⟩, ?_⟩
    show Steps p.tables e below _ (((({ U with heap := s₂.heap, slotsUsed := s₂.slotsUsed } : State).setVm s₂.vm).setTop g).pushFrame (.throwing q))
    rw [← hs₂]
    exact hsteps
end
variable {p : Program} {l : Launch} {e : Env} {R : Room} {s : State} {m : MethodId} {args : Array Value} {below : List Frame} {meth : Method} {c : Code} {T : State} {H : Heap} {locs : List Loc} {cells slots : Nat}
theorem vx_callVX (X : Stand p l e R s m args below meth c T locs cells slots) (hexec : p.tables.exec = Jvm.exec) {own C : String} {index : Nat} {y : MethodName} {bytes : ByteArray} {maxL : Nat} {ret : Option FieldType} {hh : List (Nat × Nat × Nat × Nat)}
    (hown : s.vm.findClass own = some m.cls) (hlink : (Cond.methodLink own index y).before args s = true) (hinst : (Cond.instanceMethod y).before args s = true) (hsel : (Cond.selects C y y).before args s = true)
    (hcode : (Cond.codeWith y bytes maxL ret hh).before args s = true) (hy : y.cls ≠ "java/lang/invoke/MethodHandle" ∧ y.cls ≠ "java/lang/invoke/VarHandle")
    {W9 : Nat} {Pre : Pt → Array Value → Prop} {Post : Pt → Array Value → Option Value → Pt → Prop} {PostX : Pt → Array Value → Addr → Pt → Prop} (hK : vx_Back l R p e below s args y 3 W9 Pre Post PostX)
    {b : Addr} {cellB : Cell} (hcell : T.heap[b]? = some cellB) (hobj : cellB.vm.isStatics = false) (hcls : s.vm.findClass C = some cellB.cls)
    {g : JFrame} (hg : g.method = m) (hsize : g.locals.size = c.maxLocals) {argsL rest : List Value} (hlen : ∀ sig, parseMethodDescriptor y.desc = some sig → argsL.length = sig.parameters.length)
    (hstack : g.stack = argsL.reverse ++ .ref b :: rest) (hW : 2 * g.monitorRoom + (rest.map fun v => v.category).sum ≤ W9) (hdg : decode c.code g.pc = .ok (.invokevirtual index, 3))
    (hpre : ∀ vm₁, s.WarmedH vm₁ → Pre ⟨T.setVm vm₁, locs, cells, slots⟩ (Value.ref b :: argsL).toArray) :
    (∃ (v : Option Value) (vm₁ : Vm) (B : Pt), s.WarmedH vm₁ ∧ Stand p l e R s m args below meth c B.U B.locs B.cells B.slots ∧ Post ⟨T.setVm vm₁, locs, cells, slots⟩ (Value.ref b :: argsL).toArray v B ∧
      ∀ target, Steps p.tables e below (B.U.setTop { g with pc := g.pc + 3, stack := v.toList ++ rest }) target → Steps p.tables e below (T.setTop g) target) ∨
    (∃ (q : Addr) (vm₁ : Vm) (B : Pt), s.WarmedH vm₁ ∧ Stand p l e R s m args below meth c B.U B.locs B.cells B.slots ∧ PostX ⟨T.setVm vm₁, locs, cells, slots⟩ (Value.ref b :: argsL).toArray q B ∧
      Steps p.tables e below (T.setTop g) ((B.U.setTop { g with stack := rest }).pushFrame (.throwing q))) := by
  obtain ⟨mk, methM, hnamed, hmethM, hstM, habM⟩ := Cond.instanceMethod_spec hinst
  obtain ⟨m8, methM', cM, hn8, hmethM', -, -, -, -, -, -, hsigM⟩ := Cond.codeWith_spec hcode
  cases Option.some.inj (hn8.symm.trans hnamed)
  cases hmethM.symm.trans hmethM'
  obtain ⟨c2, r2, m2, q1, q2, q3, q4, kP, hkP, hkPi⟩ := Cond.selects_spec hsel
  cases hcls.symm.trans q1
  cases (State.methodFound?_of_named hnamed hy).symm.trans q2
  cases hnamed.symm.trans q3
  have hselP : selectMethod e.platform s.vm cellB.cls mk = .method mk := by rw [Launch.admits_selectMethod X.admits]; exact q4
  obtain ⟨vm₁, X₁, hstep₁⟩ := X.invokevirtual hexec hown hlink hnamed hmethM hstM hkP hkPi hy (a := b) (cell := cellB) hcell
    (fun z h => by rw [h] at hobj; cases hobj) hselP hmethM habM hkP hkPi (g := g) hg (argsL := argsL) (rest := rest) (hlen _ hsigM) hstack hdg
  rcases hK m meth c ⟨T.setVm vm₁, locs, cells, slots⟩ { g with stack := rest } (.invokevirtual index) mk (Value.ref b :: argsL).toArray X₁ hg hsize hdg hW (X₁.named hnamed) (hpre vm₁ X₁.warmed) with ⟨v, B, X', hpost, hsteps⟩ | ⟨q, B, X', hpost, hsteps⟩
  · exact Or.inl ⟨v, vm₁, B, X₁.warmed, X', hpost, fun target h => hstep₁ _ fun acts => by rw [doInvoke_state]; exact hsteps.trans h⟩
  · exact Or.inr ⟨q, vm₁, B, X₁.warmed, X', hpost, hstep₁ _ fun acts => by rw [doInvoke_state]; exact hsteps⟩
theorem vx_callSX (X : Stand p l e R s m args below meth c T locs cells slots) (hexec : p.tables.exec = Jvm.exec) {own : String} {index : Nat} {y : MethodName} {bytes : ByteArray} {maxL : Nat} {ret : Option FieldType} {hh : List (Nat × Nat × Nat × Nat)}
    (hown : s.vm.findClass own = some m.cls) (hlink : (Cond.methodLink own index y).before args s = true) (hstat : (Cond.static y).before args s = true) (hinit : (Cond.initialized y.cls).before args s = true)
    (hcode : (Cond.codeWith y bytes maxL ret hh).before args s = true) (hy : y.cls ≠ "java/lang/invoke/MethodHandle" ∧ y.cls ≠ "java/lang/invoke/VarHandle")
    {W9 : Nat} {Pre : Pt → Array Value → Prop} {Post : Pt → Array Value → Option Value → Pt → Prop} {PostX : Pt → Array Value → Addr → Pt → Prop} (hK : vx_Back l R p e below s args y 3 W9 Pre Post PostX)
    {g : JFrame} (hg : g.method = m) (hsize : g.locals.size = c.maxLocals) {argsL rest : List Value} (hlen : ∀ sig, parseMethodDescriptor y.desc = some sig → argsL.length = sig.parameters.length)
    (hstack : g.stack = argsL.reverse ++ rest) (hW : 2 * g.monitorRoom + (rest.map fun v => v.category).sum ≤ W9) (hdg : decode c.code g.pc = .ok (.invokestatic index, 3))
    (hpre : ∀ vm₁, s.WarmedH vm₁ → Pre ⟨T.setVm vm₁, locs, cells, slots⟩ argsL.toArray) :
    (∃ (v : Option Value) (vm₁ : Vm) (B : Pt), s.WarmedH vm₁ ∧ Stand p l e R s m args below meth c B.U B.locs B.cells B.slots ∧ Post ⟨T.setVm vm₁, locs, cells, slots⟩ argsL.toArray v B ∧
      ∀ target, Steps p.tables e below (B.U.setTop { g with pc := g.pc + 3, stack := v.toList ++ rest }) target → Steps p.tables e below (T.setTop g) target) ∨
    (∃ (q : Addr) (vm₁ : Vm) (B : Pt), s.WarmedH vm₁ ∧ Stand p l e R s m args below meth c B.U B.locs B.cells B.slots ∧ PostX ⟨T.setVm vm₁, locs, cells, slots⟩ argsL.toArray q B ∧
      Steps p.tables e below (T.setTop g) ((B.U.setTop { g with stack := rest }).pushFrame (.throwing q))) := by
  obtain ⟨mk, methM, cM, hnamed, hmethM, -, -, -, -, -, -, hsigM⟩ := Cond.codeWith_spec hcode
  have hstatic : methM.isStatic = true := Cond.static_spec hnamed hmethM hstat
  obtain ⟨kP, hkP, -⟩ := className_of_methodNamed hnamed
  have hinitP : kP.init = .initialized := Cond.initialized_spec (findClass_of_methodNamed hnamed) hkP hinit
  obtain ⟨vm₁, X₁, hstep₁⟩ := X.invokestatic hexec hown hlink hnamed hmethM hstatic hkP hinitP hy (g := g) hg (argsL := argsL) (rest := rest) (hlen _ hsigM) hstack hdg
  rcases hK m meth c ⟨T.setVm vm₁, locs, cells, slots⟩ { g with stack := rest } (.invokestatic index) mk argsL.toArray X₁ hg hsize hdg hW (X₁.named hnamed) (hpre vm₁ X₁.warmed) with ⟨v, B, X', hpost, hsteps⟩ | ⟨q, B, X', hpost, hsteps⟩
  · exact Or.inl ⟨v, vm₁, B, X₁.warmed, X', hpost, fun target h => hstep₁ _ fun acts => by rw [doInvoke_state]; exact hsteps.trans h⟩
  · exact Or.inr ⟨q, vm₁, B, X₁.warmed, X', hpost, hstep₁ _ fun acts => by rw [doInvoke_state]; exact hsteps⟩
theorem vx_callVW (X : Stand p l e R s m args below meth c T locs cells slots) (hexec : p.tables.exec = Jvm.exec) {own C : String} {index : Nat} {y : MethodName} {bytes : ByteArray} {maxL : Nat} {ret : Option FieldType} {hh : List (Nat × Nat × Nat × Nat)}
    (hown : s.vm.findClass own = some m.cls) (hlink : (Cond.methodLink own index y).before args s = true) (hinst : (Cond.instanceMethod y).before args s = true) (hsel : (Cond.selects C y y).before args s = true)
    (hcode : (Cond.codeWith y bytes maxL ret hh).before args s = true) (hy : y.cls ≠ "java/lang/invoke/MethodHandle" ∧ y.cls ≠ "java/lang/invoke/VarHandle")
    {W9 : Nat} {Pre : Pt → Array Value → Prop} {Post : Pt → Array Value → Option Value → Pt → Prop} (hK : Back l R p e below s args y 3 W9 Pre Post)
    {b : Addr} {cellB : Cell} (hcell : T.heap[b]? = some cellB) (hobj : cellB.vm.isStatics = false) (hcls : s.vm.findClass C = some cellB.cls)
    {g : JFrame} (hg : g.method = m) (hsize : g.locals.size = c.maxLocals) {argsL rest : List Value} (hlen : ∀ sig, parseMethodDescriptor y.desc = some sig → argsL.length = sig.parameters.length)
    (hstack : g.stack = argsL.reverse ++ .ref b :: rest) (hW : 2 * g.monitorRoom + (rest.map fun v => v.category).sum ≤ W9) (hdg : decode c.code g.pc = .ok (.invokevirtual index, 3))
    (hpre : ∀ vm₁, s.WarmedH vm₁ → Pre ⟨T.setVm vm₁, locs, cells, slots⟩ (Value.ref b :: argsL).toArray) :
    ∃ (v : Option Value) (vm₁ : Vm) (B : Pt), s.WarmedH vm₁ ∧ Stand p l e R s m args below meth c B.U B.locs B.cells B.slots ∧ Post ⟨T.setVm vm₁, locs, cells, slots⟩ (Value.ref b :: argsL).toArray v B ∧
      ∀ target, Steps p.tables e below (B.U.setTop { g with pc := g.pc + 3, stack := v.toList ++ rest }) target → Steps p.tables e below (T.setTop g) target := by
  obtain ⟨mk, methM, hnamed, hmethM, hstM, habM⟩ := Cond.instanceMethod_spec hinst
  obtain ⟨m8, methM', cM, hn8, hmethM', -, -, -, -, -, -, hsigM⟩ := Cond.codeWith_spec hcode
  cases Option.some.inj (hn8.symm.trans hnamed)
  cases hmethM.symm.trans hmethM'
  obtain ⟨c2, r2, m2, q1, q2, q3, q4, kP, hkP, hkPi⟩ := Cond.selects_spec hsel
  cases hcls.symm.trans q1
  cases (State.methodFound?_of_named hnamed hy).symm.trans q2
  cases hnamed.symm.trans q3
  have hselP : selectMethod e.platform s.vm cellB.cls mk = .method mk := by rw [Launch.admits_selectMethod X.admits]; exact q4
  obtain ⟨vm₁, X₁, hstep₁⟩ := X.invokevirtual hexec hown hlink hnamed hmethM hstM hkP hkPi hy (a := b) (cell := cellB) hcell
    (fun z h => by rw [h] at hobj; cases hobj) hselP hmethM habM hkP hkPi (g := g) hg (argsL := argsL) (rest := rest) (hlen _ hsigM) hstack hdg
  obtain ⟨v, B, X', hpost, hsteps⟩ := hK m meth c ⟨T.setVm vm₁, locs, cells, slots⟩ { g with stack := rest } (.invokevirtual index) mk (Value.ref b :: argsL).toArray X₁ hg hsize hdg hW (X₁.named hnamed) (hpre vm₁ X₁.warmed)
  exact ⟨v, vm₁, B, X₁.warmed, X', hpost, fun target h => hstep₁ _ fun acts => by rw [doInvoke_state]; exact hsteps.trans h⟩
abbrev vx_CVW (R : Room) (s : State) (args : Array Value) (own C : String) (index : Nat) (y : MethodName) (bytes : ByteArray) (maxL : Nat) (ret : Option FieldType) (hh : List (Nat × Nat × Nat × Nat)) (ws : List Cond) (rm : Room) (mc ms n : Nat) : Prop :=
  (rm.cells = mc ∧ rm.slots = ms ∧ rm.frames + 1 ≤ R.frames ∧ 8 + (maxL + 11) + rm.locals ≤ R.locals ∧ (∀ w ∈ ws, ∀ (a' : Array Value) (U : State), s.WarmedH U.vm → w.before a' U = true) ∧ Cond.codeWith y bytes maxL ret hh ∈ ws) ∧
  (Cond.codeWith y bytes maxL ret hh).before args s = true ∧ (Cond.initialized y.cls).before args s = true ∧ (y.cls ≠ "java/lang/invoke/MethodHandle" ∧ y.cls ≠ "java/lang/invoke/VarHandle") ∧
  (∀ sig, parseMethodDescriptor y.desc = some sig → n = sig.parameters.length) ∧ (Cond.methodLink own index y).before args s = true ∧ (Cond.instanceMethod y).before args s = true ∧ (Cond.selects C y y).before args s = true
theorem vx_cwVW {own C : String} {index maxL mc ms : Nat} {y : MethodName} {bytes : ByteArray} {ret : Option FieldType} {hh : List (Nat × Nat × Nat × Nat)} {Ts ws ws' : List Cond} {rm : Room} (n : Nat) (ht : ∀ w ∈ Ts, w.before args s = true) (hT : GoodIn Ts (wsV own index C y ws)) (hw : ws = Cond.codeWith y bytes maxL ret hh :: ws') (hrc : rm.cells = mc) (hrs : rm.slots = ms)
    (hd : y.cls = C ∧ y.cls ≠ "java/lang/invoke/MethodHandle" ∧ y.cls ≠ "java/lang/invoke/VarHandle" ∧ (parseMethodDescriptor y.desc).map (fun d => d.parameters.length) = some n) (hR : rm.frames + 1 ≤ R.frames ∧ 8 + (maxL + 11) + rm.locals ≤ R.locals) :
    vx_CVW R s args own C index y bytes maxL ret hh ws rm mc ms n := by
  obtain ⟨hC, hd⟩ := hd
  subst hC
  have ok : ∀ w ∈ wsV own index y.cls y ws, w.before args s = true := fun w h => ht w (hT w h).1
  have hG : GoodIn Ts ws := fun w h => hT w (by unfold wsV; exact List.mem_append_right _ h)
  have hc : Cond.codeWith y bytes maxL ret hh ∈ ws := by rw [hw]; exact List.mem_cons_self
  refine ⟨⟨hrc, hrs, hR.1, hR.2, pay_in ht hG, hc⟩, ht _ (hG _ hc).1, ok _ (by simp [wsV]), ⟨hd.1, hd.2.1⟩, fun sig h => ?_, ok _ (by simp [wsV]), ok _ (by simp [wsV]), ok _ (by simp [wsV])⟩
  have h2 := hd.2.2
  rw [h] at h2
  exact (Option.some.inj h2).symm
theorem vx_runVW {y : MethodName} {bytes cc : ByteArray} {maxL nL mc ms n index : Nat} {ret : Option FieldType} {hh : List (Nat × Nat × Nat × Nat)} {ws : List Cond} {rm : Room} {Pc : Array Value → State → Prop} {Qc : Array Value → State → Outcome → State → Prop} {free : Addr → Prop} {Ts : List Cond} {own C : String} {b : Addr} {As rest : List Value} {g : JFrame}
    (S : CallFix p m c cc nL s args Ts own) (hM : Met l y ws rm Pc Qc mc ms free) (cw : vx_CVW R s args own C index y bytes maxL ret hh ws rm mc ms n) (hp : PreV s H C b Pc As)
    (hg : g.method = m) (hn : As.length = n) (hsize : g.locals.size = nL) (hstack : g.stack = As.reverse ++ .ref b :: rest) (hW : 2 * g.monitorRoom + (rest.map fun v => v.category).sum ≤ 8) (hdg : decode cc g.pc = .ok (.invokevirtual index, 3)) (hf : cells + mc ≤ R.cells ∧ slots + ms ≤ R.slots) :
    va_Run p l e R s m args below meth c H locs cells slots mc ms g rest (Qc (Value.ref b :: As).toArray) free := by
  obtain ⟨⟨hrc, hrs, hfr, hlo, hws, hcw⟩, hcode, hini, hy, hlen, hl, hin, hse⟩ := cw
  have hK : Back l R p e below s args y 3 8 (PreOf R mc ms Pc) (PostOf Qc mc ms free) := va_backW (hh := hh) (bytes := bytes) (maxL := maxL) (ret := ret) hM hp.1 hrc hrs hfr hlo hws hcw (fun a' U hW => word_at hW (Or.inl (by first | rfl | simp [Cond.onTables, Cond.keeps, Cond.steady])) hini)
  obtain ⟨hx, hb, hml, ho, -⟩ := S
  obtain ⟨-, ⟨cellB, hcB, hoB, hclB⟩, hPc⟩ := hp
  intro T hT X
  obtain ⟨v, vm₁, ⟨U', l2, c2, s2⟩, hW₁, X', ⟨g', mk, t, L, e1, e2, hq, h1, hL, h2, h3⟩, st⟩ := vx_callVW X hx (C := C) (hh := hh) (bytes := bytes) (maxL := maxL) (ret := ret) ho hl hin hse hcode hy hK (by rw [hT]; exact hcB) hoB hclB hg (hsize.trans hml.symm) (argsL := As) (rest := rest) (fun sig h => hn.trans (hlen sig h)) hstack hW (by rw [hb]; exact hdg)
    (fun vm₁ hW₁ => ⟨hf.1, hf.2, hPc (T.setVm vm₁) hT hW₁⟩)
  dsimp only [Pt.U, Pt.locs, Pt.cells, Pt.slots] at X' e1 e2 h1 h2 h3 st
  subst h1; subst h2; subst h3
  exact ⟨v, (T.setVm vm₁).calling g' mk (Value.ref b :: As).toArray, t, U', L, hT, X', hL, e1, e2, hq, st⟩
section
variable {y : MethodName} {bytes cc : ByteArray} {maxL nL mc ms n index : Nat} {ret : Option FieldType} {ws : List Cond} {rm : Room} {Pc : Array Value → State → Prop} {Qc : Array Value → State → Outcome → State → Prop} {XC : String → State → State → Prop} {free : Addr → Prop} {Ts : List Cond} {own C : String} {b : Addr} {As rest : List Value} {g : JFrame}
theorem vx_runVX {hh : List (Nat × Nat × Nat × Nat)} (S : CallFix p m c cc nL s args Ts own) (hM : vx_Met l y ws rm Pc Qc XC mc ms free) (cw : vx_CVW R s args own C index y bytes maxL ret hh ws rm mc ms n) (hp : PreV s H C b Pc As)
    (hg : g.method = m) (hn : As.length = n) (hsize : g.locals.size = nL) (hstack : g.stack = As.reverse ++ .ref b :: rest) (hW : 2 * g.monitorRoom + (rest.map fun v => v.category).sum ≤ 8) (hdg : decode cc g.pc = .ok (.invokevirtual index, 3)) (hf : cells + mc ≤ R.cells ∧ slots + ms ≤ R.slots) :
    vx_Run p l e R s m args below meth c H locs cells slots mc ms g rest (Qc (Value.ref b :: As).toArray) XC free := by
  obtain ⟨⟨hrc, hrs, hfr, hlo, hws, hcw⟩, hcode, hini, hy, hlen, hl, hin, hse⟩ := cw
  have hK : vx_Back l R p e below s args y 3 8 (PreOf R mc ms Pc) (PostOf Qc mc ms free) (vx_Post XC mc ms free) := vx_backW (hh := hh) (bytes := bytes) (maxL := maxL) (ret := ret) hM hp.1 hrc hrs hfr hlo hws hcw (fun a' U hW => word_at hW (Or.inl (by first | rfl | simp [Cond.onTables, Cond.keeps, Cond.steady])) hini)
  obtain ⟨hx, hb, hml, ho, -⟩ := S
  obtain ⟨-, ⟨cellB, hcB, hoB, hclB⟩, hPc⟩ := hp
  intro T hT X
  rcases vx_callVX X hx (C := C) (hh := hh) (bytes := bytes) (maxL := maxL) (ret := ret) ho hl hin hse hcode hy hK (by rw [hT]; exact hcB) hoB hclB hg (hsize.trans hml.symm) (argsL := As) (rest := rest) (fun sig h => hn.trans (hlen sig h)) hstack hW (by rw [hb]; exact hdg)
    (fun vm₁ hW₁ => ⟨hf.1, hf.2, hPc (T.setVm vm₁) hT hW₁⟩) with ⟨v, vm₁, ⟨U', l2, c2, s2⟩, hW₁, X', ⟨g', mk, t, L, e1, e2, hq, h1, hL, h2, h3⟩, st⟩ | ⟨q, vm₁, ⟨U', l2, c2, s2⟩, hW₁, X', ⟨g', mk, t, L, E, ce, e1, e2, hq, hce, hcv, hcl, h1, hL, h2, h3⟩, st⟩
  · dsimp only [Pt.U, Pt.locs, Pt.cells, Pt.slots] at X' e1 e2 h1 h2 h3 st
    subst h1; subst h2; subst h3
    exact Or.inl ⟨v, (T.setVm vm₁).calling g' mk (Value.ref b :: As).toArray, t, U', L, hT, X', hL, e1, e2, hq, st⟩
  · dsimp only [Pt.U, Pt.locs, Pt.cells, Pt.slots] at X' e1 e2 h1 h2 h3 st hcl
    subst h1; subst h2; subst h3
    exact Or.inr ⟨q, (T.setVm vm₁).calling g' mk (Value.ref b :: As).toArray, t, U', L, E, ce, hT, X', hL, e1, e2, hq, hce, hcv, vx_cls hW₁ hcl, st⟩
theorem vx_runSX {hh : List (Nat × Nat × Nat × Nat)} (S : CallFix p m c cc nL s args Ts own) (hM : vx_Met l y ws rm Pc Qc XC mc ms free) (cw : vx_CSW R s args own index y bytes maxL ret hh ws rm mc ms n) (hp : PreS s H Pc As)
    (hg : g.method = m) (hn : As.length = n) (hsize : g.locals.size = nL) (hstack : g.stack = As.reverse ++ rest) (hW : 2 * g.monitorRoom + (rest.map fun v => v.category).sum ≤ 8) (hdg : decode cc g.pc = .ok (.invokestatic index, 3)) (hf : cells + mc ≤ R.cells ∧ slots + ms ≤ R.slots) :
    vx_Run p l e R s m args below meth c H locs cells slots mc ms g rest (Qc As.toArray) XC free := by
  obtain ⟨⟨hrc, hrs, hfr, hlo, hws, hcw⟩, hcode, hini, hy, hlen, hl, hstt⟩ := cw
  have hK : vx_Back l R p e below s args y 3 8 (PreOf R mc ms Pc) (PostOf Qc mc ms free) (vx_Post XC mc ms free) := vx_backW (hh := hh) (bytes := bytes) (maxL := maxL) (ret := ret) hM hp.1 hrc hrs hfr hlo hws hcw (fun a' U hW => word_at hW (Or.inl (by first | rfl | simp [Cond.onTables, Cond.keeps, Cond.steady])) hini)
  obtain ⟨hx, hb, hml, ho, -⟩ := S
  intro T hT X
  rcases vx_callSX X hx (hh := hh) (bytes := bytes) (maxL := maxL) (ret := ret) ho hl hstt hini hcode hy hK hg (hsize.trans hml.symm) (argsL := As) (rest := rest) (fun sig h => hn.trans (hlen sig h)) hstack hW (by rw [hb]; exact hdg)
    (fun vm₁ hW₁ => ⟨hf.1, hf.2, hp.2 (T.setVm vm₁) hT hW₁⟩) with ⟨v, vm₁, ⟨U', l2, c2, s2⟩, hW₁, X', ⟨g', mk, t, L, e1, e2, hq, h1, hL, h2, h3⟩, st⟩ | ⟨q, vm₁, ⟨U', l2, c2, s2⟩, hW₁, X', ⟨g', mk, t, L, E, ce, e1, e2, hq, hce, hcv, hcl, h1, hL, h2, h3⟩, st⟩
  · dsimp only [Pt.U, Pt.locs, Pt.cells, Pt.slots] at X' e1 e2 h1 h2 h3 st
    subst h1; subst h2; subst h3
    exact Or.inl ⟨v, (T.setVm vm₁).calling g' mk As.toArray, t, U', L, hT, X', hL, e1, e2, hq, st⟩
  · dsimp only [Pt.U, Pt.locs, Pt.cells, Pt.slots] at X' e1 e2 h1 h2 h3 st hcl
    subst h1; subst h2; subst h3
    exact Or.inr ⟨q, (T.setVm vm₁).calling g' mk As.toArray, t, U', L, E, ce, hT, X', hL, e1, e2, hq, hce, hcv, vx_cls hW₁ hcl, st⟩
end
end VXH
theorem vx_ofWH {l : Launch} {y : MethodName} {ws ws' : List Cond} {rm : Room} {Pc : Array Value → State → Prop} {Qc : Array Value → State → Outcome → State → Prop} {XC : String → State → State → Prop} {mc ms : Nat} {free : Addr → Prop} {cc : ByteArray} {maxL : Nat} {ret : Option FieldType} {hh : List (Nat × Nat × Nat × Nat)}
    (hy : plainName y.cls = true) (hw : ws = Cond.codeWith y cc maxL ret hh :: ws')
    (body : ∀ p e s m args below meth c s₁, BodyLoose p l y (headSpec ws rm) cc maxL ret e s m args below meth c s₁ → c.maxLocals = maxL → Pc args s →
      W p l e (headSpec ws rm).room s m args below meth c s.heap [] 0 0 (vx_MQ below Qc XC args s mc ms free) (entryFrame m args maxL)) : vx_Met l y ws rm Pc Qc XC mc ms free := by
  refine MetFree.of_bodyS (code := cc) (maxLocals := maxL) (ret := ret) hy ?_ ?_
  · intro args s m h hn
    obtain ⟨m9, meth, c, hn9, h1, h2, h3, h4, -, h5, h6, -⟩ := Cond.codeWith_spec (atoms_spec (ws := ws) h _ (by rw [hw]; exact List.mem_cons_self))
    cases hn.symm.trans hn9
    exact ⟨meth, c, h1, h2, h3, h4, h5, h6⟩
  · intro p e s m args below meth c s₁ B hml hP _
    have hh0 : s₁.heap = s.heap := by rw [B.state]; rfl
    obtain ⟨t, a1, o, b1, b2, b3⟩ := body p e s m args below meth c s₁ B hml hP s₁ hh0 (Stand.of_body B)
    exact ⟨t, o, a1, b1, b2, b3⟩
/-! ===== END ===== -/
end
section
def RX0 : String := "TurtleChalk$Desk"
def TX0 : u_T := fun k => match k with
  | 0 => ("TurtleChalk$Desk", "above", "[I", false)
  | _ => ("TurtleChalk$Desk", "below", "[I", false)
def tyX0 : Nat → FieldType := fun k => match k with
  | 0 => .array .int
  | _ => .array .int
abbrev wsX00 : List Cond := u_ws RX0 TX0 2
theorem nmX0 : ∀ a, a < 2 → ∀ b, b < 2 → a ≠ b → (TX0 a).2.1 ≠ (TX0 b).2.1 := by decide +kernel
theorem tyX0_ok : ∀ k, k < 2 → parseFieldDescriptor (TX0 k).2.2.1 = some (tyX0 k) := by decide +kernel
abbrev cX0_init : ByteArray := prog_2_method_1_code
def yX0_init : MethodName := ⟨RX0, "<init>", "()V"⟩
abbrev cX0_longestCommon : ByteArray := prog_2_method_2_code
def yX0_longestCommon : MethodName := ⟨RX0, "longestCommon", "([I[I)I"⟩
abbrev cX0_fillBelow : ByteArray := prog_2_method_3_code
def yX0_fillBelow : MethodName := ⟨RX0, "fillBelow", "(I[II)V"⟩
def RX1 : String := "TurtleChalk$Draft"
def TX1 : u_T := fun k => match k with
  | 0 => ("TurtleChalk$Draft", "orders", "[LTurtleChalk$Order;", true)
  | 1 => ("TurtleChalk$Draft", "told", "[Z", true)
  | 2 => ("TurtleChalk$Draft", "count", "I", false)
  | _ => ("TurtleChalk$Draft", "open", "I", false)
def tyX1 : Nat → FieldType := fun k => match k with
  | 0 => .array (.object "TurtleChalk$Order")
  | 1 => .array .boolean
  | 2 => .int
  | _ => .int
abbrev wsX10 : List Cond := u_ws RX1 TX1 4
theorem nmX1 : ∀ a, a < 4 → ∀ b, b < 4 → a ≠ b → (TX1 a).2.1 ≠ (TX1 b).2.1 := by decide +kernel
theorem tyX1_ok : ∀ k, k < 4 → parseFieldDescriptor (TX1 k).2.2.1 = some (tyX1 k) := by decide +kernel
abbrev cX1_init : ByteArray := prog_3_method_1_code
def yX1_init : MethodName := ⟨RX1, "<init>", "()V"⟩
abbrev cX1_length : ByteArray := prog_3_method_2_code
def yX1_length : MethodName := ⟨RX1, "length", "()I"⟩
abbrev cX1_openBlocks : ByteArray := prog_3_method_3_code
def yX1_openBlocks : MethodName := ⟨RX1, "openBlocks", "()I"⟩
abbrev cX1_tells : ByteArray := prog_3_method_4_code
def yX1_tells : MethodName := ⟨RX1, "tells", "(I)Z"⟩
abbrev cX1_orderAt : ByteArray := prog_3_method_5_code
def yX1_orderAt : MethodName := ⟨RX1, "orderAt", "(I)LTurtleChalk$Order;"⟩
abbrev cX1_append : ByteArray := prog_3_method_6_code
def yX1_append : MethodName := ⟨RX1, "append", "(LTurtleChalk$Order;)V"⟩
abbrev cX1_makeEmpty : ByteArray := prog_3_method_7_code
def yX1_makeEmpty : MethodName := ⟨RX1, "makeEmpty", "()V"⟩
def RX2 : String := "TurtleChalk$Drawing"
def TX2 : u_T := fun k => match k with
  | 0 => ("TurtleChalk$Drawing", "rights", "[I", true)
  | 1 => ("TurtleChalk$Drawing", "ups", "[I", true)
  | 2 => ("TurtleChalk$Drawing", "strokeCount", "I", false)
  | 3 => ("TurtleChalk$Drawing", "leastX", "I", false)
  | 4 => ("TurtleChalk$Drawing", "leastY", "I", false)
  | 5 => ("TurtleChalk$Drawing", "greatestX", "I", false)
  | _ => ("TurtleChalk$Drawing", "greatestY", "I", false)
def tyX2 : Nat → FieldType := fun k => match k with
  | 0 => .array .int
  | 1 => .array .int
  | 2 => .int
  | 3 => .int
  | 4 => .int
  | 5 => .int
  | _ => .int
abbrev wsX20 : List Cond := u_ws RX2 TX2 7
theorem nmX2 : ∀ a, a < 7 → ∀ b, b < 7 → a ≠ b → (TX2 a).2.1 ≠ (TX2 b).2.1 := by decide +kernel
theorem tyX2_ok : ∀ k, k < 7 → parseFieldDescriptor (TX2 k).2.2.1 = some (tyX2 k) := by decide +kernel
abbrev cX2_init : ByteArray := prog_4_method_1_code
def yX2_init : MethodName := ⟨RX2, "<init>", "()V"⟩
abbrev cX2_makeEmpty : ByteArray := prog_4_method_2_code
def yX2_makeEmpty : MethodName := ⟨RX2, "makeEmpty", "()V"⟩
abbrev cX2_hasStroke : ByteArray := prog_4_method_3_code
def yX2_hasStroke : MethodName := ⟨RX2, "hasStroke", "(IIZ)Z"⟩
abbrev cX2_draw : ByteArray := prog_4_method_4_code
def yX2_draw : MethodName := ⟨RX2, "draw", "(IIZ)V"⟩
abbrev cX2_takeIn : ByteArray := prog_4_method_5_code
def yX2_takeIn : MethodName := ⟨RX2, "takeIn", "(IIII)V"⟩
abbrev cX2_cellsWide : ByteArray := prog_4_method_6_code
def yX2_cellsWide : MethodName := ⟨RX2, "cellsWide", "()I"⟩
abbrev cX2_cellsHigh : ByteArray := prog_4_method_7_code
def yX2_cellsHigh : MethodName := ⟨RX2, "cellsHigh", "()I"⟩
abbrev cX2_isShiftOf : ByteArray := prog_4_method_8_code
def yX2_isShiftOf : MethodName := ⟨RX2, "isShiftOf", "(LTurtleChalk$Drawing;)Z"⟩
abbrev cX2_rowInCorner : ByteArray := prog_4_method_9_code
def yX2_rowInCorner : MethodName := ⟨RX2, "rowInCorner", "([II)I"⟩
def RX3 : String := "TurtleChalk$Exercise"
def TX3 : u_T := fun k => match k with
  | 0 => ("TurtleChalk$Exercise", "wanted", "LTurtleChalk$Program;", true)
  | 1 => ("TurtleChalk$Exercise", "mostOrders", "I", false)
  | _ => ("TurtleChalk$Exercise", "mostSteps", "I", false)
def tyX3 : Nat → FieldType := fun k => match k with
  | 0 => .object "TurtleChalk$Program"
  | 1 => .int
  | _ => .int
abbrev wsX30 : List Cond := u_ws RX3 TX3 3
theorem nmX3 : ∀ a, a < 3 → ∀ b, b < 3 → a ≠ b → (TX3 a).2.1 ≠ (TX3 b).2.1 := by decide +kernel
theorem tyX3_ok : ∀ k, k < 3 → parseFieldDescriptor (TX3 k).2.2.1 = some (tyX3 k) := by decide +kernel
abbrev cX3_init : ByteArray := prog_5_method_1_code
def yX3_init : MethodName := ⟨RX3, "<init>", "(LTurtleChalk$Program;II)V"⟩
abbrev cX3_allowAtMost : ByteArray := prog_5_method_2_code
def yX3_allowAtMost : MethodName := ⟨RX3, "allowAtMost", "(II)V"⟩
abbrev cX3_isMetBy : ByteArray := prog_5_method_3_code
def yX3_isMetBy : MethodName := ⟨RX3, "isMetBy", "(LTurtleChalk$Program;)Z"⟩
def RX4 : String := "TurtleChalk$Order"
def TX4 : u_T := fun k => match k with
  | 0 => ("TurtleChalk$Order", "kind", "I", true)
  | 1 => ("TurtleChalk$Order", "target", "I", true)
  | 2 => ("TurtleChalk$Order", "value", "I", true)
  | _ => ("TurtleChalk$Order", "isName", "Z", true)
def tyX4 : Nat → FieldType := fun k => match k with
  | 0 => .int
  | 1 => .int
  | 2 => .int
  | _ => .boolean
abbrev wsX40 : List Cond := u_ws RX4 TX4 4
theorem nmX4 : ∀ a, a < 4 → ∀ b, b < 4 → a ≠ b → (TX4 a).2.1 ≠ (TX4 b).2.1 := by decide +kernel
theorem tyX4_ok : ∀ k, k < 4 → parseFieldDescriptor (TX4 k).2.2.1 = some (tyX4 k) := by decide +kernel
abbrev cX4_init : ByteArray := prog_6_method_1_code
def yX4_init : MethodName := ⟨RX4, "<init>", "(IIIZ)V"⟩
abbrev cX4_opensBlock : ByteArray := prog_6_method_2_code
def yX4_opensBlock : MethodName := ⟨RX4, "opensBlock", "()Z"⟩
def RX5 : String := "TurtleChalk$Program"
def TX5 : u_T := fun k => match k with
  | 0 => ("TurtleChalk$Program", "pupil", "I", true)
  | 1 => ("TurtleChalk$Program", "orders", "[LTurtleChalk$Order;", true)
  | 2 => ("TurtleChalk$Program", "partners", "[I", true)
  | 3 => ("TurtleChalk$Program", "wordStarts", "[I", true)
  | 4 => ("TurtleChalk$Program", "form", "[I", true)
  | 5 => ("TurtleChalk$Program", "drawing", "LTurtleChalk$Drawing;", true)
  | 6 => ("TurtleChalk$Program", "brokenBy", "I", false)
  | _ => ("TurtleChalk$Program", "counted", "I", false)
def tyX5 : Nat → FieldType := fun k => match k with
  | 0 => .int
  | 1 => .array (.object "TurtleChalk$Order")
  | 2 => .array .int
  | 3 => .array .int
  | 4 => .array .int
  | 5 => .object "TurtleChalk$Drawing"
  | 6 => .int
  | _ => .int
abbrev wsX50 : List Cond := u_ws RX5 TX5 8
theorem nmX5 : ∀ a, a < 8 → ∀ b, b < 8 → a ≠ b → (TX5 a).2.1 ≠ (TX5 b).2.1 := by decide +kernel
theorem tyX5_ok : ∀ k, k < 8 → parseFieldDescriptor (TX5 k).2.2.1 = some (tyX5 k) := by decide +kernel
abbrev cX5_init : ByteArray := prog_7_method_1_code
def yX5_init : MethodName := ⟨RX5, "<init>", "(ILTurtleChalk$Draft;)V"⟩
abbrev cX5_length : ByteArray := prog_7_method_2_code
def yX5_length : MethodName := ⟨RX5, "length", "()I"⟩
abbrev cX5_orderAt : ByteArray := prog_7_method_3_code
def yX5_orderAt : MethodName := ⟨RX5, "orderAt", "(I)LTurtleChalk$Order;"⟩
abbrev cX5_partnerOf : ByteArray := prog_7_method_4_code
def yX5_partnerOf : MethodName := ⟨RX5, "partnerOf", "(I)I"⟩
abbrev cX5_startOf : ByteArray := prog_7_method_5_code
def yX5_startOf : MethodName := ⟨RX5, "startOf", "(I)I"⟩
abbrev cX5_keepOutcome : ByteArray := prog_7_method_6_code
def yX5_keepOutcome : MethodName := ⟨RX5, "keepOutcome", "(II)V"⟩
abbrev cX5_hasFormOf : ByteArray := prog_7_method_7_code
def yX5_hasFormOf : MethodName := ⟨RX5, "hasFormOf", "(LTurtleChalk$Program;)Z"⟩
abbrev cX5_pairBlocks : ByteArray := prog_7_method_8_code
def yX5_pairBlocks : MethodName := ⟨RX5, "pairBlocks", "()V"⟩
abbrev cX5_lastOpenAhead : ByteArray := prog_7_method_9_code
def yX5_lastOpenAhead : MethodName := ⟨RX5, "lastOpenAhead", "(I)I"⟩
abbrev cX5_findWords : ByteArray := prog_7_method_10_code
def yX5_findWords : MethodName := ⟨RX5, "findWords", "()V"⟩
abbrev cX5_buildForm : ByteArray := prog_7_method_11_code
def yX5_buildForm : MethodName := ⟨RX5, "buildForm", "()V"⟩
abbrev cX5_codeOf : ByteArray := prog_7_method_12_code
def yX5_codeOf : MethodName := ⟨RX5, "codeOf", "(LTurtleChalk$Order;II)I"⟩
def RX6 : String := "TurtleChalk$Renumbering"
def TX6 : u_T := fun k => match k with
  | 0 => ("TurtleChalk$Renumbering", "fresh", "[I", true)
  | _ => ("TurtleChalk$Renumbering", "count", "I", false)
def tyX6 : Nat → FieldType := fun k => match k with
  | 0 => .array .int
  | _ => .int
abbrev wsX60 : List Cond := u_ws RX6 TX6 2
theorem nmX6 : ∀ a, a < 2 → ∀ b, b < 2 → a ≠ b → (TX6 a).2.1 ≠ (TX6 b).2.1 := by decide +kernel
theorem tyX6_ok : ∀ k, k < 2 → parseFieldDescriptor (TX6 k).2.2.1 = some (tyX6 k) := by decide +kernel
abbrev cX6_init : ByteArray := prog_8_method_1_code
def yX6_init : MethodName := ⟨RX6, "<init>", "()V"⟩
abbrev cX6_numberOf : ByteArray := prog_8_method_2_code
def yX6_numberOf : MethodName := ⟨RX6, "numberOf", "(I)I"⟩
def RX7 : String := "TurtleChalk$Run"
def TX7 : u_T := fun k => match k with
  | 0 => ("TurtleChalk$Run", "turtle", "LTurtleChalk$Turtle;", true)
  | 1 => ("TurtleChalk$Run", "names", "[I", true)
  | 2 => ("TurtleChalk$Run", "roundsLeft", "[I", true)
  | 3 => ("TurtleChalk$Run", "callers", "[I", true)
  | 4 => ("TurtleChalk$Run", "drawing", "LTurtleChalk$Drawing;", false)
  | 5 => ("TurtleChalk$Run", "depth", "I", false)
  | 6 => ("TurtleChalk$Run", "mostSteps", "I", false)
  | 7 => ("TurtleChalk$Run", "stepCount", "I", false)
  | _ => ("TurtleChalk$Run", "breaker", "I", false)
def tyX7 : Nat → FieldType := fun k => match k with
  | 0 => .object "TurtleChalk$Turtle"
  | 1 => .array .int
  | 2 => .array .int
  | 3 => .array .int
  | 4 => .object "TurtleChalk$Drawing"
  | 5 => .int
  | 6 => .int
  | 7 => .int
  | _ => .int
abbrev wsX70 : List Cond := u_ws RX7 TX7 9
theorem nmX7 : ∀ a, a < 9 → ∀ b, b < 9 → a ≠ b → (TX7 a).2.1 ≠ (TX7 b).2.1 := by decide +kernel
theorem tyX7_ok : ∀ k, k < 9 → parseFieldDescriptor (TX7 k).2.2.1 = some (tyX7 k) := by decide +kernel
abbrev cX7_init : ByteArray := prog_9_method_1_code
def yX7_init : MethodName := ⟨RX7, "<init>", "()V"⟩
abbrev cX7_brokenBy : ByteArray := prog_9_method_2_code
def yX7_brokenBy : MethodName := ⟨RX7, "brokenBy", "()I"⟩
abbrev cX7_counted : ByteArray := prog_9_method_3_code
def yX7_counted : MethodName := ⟨RX7, "counted", "()I"⟩
abbrev cX7_perform : ByteArray := prog_9_method_4_code
def yX7_perform : MethodName := ⟨RX7, "perform", "(LTurtleChalk$Program;LTurtleChalk$Drawing;I)V"⟩
abbrev cX7_follow : ByteArray := prog_9_method_5_code
def yX7_follow : MethodName := ⟨RX7, "follow", "(LTurtleChalk$Program;I)I"⟩
abbrev cX7_canCount : ByteArray := prog_9_method_6_code
def yX7_canCount : MethodName := ⟨RX7, "canCount", "()Z"⟩
abbrev cX7_valueOf : ByteArray := prog_9_method_7_code
def yX7_valueOf : MethodName := ⟨RX7, "valueOf", "(LTurtleChalk$Order;)I"⟩
abbrev cX7_nameAt : ByteArray := prog_9_method_8_code
def yX7_nameAt : MethodName := ⟨RX7, "nameAt", "(I)I"⟩
abbrev cX7_putName : ByteArray := prog_9_method_9_code
def yX7_putName : MethodName := ⟨RX7, "putName", "(II)Z"⟩
abbrev cX7_goForward : ByteArray := prog_9_method_10_code
def yX7_goForward : MethodName := ⟨RX7, "goForward", "(I)Z"⟩
abbrev cX7_beginRepeat : ByteArray := prog_9_method_11_code
def yX7_beginRepeat : MethodName := ⟨RX7, "beginRepeat", "(LTurtleChalk$Program;II)I"⟩
abbrev cX7_enterWord : ByteArray := prog_9_method_12_code
def yX7_enterWord : MethodName := ⟨RX7, "enterWord", "(LTurtleChalk$Program;II)I"⟩
abbrev cX7_closeBlock : ByteArray := prog_9_method_13_code
def yX7_closeBlock : MethodName := ⟨RX7, "closeBlock", "(LTurtleChalk$Program;I)I"⟩
abbrev cX7_leaveWord : ByteArray := prog_9_method_14_code
def yX7_leaveWord : MethodName := ⟨RX7, "leaveWord", "()I"⟩
def RX8 : String := "TurtleChalk$Turtle"
def TX8 : u_T := fun k => match k with
  | 0 => ("TurtleChalk$Turtle", "x", "I", false)
  | 1 => ("TurtleChalk$Turtle", "y", "I", false)
  | 2 => ("TurtleChalk$Turtle", "heading", "I", false)
  | _ => ("TurtleChalk$Turtle", "isDown", "Z", false)
def tyX8 : Nat → FieldType := fun k => match k with
  | 0 => .int
  | 1 => .int
  | 2 => .int
  | _ => .boolean
abbrev wsX80 : List Cond := u_ws RX8 TX8 4
theorem nmX8 : ∀ a, a < 4 → ∀ b, b < 4 → a ≠ b → (TX8 a).2.1 ≠ (TX8 b).2.1 := by decide +kernel
theorem tyX8_ok : ∀ k, k < 4 → parseFieldDescriptor (TX8 k).2.2.1 = some (tyX8 k) := by decide +kernel
abbrev cX8_init : ByteArray := prog_10_method_1_code
def yX8_init : MethodName := ⟨RX8, "<init>", "()V"⟩
abbrev cX8_begin : ByteArray := prog_10_method_2_code
def yX8_begin : MethodName := ⟨RX8, "begin", "()V"⟩
abbrev cX8_turnBy : ByteArray := prog_10_method_3_code
def yX8_turnBy : MethodName := ⟨RX8, "turnBy", "(I)V"⟩
abbrev cX8_putPen : ByteArray := prog_10_method_4_code
def yX8_putPen : MethodName := ⟨RX8, "putPen", "(Z)V"⟩
abbrev cX8_canGo : ByteArray := prog_10_method_5_code
def yX8_canGo : MethodName := ⟨RX8, "canGo", "()Z"⟩
abbrev cX8_go : ByteArray := prog_10_method_6_code
def yX8_go : MethodName := ⟨RX8, "go", "(LTurtleChalk$Drawing;)V"⟩
abbrev cX8_aheadX : ByteArray := prog_10_method_7_code
def yX8_aheadX : MethodName := ⟨RX8, "aheadX", "()I"⟩
abbrev cX8_aheadY : ByteArray := prog_10_method_8_code
def yX8_aheadY : MethodName := ⟨RX8, "aheadY", "()I"⟩
def RX9 : String := "TurtleChalk$Wall"
def TX9 : u_T := fun k => match k with
  | 0 => ("TurtleChalk$Wall", "taken", "[J", true)
  | 1 => ("TurtleChalk$Wall", "width", "I", false)
  | _ => ("TurtleChalk$Wall", "height", "I", false)
def tyX9 : Nat → FieldType := fun k => match k with
  | 0 => .array .long
  | 1 => .int
  | _ => .int
abbrev wsX90 : List Cond := u_ws RX9 TX9 3
theorem nmX9 : ∀ a, a < 3 → ∀ b, b < 3 → a ≠ b → (TX9 a).2.1 ≠ (TX9 b).2.1 := by decide +kernel
theorem tyX9_ok : ∀ k, k < 3 → parseFieldDescriptor (TX9 k).2.2.1 = some (tyX9 k) := by decide +kernel
abbrev cX9_init : ByteArray := prog_11_method_1_code
def yX9_init : MethodName := ⟨RX9, "<init>", "()V"⟩
abbrev cX9_measure : ByteArray := prog_11_method_2_code
def yX9_measure : MethodName := ⟨RX9, "measure", "(II)V"⟩
abbrev cX9_makeEmpty : ByteArray := prog_11_method_3_code
def yX9_makeEmpty : MethodName := ⟨RX9, "makeEmpty", "()V"⟩
abbrev cX9_hasCell : ByteArray := prog_11_method_4_code
def yX9_hasCell : MethodName := ⟨RX9, "hasCell", "(II)Z"⟩
abbrev cX9_place : ByteArray := prog_11_method_5_code
def yX9_place : MethodName := ⟨RX9, "place", "(LTurtleChalk$Work;)V"⟩
abbrev cX9_firstFree : ByteArray := prog_11_method_6_code
def yX9_firstFree : MethodName := ⟨RX9, "firstFree", "(JJI)I"⟩
abbrev cX9_takenFrom : ByteArray := prog_11_method_7_code
def yX9_takenFrom : MethodName := ⟨RX9, "takenFrom", "(II)J"⟩
abbrev cX9_take : ByteArray := prog_11_method_8_code
def yX9_take : MethodName := ⟨RX9, "take", "(IIJ)V"⟩
def RX10 : String := "TurtleChalk$Work"
def TX10 : u_T := fun k => match k with
  | 0 => ("TurtleChalk$Work", "program", "LTurtleChalk$Program;", true)
  | 1 => ("TurtleChalk$Work", "exercise", "LTurtleChalk$Exercise;", true)
  | 2 => ("TurtleChalk$Work", "original", "I", true)
  | 3 => ("TurtleChalk$Work", "isCleared", "Z", false)
  | 4 => ("TurtleChalk$Work", "isHanging", "Z", false)
  | 5 => ("TurtleChalk$Work", "left", "I", false)
  | _ => ("TurtleChalk$Work", "low", "I", false)
def tyX10 : Nat → FieldType := fun k => match k with
  | 0 => .object "TurtleChalk$Program"
  | 1 => .object "TurtleChalk$Exercise"
  | 2 => .int
  | 3 => .boolean
  | 4 => .boolean
  | 5 => .int
  | _ => .int
abbrev wsX100 : List Cond := u_ws RX10 TX10 7
theorem nmX10 : ∀ a, a < 7 → ∀ b, b < 7 → a ≠ b → (TX10 a).2.1 ≠ (TX10 b).2.1 := by decide +kernel
theorem tyX10_ok : ∀ k, k < 7 → parseFieldDescriptor (TX10 k).2.2.1 = some (tyX10 k) := by decide +kernel
abbrev cX10_init : ByteArray := prog_12_method_1_code
def yX10_init : MethodName := ⟨RX10, "<init>", "(LTurtleChalk$Program;LTurtleChalk$Exercise;I)V"⟩
abbrev cX10_meetsExercise : ByteArray := prog_12_method_2_code
def yX10_meetsExercise : MethodName := ⟨RX10, "meetsExercise", "()Z"⟩
abbrev cX10_isInDoubt : ByteArray := prog_12_method_3_code
def yX10_isInDoubt : MethodName := ⟨RX10, "isInDoubt", "()Z"⟩
abbrev cX10_covers : ByteArray := prog_12_method_4_code
def yX10_covers : MethodName := ⟨RX10, "covers", "(II)Z"⟩
abbrev cX10_hangAt : ByteArray := prog_12_method_5_code
def yX10_hangAt : MethodName := ⟨RX10, "hangAt", "(II)V"⟩
def RX11 : String := "TurtleChalk"
def TX11 : u_T := fun k => match k with
  | 0 => ("TurtleChalk", "draft", "LTurtleChalk$Draft;", true)
  | 1 => ("TurtleChalk", "run", "LTurtleChalk$Run;", true)
  | 2 => ("TurtleChalk", "sketch", "LTurtleChalk$Drawing;", true)
  | 3 => ("TurtleChalk", "desk", "LTurtleChalk$Desk;", true)
  | 4 => ("TurtleChalk", "wall", "LTurtleChalk$Wall;", true)
  | 5 => ("TurtleChalk", "programRow", "[LTurtleChalk$Program;", true)
  | 6 => ("TurtleChalk", "exerciseRow", "[LTurtleChalk$Exercise;", true)
  | 7 => ("TurtleChalk", "workRow", "[LTurtleChalk$Work;", true)
  | 8 => ("TurtleChalk", "programCount", "I", false)
  | 9 => ("TurtleChalk", "exerciseCount", "I", false)
  | _ => ("TurtleChalk", "workCount", "I", false)
def tyX11 : Nat → FieldType := fun k => match k with
  | 0 => .object "TurtleChalk$Draft"
  | 1 => .object "TurtleChalk$Run"
  | 2 => .object "TurtleChalk$Drawing"
  | 3 => .object "TurtleChalk$Desk"
  | 4 => .object "TurtleChalk$Wall"
  | 5 => .array (.object "TurtleChalk$Program")
  | 6 => .array (.object "TurtleChalk$Exercise")
  | 7 => .array (.object "TurtleChalk$Work")
  | 8 => .int
  | 9 => .int
  | _ => .int
abbrev wsX110 : List Cond := u_ws RX11 TX11 11
theorem nmX11 : ∀ a, a < 11 → ∀ b, b < 11 → a ≠ b → (TX11 a).2.1 ≠ (TX11 b).2.1 := by decide +kernel
theorem tyX11_ok : ∀ k, k < 11 → parseFieldDescriptor (TX11 k).2.2.1 = some (tyX11 k) := by decide +kernel
abbrev cX11_init : ByteArray := prog_1_method_1_code
def yX11_init : MethodName := ⟨RX11, "<init>", "()V"⟩
abbrev cX11_forward : ByteArray := prog_1_method_2_code
def yX11_forward : MethodName := ⟨RX11, "forward", "(IZ)I"⟩
abbrev cX11_turn : ByteArray := prog_1_method_3_code
def yX11_turn : MethodName := ⟨RX11, "turn", "(IZ)I"⟩
abbrev cX11_pen : ByteArray := prog_1_method_4_code
def yX11_pen : MethodName := ⟨RX11, "pen", "(Z)I"⟩
abbrev cX11_set : ByteArray := prog_1_method_5_code
def yX11_set : MethodName := ⟨RX11, "set", "(IIZ)I"⟩
abbrev cX11_add : ByteArray := prog_1_method_6_code
def yX11_add : MethodName := ⟨RX11, "add", "(IIZ)I"⟩
abbrev cX11_repeat : ByteArray := prog_1_method_7_code
def yX11_repeat : MethodName := ⟨RX11, "repeat", "(IZ)I"⟩
abbrev cX11_word : ByteArray := prog_1_method_8_code
def yX11_word : MethodName := ⟨RX11, "word", "(I)I"⟩
abbrev cX11_call : ByteArray := prog_1_method_9_code
def yX11_call : MethodName := ⟨RX11, "call", "(I)I"⟩
abbrev cX11_end : ByteArray := prog_1_method_10_code
def yX11_end : MethodName := ⟨RX11, "end", "()I"⟩
abbrev cX11_wipe : ByteArray := prog_1_method_11_code
def yX11_wipe : MethodName := ⟨RX11, "wipe", "()I"⟩
abbrev cX11_write : ByteArray := prog_1_method_12_code
def yX11_write : MethodName := ⟨RX11, "write", "(I)I"⟩
abbrev cX11_exercise : ByteArray := prog_1_method_13_code
def yX11_exercise : MethodName := ⟨RX11, "exercise", "(III)I"⟩
abbrev cX11_allow : ByteArray := prog_1_method_14_code
def yX11_allow : MethodName := ⟨RX11, "allow", "(III)I"⟩
abbrev cX11_handIn : ByteArray := prog_1_method_15_code
def yX11_handIn : MethodName := ⟨RX11, "handIn", "(II)I"⟩
abbrev cX11_clear : ByteArray := prog_1_method_16_code
def yX11_clear : MethodName := ⟨RX11, "clear", "(IZ)Z"⟩
abbrev cX11_setWall : ByteArray := prog_1_method_17_code
def yX11_setWall : MethodName := ⟨RX11, "setWall", "(II)I"⟩
abbrev cX11_drafted : ByteArray := prog_1_method_18_code
def yX11_drafted : MethodName := ⟨RX11, "drafted", "()I"⟩
abbrev cX11_programs : ByteArray := prog_1_method_19_code
def yX11_programs : MethodName := ⟨RX11, "programs", "()I"⟩
abbrev cX11_fault : ByteArray := prog_1_method_20_code
def yX11_fault : MethodName := ⟨RX11, "fault", "(I)I"⟩
abbrev cX11_steps : ByteArray := prog_1_method_21_code
def yX11_steps : MethodName := ⟨RX11, "steps", "(I)I"⟩
abbrev cX11_strokes : ByteArray := prog_1_method_22_code
def yX11_strokes : MethodName := ⟨RX11, "strokes", "(I)I"⟩
abbrev cX11_strokesBySteps : ByteArray := prog_1_method_23_code
def yX11_strokesBySteps : MethodName := ⟨RX11, "strokesBySteps", "(II)I"⟩
abbrev cX11_isDrawn : ByteArray := prog_1_method_24_code
def yX11_isDrawn : MethodName := ⟨RX11, "isDrawn", "(IIIZ)Z"⟩
abbrev cX11_areAlike : ByteArray := prog_1_method_25_code
def yX11_areAlike : MethodName := ⟨RX11, "areAlike", "(II)Z"⟩
abbrev cX11_haveOneForm : ByteArray := prog_1_method_26_code
def yX11_haveOneForm : MethodName := ⟨RX11, "haveOneForm", "(II)Z"⟩
abbrev cX11_likeness : ByteArray := prog_1_method_27_code
def yX11_likeness : MethodName := ⟨RX11, "likeness", "(II)I"⟩
abbrev cX11_works : ByteArray := prog_1_method_28_code
def yX11_works : MethodName := ⟨RX11, "works", "()I"⟩
abbrev cX11_meets : ByteArray := prog_1_method_29_code
def yX11_meets : MethodName := ⟨RX11, "meets", "(I)Z"⟩
abbrev cX11_copyOf : ByteArray := prog_1_method_30_code
def yX11_copyOf : MethodName := ⟨RX11, "copyOf", "(I)I"⟩
abbrev cX11_hangs : ByteArray := prog_1_method_31_code
def yX11_hangs : MethodName := ⟨RX11, "hangs", "(I)I"⟩
abbrev cX11_onWall : ByteArray := prog_1_method_32_code
def yX11_onWall : MethodName := ⟨RX11, "onWall", "(II)I"⟩
abbrev cX11_hung : ByteArray := prog_1_method_33_code
def yX11_hung : MethodName := ⟨RX11, "hung", "(I)I"⟩
abbrev cX11_checkName : ByteArray := prog_1_method_34_code
def yX11_checkName : MethodName := ⟨RX11, "checkName", "(I)V"⟩
abbrev cX11_checkWord : ByteArray := prog_1_method_35_code
def yX11_checkWord : MethodName := ⟨RX11, "checkWord", "(I)V"⟩
abbrev cX11_checkPupil : ByteArray := prog_1_method_36_code
def yX11_checkPupil : MethodName := ⟨RX11, "checkPupil", "(I)V"⟩
abbrev cX11_checkValue : ByteArray := prog_1_method_37_code
def yX11_checkValue : MethodName := ⟨RX11, "checkValue", "(IZI)V"⟩
abbrev cX11_checkAllowance : ByteArray := prog_1_method_38_code
def yX11_checkAllowance : MethodName := ⟨RX11, "checkAllowance", "(II)V"⟩
abbrev cX11_isOnGround : ByteArray := prog_1_method_39_code
def yX11_isOnGround : MethodName := ⟨RX11, "isOnGround", "(I)Z"⟩
abbrev cX11_addOrder : ByteArray := prog_1_method_40_code
def yX11_addOrder : MethodName := ⟨RX11, "addOrder", "(IIIZ)I"⟩
abbrev cX11_programAt : ByteArray := prog_1_method_41_code
def yX11_programAt : MethodName := ⟨RX11, "programAt", "(I)LTurtleChalk$Program;"⟩
abbrev cX11_exerciseAt : ByteArray := prog_1_method_42_code
def yX11_exerciseAt : MethodName := ⟨RX11, "exerciseAt", "(I)LTurtleChalk$Exercise;"⟩
abbrev cX11_workAt : ByteArray := prog_1_method_43_code
def yX11_workAt : MethodName := ⟨RX11, "workAt", "(I)LTurtleChalk$Work;"⟩
abbrev cX11_findOriginal : ByteArray := prog_1_method_44_code
def yX11_findOriginal : MethodName := ⟨RX11, "findOriginal", "(LTurtleChalk$Program;LTurtleChalk$Exercise;)I"⟩
abbrev cX11_countMeeting : ByteArray := prog_1_method_45_code
def yX11_countMeeting : MethodName := ⟨RX11, "countMeeting", "(LTurtleChalk$Exercise;)I"⟩
abbrev cX11_countHanging : ByteArray := prog_1_method_46_code
def yX11_countHanging : MethodName := ⟨RX11, "countHanging", "()I"⟩
abbrev cX11_layWall : ByteArray := prog_1_method_47_code
def yX11_layWall : MethodName := ⟨RX11, "layWall", "()V"⟩
def RX12 : String := "TurtleChalkModel"
def TX12 : u_T := fun k => match k with
  | 0 => ("TurtleChalkModel", "thrown", "I", false)
  | 1 => ("TurtleChalkModel", "drafted", "I", false)
  | 2 => ("TurtleChalkModel", "open", "I", false)
  | 3 => ("TurtleChalkModel", "blocks", "I", false)
  | 4 => ("TurtleChalkModel", "draftKinds", "[I", true)
  | 5 => ("TurtleChalkModel", "draftTargets", "[I", true)
  | 6 => ("TurtleChalkModel", "draftValues", "[I", true)
  | 7 => ("TurtleChalkModel", "draftNames", "[Z", true)
  | 8 => ("TurtleChalkModel", "programs", "I", false)
  | 9 => ("TurtleChalkModel", "pupils", "[I", true)
  | 10 => ("TurtleChalkModel", "many", "[I", true)
  | 11 => ("TurtleChalkModel", "kinds", "[I", true)
  | 12 => ("TurtleChalkModel", "targets", "[I", true)
  | 13 => ("TurtleChalkModel", "values", "[I", true)
  | 14 => ("TurtleChalkModel", "areNames", "[Z", true)
  | 15 => ("TurtleChalkModel", "faults", "[I", true)
  | 16 => ("TurtleChalkModel", "steps", "[I", true)
  | 17 => ("TurtleChalkModel", "strokes", "[I", true)
  | 18 => ("TurtleChalkModel", "rights", "[I", true)
  | 19 => ("TurtleChalkModel", "ups", "[I", true)
  | 20 => ("TurtleChalkModel", "names", "[I", true)
  | 21 => ("TurtleChalkModel", "x", "I", false)
  | 22 => ("TurtleChalkModel", "y", "I", false)
  | 23 => ("TurtleChalkModel", "heading", "I", false)
  | 24 => ("TurtleChalkModel", "isDown", "Z", false)
  | 25 => ("TurtleChalkModel", "counted", "I", false)
  | 26 => ("TurtleChalkModel", "fault", "I", false)
  | 27 => ("TurtleChalkModel", "at", "I", false)
  | 28 => ("TurtleChalkModel", "depth", "I", false)
  | 29 => ("TurtleChalkModel", "calls", "I", false)
  | 30 => ("TurtleChalkModel", "backs", "[I", true)
  | 31 => ("TurtleChalkModel", "lefts", "[I", true)
  | 32 => ("TurtleChalkModel", "strokesAt", "[I", true)
  | 33 => ("TurtleChalkModel", "forms", "[I", true)
  | 34 => ("TurtleChalkModel", "newNames", "[I", true)
  | 35 => ("TurtleChalkModel", "newWords", "[I", true)
  | 36 => ("TurtleChalkModel", "longest", "[I", true)
  | 37 => ("TurtleChalkModel", "exercises", "I", false)
  | 38 => ("TurtleChalkModel", "wanted", "[I", true)
  | 39 => ("TurtleChalkModel", "mostOrders", "[I", true)
  | 40 => ("TurtleChalkModel", "mostSteps", "[I", true)
  | 41 => ("TurtleChalkModel", "works", "I", false)
  | 42 => ("TurtleChalkModel", "programOf", "[I", true)
  | 43 => ("TurtleChalkModel", "exerciseOf", "[I", true)
  | 44 => ("TurtleChalkModel", "isCleared", "[Z", true)
  | 45 => ("TurtleChalkModel", "width", "I", false)
  | 46 => ("TurtleChalkModel", "height", "I", false)
  | 47 => ("TurtleChalkModel", "wall", "[J", true)
  | _ => ("TurtleChalkModel", "places", "[I", true)
def tyX12 : Nat → FieldType := fun k => match k with
  | 0 => .int
  | 1 => .int
  | 2 => .int
  | 3 => .int
  | 4 => .array .int
  | 5 => .array .int
  | 6 => .array .int
  | 7 => .array .boolean
  | 8 => .int
  | 9 => .array .int
  | 10 => .array .int
  | 11 => .array .int
  | 12 => .array .int
  | 13 => .array .int
  | 14 => .array .boolean
  | 15 => .array .int
  | 16 => .array .int
  | 17 => .array .int
  | 18 => .array .int
  | 19 => .array .int
  | 20 => .array .int
  | 21 => .int
  | 22 => .int
  | 23 => .int
  | 24 => .boolean
  | 25 => .int
  | 26 => .int
  | 27 => .int
  | 28 => .int
  | 29 => .int
  | 30 => .array .int
  | 31 => .array .int
  | 32 => .array .int
  | 33 => .array .int
  | 34 => .array .int
  | 35 => .array .int
  | 36 => .array .int
  | 37 => .int
  | 38 => .array .int
  | 39 => .array .int
  | 40 => .array .int
  | 41 => .int
  | 42 => .array .int
  | 43 => .array .int
  | 44 => .array .boolean
  | 45 => .int
  | 46 => .int
  | 47 => .array .long
  | _ => .array .int
abbrev wsX120 : List Cond := u_ws RX12 TX12 49
theorem nmX12 : ∀ a, a < 49 → ∀ b, b < 49 → a ≠ b → (TX12 a).2.1 ≠ (TX12 b).2.1 := by decide +kernel
theorem tyX12_ok : ∀ k, k < 49 → parseFieldDescriptor (TX12 k).2.2.1 = some (tyX12 k) := by decide +kernel
abbrev cX12_init : ByteArray := prog_14_method_1_code
def yX12_init : MethodName := ⟨RX12, "<init>", "()V"⟩
abbrev cX12_thrown : ByteArray := prog_14_method_2_code
def yX12_thrown : MethodName := ⟨RX12, "thrown", "()I"⟩
abbrev cX12_holds : ByteArray := prog_14_method_3_code
def yX12_holds : MethodName := ⟨RX12, "holds", "(I)Z"⟩
abbrev cX12_isIn : ByteArray := prog_14_method_4_code
def yX12_isIn : MethodName := ⟨RX12, "isIn", "(III)Z"⟩
abbrev cX12_isName : ByteArray := prog_14_method_5_code
def yX12_isName : MethodName := ⟨RX12, "isName", "(I)Z"⟩
abbrev cX12_drafts : ByteArray := prog_14_method_6_code
def yX12_drafts : MethodName := ⟨RX12, "drafts", "(IIIZ)I"⟩
abbrev cX12_isValue : ByteArray := prog_14_method_7_code
def yX12_isValue : MethodName := ⟨RX12, "isValue", "(IIZI)Z"⟩
abbrev cX12_forward : ByteArray := prog_14_method_8_code
def yX12_forward : MethodName := ⟨RX12, "forward", "(IZ)I"⟩
abbrev cX12_turn : ByteArray := prog_14_method_9_code
def yX12_turn : MethodName := ⟨RX12, "turn", "(IZ)I"⟩
abbrev cX12_pen : ByteArray := prog_14_method_10_code
def yX12_pen : MethodName := ⟨RX12, "pen", "(Z)I"⟩
abbrev cX12_set : ByteArray := prog_14_method_11_code
def yX12_set : MethodName := ⟨RX12, "set", "(IIZ)I"⟩
abbrev cX12_add : ByteArray := prog_14_method_12_code
def yX12_add : MethodName := ⟨RX12, "add", "(IIZ)I"⟩
abbrev cX12_repeat : ByteArray := prog_14_method_13_code
def yX12_repeat : MethodName := ⟨RX12, "repeat", "(IZ)I"⟩
abbrev cX12_word : ByteArray := prog_14_method_14_code
def yX12_word : MethodName := ⟨RX12, "word", "(I)I"⟩
abbrev cX12_call : ByteArray := prog_14_method_15_code
def yX12_call : MethodName := ⟨RX12, "call", "(I)I"⟩
abbrev cX12_end : ByteArray := prog_14_method_16_code
def yX12_end : MethodName := ⟨RX12, "end", "()I"⟩
abbrev cX12_wipes : ByteArray := prog_14_method_17_code
def yX12_wipes : MethodName := ⟨RX12, "wipes", "()I"⟩
abbrev cX12_wipe : ByteArray := prog_14_method_18_code
def yX12_wipe : MethodName := ⟨RX12, "wipe", "()I"⟩
abbrev cX12_write : ByteArray := prog_14_method_19_code
def yX12_write : MethodName := ⟨RX12, "write", "(I)I"⟩
abbrev cX12_isProgram : ByteArray := prog_14_method_20_code
def yX12_isProgram : MethodName := ⟨RX12, "isProgram", "(I)Z"⟩
abbrev cX12_counts : ByteArray := prog_14_method_21_code
def yX12_counts : MethodName := ⟨RX12, "counts", "()Z"⟩
abbrev cX12_isOn : ByteArray := prog_14_method_22_code
def yX12_isOn : MethodName := ⟨RX12, "isOn", "(II)Z"⟩
abbrev cX12_draws : ByteArray := prog_14_method_23_code
def yX12_draws : MethodName := ⟨RX12, "draws", "(III)V"⟩
abbrev cX12_goes : ByteArray := prog_14_method_24_code
def yX12_goes : MethodName := ⟨RX12, "goes", "(I)V"⟩
abbrev cX12_endOf : ByteArray := prog_14_method_25_code
def yX12_endOf : MethodName := ⟨RX12, "endOf", "(II)I"⟩
abbrev cX12_blockOf : ByteArray := prog_14_method_26_code
def yX12_blockOf : MethodName := ⟨RX12, "blockOf", "(II)I"⟩
abbrev cX12_enters : ByteArray := prog_14_method_27_code
def yX12_enters : MethodName := ⟨RX12, "enters", "(II)V"⟩
abbrev cX12_callsWord : ByteArray := prog_14_method_28_code
def yX12_callsWord : MethodName := ⟨RX12, "callsWord", "(II)V"⟩
abbrev cX12_ends : ByteArray := prog_14_method_29_code
def yX12_ends : MethodName := ⟨RX12, "ends", "()V"⟩
abbrev cX12_does : ByteArray := prog_14_method_30_code
def yX12_does : MethodName := ⟨RX12, "does", "(II)V"⟩
abbrev cX12_begins : ByteArray := prog_14_method_31_code
def yX12_begins : MethodName := ⟨RX12, "begins", "(I)V"⟩
abbrev cX12_runs : ByteArray := prog_14_method_32_code
def yX12_runs : MethodName := ⟨RX12, "runs", "(I)V"⟩
abbrev cX12_areLimits : ByteArray := prog_14_method_33_code
def yX12_areLimits : MethodName := ⟨RX12, "areLimits", "(II)Z"⟩
abbrev cX12_exercise : ByteArray := prog_14_method_34_code
def yX12_exercise : MethodName := ⟨RX12, "exercise", "(III)I"⟩
abbrev cX12_isExercise : ByteArray := prog_14_method_35_code
def yX12_isExercise : MethodName := ⟨RX12, "isExercise", "(I)Z"⟩
abbrev cX12_allow : ByteArray := prog_14_method_36_code
def yX12_allow : MethodName := ⟨RX12, "allow", "(III)I"⟩
abbrev cX12_handIn : ByteArray := prog_14_method_37_code
def yX12_handIn : MethodName := ⟨RX12, "handIn", "(II)I"⟩
abbrev cX12_isWork : ByteArray := prog_14_method_38_code
def yX12_isWork : MethodName := ⟨RX12, "isWork", "(I)Z"⟩
abbrev cX12_clear : ByteArray := prog_14_method_39_code
def yX12_clear : MethodName := ⟨RX12, "clear", "(IZ)Z"⟩
abbrev cX12_setWall : ByteArray := prog_14_method_40_code
def yX12_setWall : MethodName := ⟨RX12, "setWall", "(II)I"⟩
abbrev cX12_leastOf : ByteArray := prog_14_method_41_code
def yX12_leastOf : MethodName := ⟨RX12, "leastOf", "(IZ)I"⟩
abbrev cX12_greatestOf : ByteArray := prog_14_method_42_code
def yX12_greatestOf : MethodName := ⟨RX12, "greatestOf", "(IZ)I"⟩
abbrev cX12_alike : ByteArray := prog_14_method_43_code
def yX12_alike : MethodName := ⟨RX12, "alike", "(II)Z"⟩
abbrev cX12_anew : ByteArray := prog_14_method_44_code
def yX12_anew : MethodName := ⟨RX12, "anew", "([II)I"⟩
abbrev cX12_lays : ByteArray := prog_14_method_45_code
def yX12_lays : MethodName := ⟨RX12, "lays", "(II)V"⟩
abbrev cX12_oneForm : ByteArray := prog_14_method_46_code
def yX12_oneForm : MethodName := ⟨RX12, "oneForm", "(II)Z"⟩
abbrev cX12_longestRow : ByteArray := prog_14_method_47_code
def yX12_longestRow : MethodName := ⟨RX12, "longestRow", "(II)I"⟩
abbrev cX12_doesMeet : ByteArray := prog_14_method_48_code
def yX12_doesMeet : MethodName := ⟨RX12, "doesMeet", "(I)Z"⟩
abbrev cX12_copied : ByteArray := prog_14_method_49_code
def yX12_copied : MethodName := ⟨RX12, "copied", "(I)I"⟩
abbrev cX12_isFree : ByteArray := prog_14_method_50_code
def yX12_isFree : MethodName := ⟨RX12, "isFree", "(IIII)Z"⟩
abbrev cX12_hangsOne : ByteArray := prog_14_method_51_code
def yX12_hangsOne : MethodName := ⟨RX12, "hangsOne", "(I)V"⟩
abbrev cX12_hangsAll : ByteArray := prog_14_method_52_code
def yX12_hangsAll : MethodName := ⟨RX12, "hangsAll", "()V"⟩
abbrev cX12_drafted : ByteArray := prog_14_method_53_code
def yX12_drafted : MethodName := ⟨RX12, "drafted", "()I"⟩
abbrev cX12_programs : ByteArray := prog_14_method_54_code
def yX12_programs : MethodName := ⟨RX12, "programs", "()I"⟩
abbrev cX12_fault : ByteArray := prog_14_method_55_code
def yX12_fault : MethodName := ⟨RX12, "fault", "(I)I"⟩
abbrev cX12_steps : ByteArray := prog_14_method_56_code
def yX12_steps : MethodName := ⟨RX12, "steps", "(I)I"⟩
abbrev cX12_strokes : ByteArray := prog_14_method_57_code
def yX12_strokes : MethodName := ⟨RX12, "strokes", "(I)I"⟩
abbrev cX12_strokesBySteps : ByteArray := prog_14_method_58_code
def yX12_strokesBySteps : MethodName := ⟨RX12, "strokesBySteps", "(II)I"⟩
abbrev cX12_isDrawn : ByteArray := prog_14_method_59_code
def yX12_isDrawn : MethodName := ⟨RX12, "isDrawn", "(IIIZ)Z"⟩
abbrev cX12_areTwo : ByteArray := prog_14_method_60_code
def yX12_areTwo : MethodName := ⟨RX12, "areTwo", "(II)Z"⟩
abbrev cX12_areAlike : ByteArray := prog_14_method_61_code
def yX12_areAlike : MethodName := ⟨RX12, "areAlike", "(II)Z"⟩
abbrev cX12_haveOneForm : ByteArray := prog_14_method_62_code
def yX12_haveOneForm : MethodName := ⟨RX12, "haveOneForm", "(II)Z"⟩
abbrev cX12_likeness : ByteArray := prog_14_method_63_code
def yX12_likeness : MethodName := ⟨RX12, "likeness", "(II)I"⟩
abbrev cX12_works : ByteArray := prog_14_method_64_code
def yX12_works : MethodName := ⟨RX12, "works", "()I"⟩
abbrev cX12_meets : ByteArray := prog_14_method_65_code
def yX12_meets : MethodName := ⟨RX12, "meets", "(I)Z"⟩
abbrev cX12_copyOf : ByteArray := prog_14_method_66_code
def yX12_copyOf : MethodName := ⟨RX12, "copyOf", "(I)I"⟩
abbrev cX12_hangs : ByteArray := prog_14_method_67_code
def yX12_hangs : MethodName := ⟨RX12, "hangs", "(I)I"⟩
abbrev cX12_covers : ByteArray := prog_14_method_68_code
def yX12_covers : MethodName := ⟨RX12, "covers", "(III)Z"⟩
abbrev cX12_onWall : ByteArray := prog_14_method_69_code
def yX12_onWall : MethodName := ⟨RX12, "onWall", "(II)I"⟩
abbrev cX12_hung : ByteArray := prog_14_method_70_code
def yX12_hung : MethodName := ⟨RX12, "hung", "(I)I"⟩
def RJ9 : String := "java/lang/Math"
abbrev cJ9_floorMod_7cf53 : ByteArray := prog_19_method_50_code
def yJ9_floorMod_7cf53 : MethodName := ⟨RJ9, "floorMod", "(II)I"⟩
abbrev cJ9_max_7cf53 : ByteArray := prog_19_method_65_code
def yJ9_max_7cf53 : MethodName := ⟨RJ9, "max", "(II)I"⟩
abbrev cJ9_min_7cf53 : ByteArray := prog_19_method_69_code
def yJ9_min_7cf53 : MethodName := ⟨RJ9, "min", "(II)I"⟩
def RJ0 : String := "java/lang/String"
def RL : String := "TurtleChalkLaw"
abbrev cL_forward : ByteArray := method_3_code
def yL_forward : MethodName := ⟨RL, "forward", "(LTurtleChalk;IZ[J)I"⟩
abbrev cL_turn : ByteArray := method_4_code
def yL_turn : MethodName := ⟨RL, "turn", "(LTurtleChalk;IZ[J)I"⟩
abbrev cL_pen : ByteArray := method_5_code
def yL_pen : MethodName := ⟨RL, "pen", "(LTurtleChalk;Z[J)I"⟩
abbrev cL_set : ByteArray := method_6_code
def yL_set : MethodName := ⟨RL, "set", "(LTurtleChalk;IIZ[J)I"⟩
abbrev cL_add : ByteArray := method_7_code
def yL_add : MethodName := ⟨RL, "add", "(LTurtleChalk;IIZ[J)I"⟩
abbrev cL_repeat : ByteArray := method_8_code
def yL_repeat : MethodName := ⟨RL, "repeat", "(LTurtleChalk;IZ[J)I"⟩
abbrev cL_word : ByteArray := method_9_code
def yL_word : MethodName := ⟨RL, "word", "(LTurtleChalk;I[J)I"⟩
abbrev cL_call : ByteArray := method_10_code
def yL_call : MethodName := ⟨RL, "call", "(LTurtleChalk;I[J)I"⟩
abbrev cL_end : ByteArray := method_11_code
def yL_end : MethodName := ⟨RL, "end", "(LTurtleChalk;[J)I"⟩
abbrev cL_write : ByteArray := method_12_code
def yL_write : MethodName := ⟨RL, "write", "(LTurtleChalk;I[J)I"⟩
abbrev cL_exercise : ByteArray := method_13_code
def yL_exercise : MethodName := ⟨RL, "exercise", "(LTurtleChalk;III[J)I"⟩
abbrev cL_allow : ByteArray := method_14_code
def yL_allow : MethodName := ⟨RL, "allow", "(LTurtleChalk;III[J)I"⟩
abbrev cL_handIn : ByteArray := method_15_code
def yL_handIn : MethodName := ⟨RL, "handIn", "(LTurtleChalk;II[J)I"⟩
abbrev cL_clear : ByteArray := method_16_code
def yL_clear : MethodName := ⟨RL, "clear", "(LTurtleChalk;IZ[J)I"⟩
abbrev cL_setWall : ByteArray := method_17_code
def yL_setWall : MethodName := ⟨RL, "setWall", "(LTurtleChalk;II[J)I"⟩
abbrev cL_fault : ByteArray := method_18_code
def yL_fault : MethodName := ⟨RL, "fault", "(LTurtleChalk;I[J)I"⟩
abbrev cL_steps : ByteArray := method_19_code
def yL_steps : MethodName := ⟨RL, "steps", "(LTurtleChalk;I[J)I"⟩
abbrev cL_strokes : ByteArray := method_20_code
def yL_strokes : MethodName := ⟨RL, "strokes", "(LTurtleChalk;I[J)I"⟩
abbrev cL_strokesBySteps : ByteArray := method_21_code
def yL_strokesBySteps : MethodName := ⟨RL, "strokesBySteps", "(LTurtleChalk;II[J)I"⟩
abbrev cL_isDrawn : ByteArray := method_22_code
def yL_isDrawn : MethodName := ⟨RL, "isDrawn", "(LTurtleChalk;IIIZ[J)I"⟩
abbrev cL_areAlike : ByteArray := method_23_code
def yL_areAlike : MethodName := ⟨RL, "areAlike", "(LTurtleChalk;II[J)I"⟩
abbrev cL_haveOneForm : ByteArray := method_24_code
def yL_haveOneForm : MethodName := ⟨RL, "haveOneForm", "(LTurtleChalk;II[J)I"⟩
abbrev cL_likeness : ByteArray := method_25_code
def yL_likeness : MethodName := ⟨RL, "likeness", "(LTurtleChalk;II[J)I"⟩
abbrev cL_meets : ByteArray := method_26_code
def yL_meets : MethodName := ⟨RL, "meets", "(LTurtleChalk;I[J)I"⟩
abbrev cL_copyOf : ByteArray := method_27_code
def yL_copyOf : MethodName := ⟨RL, "copyOf", "(LTurtleChalk;I[J)I"⟩
abbrev cL_hangs : ByteArray := method_28_code
def yL_hangs : MethodName := ⟨RL, "hangs", "(LTurtleChalk;I[J)I"⟩
abbrev cL_onWall : ByteArray := method_29_code
def yL_onWall : MethodName := ⟨RL, "onWall", "(LTurtleChalk;II[J)I"⟩
abbrev cL_hung : ByteArray := method_30_code
def yL_hung : MethodName := ⟨RL, "hung", "(LTurtleChalk;I[J)I"⟩
abbrev cL_law : ByteArray := code
def yL_law : MethodName := ⟨RL, "law", "([I)Z"⟩
abbrev vwCl : List vw_C := [(RX0, TX0, 2), (RX1, TX1, 4), (RX2, TX2, 7), (RX3, TX3, 3), (RX4, TX4, 4), (RX5, TX5, 8), (RX6, TX6, 2), (RX7, TX7, 9), (RX8, TX8, 4), (RX9, TX9, 3), (RX10, TX10, 7), (RX11, TX11, 11), (RX12, TX12, 49)]
end
section
def fN : Nat → Nat := fun c => match c with
  | 0 => 2
  | 1 => 4
  | 2 => 7
  | 3 => 3
  | 4 => 4
  | 5 => 8
  | 6 => 2
  | 7 => 9
  | 8 => 4
  | 9 => 3
  | 10 => 7
  | 11 => 11
  | 12 => 49
  | _ => 0
def tyOf : Nat → Nat → FieldType := fun c => match c with
  | 0 => tyX0
  | 1 => tyX1
  | 2 => tyX2
  | 3 => tyX3
  | 4 => tyX4
  | 5 => tyX5
  | 6 => tyX6
  | 7 => tyX7
  | 8 => tyX8
  | 9 => tyX9
  | 10 => tyX10
  | 11 => tyX11
  | _ => tyX12
def nestW : List Cond := [Cond.methodLinkNest "TurtleChalk$Run" 11 ⟨"TurtleChalk$Turtle", "<init>", "()V"⟩ "TurtleChalk", Cond.fieldLinkNest "TurtleChalk" 195 "TurtleChalk$Drawing" "strokeCount" "I" "TurtleChalk", Cond.fieldLinkNest "TurtleChalk$Run" 66 "TurtleChalk$Order" "kind" "I" "TurtleChalk", Cond.fieldLinkNest "TurtleChalk$Draft" 32 "TurtleChalk$Order" "kind" "I" "TurtleChalk", Cond.fieldLinkNest "TurtleChalk$Program" 63 "TurtleChalk$Order" "kind" "I" "TurtleChalk", Cond.fieldLinkNest "TurtleChalk$Run" 98 "TurtleChalk$Order" "target" "I" "TurtleChalk", Cond.fieldLinkNest "TurtleChalk$Draft" 35 "TurtleChalk$Order" "target" "I" "TurtleChalk", Cond.fieldLinkNest "TurtleChalk$Program" 78 "TurtleChalk$Order" "target" "I" "TurtleChalk", Cond.fieldLinkNest "TurtleChalk$Run" 119 "TurtleChalk$Order" "value" "I" "TurtleChalk", Cond.fieldLinkNest "TurtleChalk$Program" 91 "TurtleChalk$Order" "value" "I" "TurtleChalk", Cond.fieldLinkNest "TurtleChalk$Run" 115 "TurtleChalk$Order" "isName" "Z" "TurtleChalk", Cond.fieldLinkNest "TurtleChalk$Program" 87 "TurtleChalk$Order" "isName" "Z" "TurtleChalk", Cond.fieldLinkNest "TurtleChalk" 259 "TurtleChalk$Program" "pupil" "I" "TurtleChalk", Cond.fieldLinkNest "TurtleChalk" 222 "TurtleChalk$Program" "form" "[I" "TurtleChalk", Cond.fieldLinkNest "TurtleChalk$Exercise" 34 "TurtleChalk$Program" "drawing" "LTurtleChalk$Drawing;" "TurtleChalk", Cond.fieldLinkNest "TurtleChalk$Work" 39 "TurtleChalk$Program" "drawing" "LTurtleChalk$Drawing;" "TurtleChalk", Cond.fieldLinkNest "TurtleChalk$Wall" 28 "TurtleChalk$Program" "drawing" "LTurtleChalk$Drawing;" "TurtleChalk", Cond.fieldLinkNest "TurtleChalk" 114 "TurtleChalk$Program" "drawing" "LTurtleChalk$Drawing;" "TurtleChalk", Cond.fieldLinkNest "TurtleChalk$Exercise" 22 "TurtleChalk$Program" "brokenBy" "I" "TurtleChalk", Cond.fieldLinkNest "TurtleChalk" 191 "TurtleChalk$Program" "brokenBy" "I" "TurtleChalk", Cond.fieldLinkNest "TurtleChalk$Exercise" 31 "TurtleChalk$Program" "counted" "I" "TurtleChalk", Cond.fieldLinkNest "TurtleChalk" 193 "TurtleChalk$Program" "counted" "I" "TurtleChalk", Cond.methodLinkNest "TurtleChalk$Turtle" 35 ⟨"TurtleChalk", "isOnGround", "(I)Z"⟩ "TurtleChalk", Cond.methodLinkNest "TurtleChalk$Drawing" 22 ⟨"TurtleChalk", "isOnGround", "(I)Z"⟩ "TurtleChalk", Cond.fieldLinkNest "TurtleChalk$Wall" 22 "TurtleChalk$Work" "program" "LTurtleChalk$Program;" "TurtleChalk", Cond.fieldLinkNest "TurtleChalk" 255 "TurtleChalk$Work" "program" "LTurtleChalk$Program;" "TurtleChalk", Cond.fieldLinkNest "TurtleChalk" 289 "TurtleChalk$Work" "exercise" "LTurtleChalk$Exercise;" "TurtleChalk", Cond.fieldLinkNest "TurtleChalk" 234 "TurtleChalk$Work" "original" "I" "TurtleChalk", Cond.fieldLinkNest "TurtleChalk" 176 "TurtleChalk$Work" "isCleared" "Z" "TurtleChalk", Cond.fieldLinkNest "TurtleChalk" 237 "TurtleChalk$Work" "isHanging" "Z" "TurtleChalk", Cond.fieldLinkNest "TurtleChalk" 240 "TurtleChalk$Work" "left" "I" "TurtleChalk", Cond.fieldLinkNest "TurtleChalk" 243 "TurtleChalk$Work" "low" "I" "TurtleChalk"]
def castW : List Cond := [Cond.castable "java/lang/IndexOutOfBoundsException" "java/lang/IndexOutOfBoundsException", Cond.castable "java/lang/IllegalArgumentException" "java/lang/IllegalArgumentException", Cond.castable "java/lang/IllegalStateException" "java/lang/IllegalStateException"]
def declW : List Cond := [Cond.declares ⟨"java/lang/RuntimeException", "<init>", "()V"⟩, Cond.declares ⟨"java/lang/RuntimeException", "<init>", "(Ljava/lang/String;)V"⟩, Cond.declares ⟨"java/lang/Exception", "<init>", "()V"⟩, Cond.declares ⟨"java/lang/Exception", "<init>", "(Ljava/lang/String;)V"⟩, Cond.declares ⟨"java/lang/Throwable", "<init>", "()V"⟩, Cond.declares ⟨"java/lang/Throwable", "<init>", "(Ljava/lang/String;)V"⟩]
def strW : List (Nat × String) := [(262, "there is no such name"), (268, "value is out of range"), (272, "the draft has 30 orders"), (264, "there is no such word"), (87, "a block is open, or the word has one"), (92, "no block is open"), (266, "there is no such pupil"), (103, "the draft is empty, or a block is open"), (109, "there are 30 programs"), (283, "there is no such program"), (270, "orders or steps is out of range"), (141, "there are 6 exercises"), (285, "there is no such exercise"), (163, "there are 24 works"), (287, "there is no such work"), (182, "width or height is out of range"), (198, "steps is out of range"), (206, "there is no such point"), (250, "the wall has no such cell")]
end
section
/-! THE TYPED MEMORY: what the cells hold, by kind; typed values of stack and locals; the judgement Gd over them -/
abbrev TV : Type := Int32 ⊕ (Int64 ⊕ Option Nat)
abbrev vI (x : Int32) : TV := .inl x
abbrev vJ (x : Int64) : TV := .inr (.inl x)
abbrev vA (r : Option Nat) : TV := .inr (.inr r)
def tv : TV → Value
  | .inl x => .int x
  | .inr (.inl x) => .long x
  | .inr (.inr r) => va_rf r
def tJ : TV → Bool
  | .inr (.inl _) => true
  | _ => false
def tL (L : List (Nat × TV)) : List (Nat × Value) := L.map (fun q => (q.1, tv q.2))
def tS (st : List TV) : List Value := st.map tv
def tW : List TV → Nat
  | [] => 0
  | v :: st => (if tJ v then 2 else 1) + tW st
theorem tv_cat (v : TV) : (tv v).category = if tJ v then 2 else 1 := by
  rcases v with x | x | r
  · rfl
  · rfl
  · cases r <;> rfl
theorem tW_sum (st : List TV) : ((tS st).map fun v => v.category).sum = tW st := by
  induction st with
  | nil => rfl
  | cons v st ih =>
    have h1 : ((tS (v :: st)).map fun v => v.category).sum = (tv v).category + ((tS st).map fun v => v.category).sum := by simp [tS]
    rw [h1, ih, tv_cat]
    rfl
theorem tL_at {L : List (Nat × TV)} {j i : Nat} {v : TV} (h : L[j]? = some (i, v)) : (tL L)[j]? = some (i, tv v) := by
  simp [tL, h]
def tk1 (i : Nat) (q : Nat × TV) : Bool := !(q.1 == i) && !(q.1 + 1 == i && tJ q.2)
def tk2 (i : Nat) (q : Nat × TV) : Bool := !(q.1 == i) && (!(q.1 == i + 1) && !(q.1 + 1 == i && tJ q.2))
theorem tv_j (v : TV) : ((tv v).category == 2) = tJ v := by
  rw [tv_cat]
  cases tJ v <;> rfl
theorem tL_k1 {L L' : List (Nat × TV)} {i : Nat} {v : TV} (h : (i, v) :: L.filter (tk1 i) = L') : (i, tv v) :: (tL L).filter (fun q => !(q.1 == i) && !(q.1 + 1 == i && q.2.category == 2)) = tL L' := by
  subst h
  have e : (tL L).filter (fun q => !(q.1 == i) && !(q.1 + 1 == i && q.2.category == 2)) = tL (L.filter (tk1 i)) := by
    unfold tL
    rw [List.filter_map]
    congr 1
    refine congrArg (fun f => List.filter f L) (funext fun q => ?_)
    simp only [Function.comp, tk1, tv_j]
  rw [e]
  rfl
theorem tL_k2 {L L' : List (Nat × TV)} {i : Nat} {v : TV} (h : (i, v) :: L.filter (tk2 i) = L') : (i, tv v) :: (tL L).filter (fun q => !(q.1 == i) && (!(q.1 == i + 1) && !(q.1 + 1 == i && q.2.category == 2))) = tL L' := by
  subst h
  have e : (tL L).filter (fun q => !(q.1 == i) && (!(q.1 == i + 1) && !(q.1 + 1 == i && q.2.category == 2))) = tL (L.filter (tk2 i)) := by
    unfold tL
    rw [List.filter_map]
    congr 1
    refine congrArg (fun f => List.filter f L) (funext fun q => ?_)
    simp only [Function.comp, tk2, tv_j]
  rw [e]
  rfl
theorem tL_sub {ls : Array Slot} {nL : Nat} {L L' : List (Nat × TV)} (h : lv_has ls nL (tL L)) (ks : List Nat) (e : ks.filterMap (fun k => L[k]?) = L') : lv_has ls nL (tL L') := by
  refine ⟨h.1, h.2.1, fun q hq => ?_⟩
  obtain ⟨q0, h1, rfl⟩ := List.mem_map.mp hq
  rw [← e] at h1
  obtain ⟨k, -, hk⟩ := List.mem_filterMap.mp h1
  exact h.2.2 _ (List.mem_map.mpr ⟨q0, List.mem_of_getElem? hk, rfl⟩)
/-! memory: kinds (an object of number c: (c, 0); an array: (20 + t, its length)), int and boolean fields, reference fields, arrays, the next address -/
abbrev Mem : Type := (Nat → Option (Nat × Nat)) × (Nat → Nat → Int32) × (Nat → Nat → Option Nat) × (Nat → Nat → Int32) × (Nat → Nat → Int64) × (Nat → Nat → Option Nat) × Nat
def mK (X : Mem) : Nat → Option (Nat × Nat) := X.1
def mI (X : Mem) : Nat → Nat → Int32 := X.2.1
def mR (X : Mem) : Nat → Nat → Option Nat := X.2.2.1
def aI (X : Mem) : Nat → Nat → Int32 := X.2.2.2.1
def aJ (X : Mem) : Nat → Nat → Int64 := X.2.2.2.2.1
def aR (X : Mem) : Nat → Nat → Option Nat := X.2.2.2.2.2.1
def mZ (X : Mem) : Nat := X.2.2.2.2.2.2
def up2 {α : Type} (f : Nat → Nat → α) (k a : Nat) (v : α) : Nat → Nat → α := fun j b => if j = k ∧ b = a then v else f j b
def wI (X : Mem) (k a : Nat) (v : Int32) : Mem := (mK X, up2 (mI X) k a v, mR X, aI X, aJ X, aR X, mZ X)
def wR (X : Mem) (k a : Nat) (v : Option Nat) : Mem := (mK X, mI X, up2 (mR X) k a v, aI X, aJ X, aR X, mZ X)
def sI (X : Mem) (a i : Nat) (v : Int32) : Mem := (mK X, mI X, mR X, up2 (aI X) a i v, aJ X, aR X, mZ X)
def sJ (X : Mem) (a i : Nat) (v : Int64) : Mem := (mK X, mI X, mR X, aI X, up2 (aJ X) a i v, aR X, mZ X)
def sR (X : Mem) (a i : Nat) (v : Option Nat) : Mem := (mK X, mI X, mR X, aI X, aJ X, up2 (aR X) a i v, mZ X)
def zM (X : Mem) (z : Nat) : Mem := (mK X, mI X, mR X, aI X, aJ X, aR X, z)
/-- a new object of number c at the next address: all fields 0 or null -/
def nO (X : Mem) (c : Nat) : Mem := (fun b => if b = mZ X then some (c, 0) else mK X b, fun k b => if b = mZ X then 0 else mI X k b, fun k b => if b = mZ X then none else mR X k b, aI X, aJ X, aR X, mZ X + 1)
/-- a new array of kind 20 + t and length n there -/
def nA (X : Mem) (t n : Nat) : Mem := (fun b => if b = mZ X then some (20 + t, n) else mK X b, mI X, mR X, fun b i => if b = mZ X then 0 else aI X b i, fun b i => if b = mZ X then 0 else aJ X b i, fun b i => if b = mZ X then none else aR X b i, mZ X + 1)
def fR : Nat → Nat → Bool := fun c k => match (tyOf c k) with
  | .array _ => true
  | .object _ => true
  | _ => false
def fsOf (X : Mem) (c a : Nat) : List Value := (List.range (fN c)).map (fun k => if fR c k then va_rf (mR X (100 * c + k) a) else .int (mI X (100 * c + k) a))
abbrev DD : Type := (Nat → ClassId) × (Nat → Nat → Nat) × (Nat → ClassId)
def cellOf (D : DD) (X : Mem) (a c n : Nat) : va_E :=
  if c < 13 then .inr (c, fsOf X c a) else if c < 22 then .inl (D.2.2 (c - 20), n, .inl (aI X a)) else if c = 22 then .inl (D.2.2 2, n, .inr (.inl (aJ X a))) else .inl (D.2.2 (c - 20), n, .inr (.inr (.inr (.inr (aR X a)))))
def RepM (D : DD) (X : Mem) (H : Heap) : Prop := (∀ a c n, mK X a = some (c, n) → (c < 13 ∨ (20 ≤ c ∧ c < 27)) ∧ va_at (D.1, D.2.1) vwCl (a, cellOf D X a c n) H) ∧ mZ X = H.size
def foot (X : Mem) (q : Nat) : Prop := mK X q ≠ none ∨ mZ X ≤ q
abbrev arT : Nat → FieldType := fun t => match t with
  | 0 => .int
  | 1 => .boolean
  | 2 => .long
  | 3 => .object RX4
  | 4 => .object RX5
  | 5 => .object RX3
  | _ => .object RX10
def tysOf (D : DD) : List (ClassId × FieldType) := (List.range 7).map (fun t => (D.2.2 t, arT t))
def gd : List Cond := lw_tbl.filter goodWord
/-- what the tables say, wherever the run stands -/
def AK (D : DD) (U : State) : Prop :=
  va_K (D.1, D.2.1) vwCl (tysOf D) U ∧ (∀ w ∈ gd, ∀ a : Array Value, w.before a U = true) ∧ (∀ w ∈ nestW, va_Nw w U) ∧ (∀ q ∈ strW, ∃ sa, vk_R RX11 q.1 q.2 sa U) ∧ (∀ w ∈ castW, va_Nw w U) ∧ (∀ w ∈ declW, va_Nw w U) ∧ (∀ t, 3 ≤ t → t < 7 → ∃ C, arT t = .object C ∧ va_AO C U)
end
section
/-! THE JUDGEMENT Gd: from the typed memory X, at pc, with the typed locals L and the typed stack st, the walk comes to Q -/
def nkW : Cond → Bool
  | .fieldLinkNest .. => true
  | .methodLinkNest .. => true
  | _ => false
def ckW : Cond → Bool
  | .castable .. => true
  | _ => false
def dkW : Cond → Bool
  | .declares .. => true
  | _ => false
theorem nestW_k : nestW.all nkW = true := rfl
theorem castW_k : castW.all ckW = true := rfl
theorem declW_k : declW.all dkW = true := rfl
theorem AK.warm {D : DD} {s U : State} (hW : s.WarmedH U.vm) (h : AK D s) : AK D U := by
  obtain ⟨h1, h2, h3, h4, h5, h6, h7⟩ := h
  refine ⟨va_K.moved hW.alike h1, fun w hw a => word_at hW (good_of_word (List.mem_filter.mp hw).2) (h2 w hw a), fun w hw => ?_, fun q hq => ?_, fun w hw => ?_, fun w hw => ?_, fun t ht1 ht2 => ?_⟩
  · have hk := List.all_eq_true.mp nestW_k w hw
    have hz := h3 w hw
    cases w <;> first | exact va_Nw.warmF hW hz | exact va_Nw.warmM hW hz | exact absurd hk (by simp [nkW])
  · obtain ⟨sa, h⟩ := h4 q hq
    exact ⟨sa, vk_R.warm hW h⟩
  · have hk := List.all_eq_true.mp castW_k w hw
    have hz := h5 w hw
    cases w <;> first | exact va_Nw.warmC hW hz | exact absurd hk (by simp [ckW])
  · have hk := List.all_eq_true.mp declW_k w hw
    have hz := h6 w hw
    cases w <;> first | exact va_Nw.warmD hW hz | exact absurd hk (by simp [dkW])
  · obtain ⟨C, e1, e2⟩ := h7 t ht1 ht2
    exact ⟨C, e1, va_AO.moved hW.alike e2⟩
theorem AK.w {D : DD} {s : State} (h : AK D s) {w : Cond} (hw : w ∈ gd) {a : Array Value} : w.before a s = true := h.2.1 w hw a
abbrev EV : Type := Program × Launch × Env × Room × State × MethodId × Array Value × List Frame × Method × Code
def zU (A : Nat → Prop) (s : State) (H : Heap) : Prop := vx_Zq Bundle.tN "UNASSIGNED_STACK" Bundle.steD A s H ∧ vx_Zq Bundle.tN "SUPPRESSED_SENTINEL" Bundle.listD A s H
/-- what a body knows of where it stands -/
def Amb (D : DD) (A0 : Nat → Prop) (ev : EV) (own nm : String) (cc : ByteArray) (nL : Nat) (ret : Option FieldType) (rm : Room) : Prop := match ev with
  | (p, l, _, R, s, m, _, _, meth, c) => p.tables.exec = Jvm.exec ∧ c.code = cc ∧ c.maxLocals = nL ∧ s.vm.findClass own = some m.cls ∧ AK D s ∧ meth.locks = false ∧ meth.sig.returnType = ret ∧ R = rm ∧ (∀ q : Nat, s.heap.size ≤ q → A0 q) ∧ l.stackTraces = false ∧ zU A0 s s.heap ∧ meth.name = nm
def Gd (D : DD) (A0 : Nat → Prop) (ev : EV) (Q : State → Prop) (X : Mem) (cs sl pc : Nat) (L : List (Nat × TV)) (st : List TV) : Prop := match ev with
  | (p, l, e, R, s, m, args, below, meth, c) => ∀ (H : Heap) (locs : List Loc) (ls : Array Slot), RepM D X H → (∀ a, mK X a ≠ none → A0 a) → va_S A0 s.heap H locs → lv_has ls c.maxLocals (tL L) → W p l e R s m args below meth c H locs cs sl Q (F0 m pc ls (tS st))
section GR
variable {D : DD} {A0 : Nat → Prop} {ev : EV} {Q : State → Prop} {X : Mem} {cs sl pc : Nat} {L : List (Nat × TV)} {st : List TV} {own nm : String} {cc : ByteArray} {nL : Nat} {ret : Option FieldType} {rm : Room}
theorem g_sub {L' : List (Nat × TV)} (ks : List Nat) (e : ks.filterMap (fun k => L[k]?) = L') (k : Gd D A0 ev Q X cs sl pc L' st) : Gd D A0 ev Q X cs sl pc L st := by
  obtain ⟨p, l, e9, R, s, m, args, below, meth, c⟩ := ev
  exact fun H locs ls hR hA hS hl => k H locs ls hR hA hS (tL_sub hl ks e)
theorem g_widen {cs' sl' : Nat} (h1 : cs ≤ cs') (h2 : sl ≤ sl') (k : Gd D A0 ev Q X cs' sl' pc L st) : Gd D A0 ev Q X cs sl pc L st := by
  obtain ⟨p, l, e9, R, s, m, args, below, meth, c⟩ := ev
  exact fun H locs ls hR hA hS hl => W.widen h1 h2 (k H locs ls hR hA hS hl)

theorem g_iconst {n : Int} (B : Amb D A0 ev own nm cc nL ret rm) (d : decode cc pc = .ok (.iconst n, 1)) (v : Int32) (hv : Int32.ofInt n = v) (k : Gd D A0 ev Q X cs sl (pc + 1) L (vI v :: st)) : Gd D A0 ev Q X cs sl pc L (st) := by
  obtain ⟨p, l, e9, R, s, m, args, below, meth, c⟩ := ev
  intro H locs ls hR hA hS hl
  exact lv_iconst B.1 B.2.1 d hv (k H locs ls hR hA hS hl)
theorem g_bipush {n : Int} (B : Amb D A0 ev own nm cc nL ret rm) (d : decode cc pc = .ok (.bipush n, 2)) (v : Int32) (hv : (Int8.ofInt n).toInt32 = v) (k : Gd D A0 ev Q X cs sl (pc + 2) L (vI v :: st)) : Gd D A0 ev Q X cs sl pc L (st) := by
  obtain ⟨p, l, e9, R, s, m, args, below, meth, c⟩ := ev
  intro H locs ls hR hA hS hl
  exact lv_bipush B.1 B.2.1 d hv (k H locs ls hR hA hS hl)
theorem g_sipush {n : Int} (B : Amb D A0 ev own nm cc nL ret rm) (d : decode cc pc = .ok (.sipush n, 3)) (v : Int32) (hv : (Int16.ofInt n).toInt32 = v) (k : Gd D A0 ev Q X cs sl (pc + 3) L (vI v :: st)) : Gd D A0 ev Q X cs sl pc L (st) := by
  obtain ⟨p, l, e9, R, s, m, args, below, meth, c⟩ := ev
  intro H locs ls hR hA hS hl
  exact lv_sipush B.1 B.2.1 d hv (k H locs ls hR hA hS hl)
theorem g_lconst {n : Fin 2} (B : Amb D A0 ev own nm cc nL ret rm) (d : decode cc pc = .ok (.lconst n, 1)) (v : Int64) (hv : Int64.ofNat n = v) (k : Gd D A0 ev Q X cs sl (pc + 1) L (vJ v :: st)) : Gd D A0 ev Q X cs sl pc L (st) := by
  obtain ⟨p, l, e9, R, s, m, args, below, meth, c⟩ := ev
  intro H locs ls hR hA hS hl
  exact lv_lconst B.1 B.2.1 d hv (k H locs ls hR hA hS hl)
theorem g_null (B : Amb D A0 ev own nm cc nL ret rm) (d : decode cc pc = .ok (.aconst_null, 1)) (k : Gd D A0 ev Q X cs sl (pc + 1) L (vA none :: st)) : Gd D A0 ev Q X cs sl pc L (st) := by
  obtain ⟨p, l, e9, R, s, m, args, below, meth, c⟩ := ev
  intro H locs ls hR hA hS hl
  exact lv_null B.1 B.2.1 d (k H locs ls hR hA hS hl)
theorem g_iload_n {kf : Fin 4} {x : Int32} (B : Amb D A0 ev own nm cc nL ret rm) (d : decode cc pc = .ok (.iload_n kf, 1)) (j : Nat) (hj : L[j]? = some (kf.val, vI x)) (k : Gd D A0 ev Q X cs sl (pc + 1) L (vI x :: st)) : Gd D A0 ev Q X cs sl pc L (st) := by
  obtain ⟨p, l, e9, R, s, m, args, below, meth, c⟩ := ev
  intro H locs ls hR hA hS hl
  exact lv_iload_n B.1 B.2.1 d rfl (lv_at hl j (tL_at hj)) (k H locs ls hR hA hS hl)
theorem g_iload {i : Nat} {x : Int32} (B : Amb D A0 ev own nm cc nL ret rm) (d : decode cc pc = .ok (.iload i, 2)) (j : Nat) (hj : L[j]? = some (i, vI x)) (k : Gd D A0 ev Q X cs sl (pc + 2) L (vI x :: st)) : Gd D A0 ev Q X cs sl pc L (st) := by
  obtain ⟨p, l, e9, R, s, m, args, below, meth, c⟩ := ev
  intro H locs ls hR hA hS hl
  exact lv_iload B.1 B.2.1 d (lv_at hl j (tL_at hj)) (k H locs ls hR hA hS hl)
theorem g_lload_n {kf : Fin 4} {x : Int64} (B : Amb D A0 ev own nm cc nL ret rm) (d : decode cc pc = .ok (.lload_n kf, 1)) (j : Nat) (hj : L[j]? = some (kf.val, vJ x)) (k : Gd D A0 ev Q X cs sl (pc + 1) L (vJ x :: st)) : Gd D A0 ev Q X cs sl pc L (st) := by
  obtain ⟨p, l, e9, R, s, m, args, below, meth, c⟩ := ev
  intro H locs ls hR hA hS hl
  exact lv_lload_n B.1 B.2.1 d rfl (lv_at hl j (tL_at hj)) (k H locs ls hR hA hS hl)
theorem g_lload {i : Nat} {x : Int64} (B : Amb D A0 ev own nm cc nL ret rm) (d : decode cc pc = .ok (.lload i, 2)) (j : Nat) (hj : L[j]? = some (i, vJ x)) (k : Gd D A0 ev Q X cs sl (pc + 2) L (vJ x :: st)) : Gd D A0 ev Q X cs sl pc L (st) := by
  obtain ⟨p, l, e9, R, s, m, args, below, meth, c⟩ := ev
  intro H locs ls hR hA hS hl
  exact lv_lload B.1 B.2.1 d (lv_at hl j (tL_at hj)) (k H locs ls hR hA hS hl)
theorem g_aload_n {kf : Fin 4} {r : Option Nat} (B : Amb D A0 ev own nm cc nL ret rm) (d : decode cc pc = .ok (.aload_n kf, 1)) (j : Nat) (hj : L[j]? = some (kf.val, vA r)) (k : Gd D A0 ev Q X cs sl (pc + 1) L (vA r :: st)) : Gd D A0 ev Q X cs sl pc L st := by
  obtain ⟨p, l, e9, R, s, m, args, below, meth, c⟩ := ev
  intro H locs ls hR hA hS hl
  have h9 := lv_at hl j (tL_at hj)
  cases r with
  | none => exact lv_aload_nN B.1 B.2.1 d rfl h9 (k H locs ls hR hA hS hl)
  | some a => exact lv_aload_n B.1 B.2.1 d rfl h9 (k H locs ls hR hA hS hl)
theorem g_aload {i : Nat} {r : Option Nat} (B : Amb D A0 ev own nm cc nL ret rm) (d : decode cc pc = .ok (.aload i, 2)) (j : Nat) (hj : L[j]? = some (i, vA r)) (k : Gd D A0 ev Q X cs sl (pc + 2) L (vA r :: st)) : Gd D A0 ev Q X cs sl pc L st := by
  obtain ⟨p, l, e9, R, s, m, args, below, meth, c⟩ := ev
  intro H locs ls hR hA hS hl
  have h9 := lv_at hl j (tL_at hj)
  cases r with
  | none => exact lv_aloadN B.1 B.2.1 d h9 (k H locs ls hR hA hS hl)
  | some a => exact lv_aload B.1 B.2.1 d h9 (k H locs ls hR hA hS hl)
theorem g_istore_n {kf : Fin 4} {x : Int32} {L' : List (Nat × TV)} (B : Amb D A0 ev own nm cc nL ret rm) (d : decode cc pc = .ok (.istore_n kf, 1)) (hn : kf.val < nL) (hL : (kf.val, vI x) :: L.filter (tk1 kf.val) = L') (k : Gd D A0 ev Q X cs sl (pc + 1) L' (st)) : Gd D A0 ev Q X cs sl pc L (vI x :: st) := by
  obtain ⟨p, l, e9, R, s, m, args, below, meth, c⟩ := ev
  intro H locs ls hR hA hS hl
  exact lv_istore_n B.1 B.2.1 d rfl hl (by rw [B.2.2.1]; exact hn) (tL_k1 hL) (fun ls' hl' => k H locs ls' hR hA hS hl')
theorem g_istore {i : Nat} {x : Int32} {L' : List (Nat × TV)} (B : Amb D A0 ev own nm cc nL ret rm) (d : decode cc pc = .ok (.istore i, 2)) (hn : i < nL) (hL : (i, vI x) :: L.filter (tk1 i) = L') (k : Gd D A0 ev Q X cs sl (pc + 2) L' (st)) : Gd D A0 ev Q X cs sl pc L (vI x :: st) := by
  obtain ⟨p, l, e9, R, s, m, args, below, meth, c⟩ := ev
  intro H locs ls hR hA hS hl
  exact lv_istore B.1 B.2.1 d hl (by rw [B.2.2.1]; exact hn) (tL_k1 hL) (fun ls' hl' => k H locs ls' hR hA hS hl')
theorem g_lstore_n {kf : Fin 4} {x : Int64} {L' : List (Nat × TV)} (B : Amb D A0 ev own nm cc nL ret rm) (d : decode cc pc = .ok (.lstore_n kf, 1)) (hn : kf.val + 1 < nL) (hL : (kf.val, vJ x) :: L.filter (tk2 kf.val) = L') (k : Gd D A0 ev Q X cs sl (pc + 1) L' (st)) : Gd D A0 ev Q X cs sl pc L (vJ x :: st) := by
  obtain ⟨p, l, e9, R, s, m, args, below, meth, c⟩ := ev
  intro H locs ls hR hA hS hl
  exact lv_lstore_n B.1 B.2.1 d rfl hl (by rw [B.2.2.1]; exact hn) (tL_k2 hL) (fun ls' hl' => k H locs ls' hR hA hS hl')
theorem g_lstore {i : Nat} {x : Int64} {L' : List (Nat × TV)} (B : Amb D A0 ev own nm cc nL ret rm) (d : decode cc pc = .ok (.lstore i, 2)) (hn : i + 1 < nL) (hL : (i, vJ x) :: L.filter (tk2 i) = L') (k : Gd D A0 ev Q X cs sl (pc + 2) L' (st)) : Gd D A0 ev Q X cs sl pc L (vJ x :: st) := by
  obtain ⟨p, l, e9, R, s, m, args, below, meth, c⟩ := ev
  intro H locs ls hR hA hS hl
  exact lv_lstore B.1 B.2.1 d hl (by rw [B.2.2.1]; exact hn) (tL_k2 hL) (fun ls' hl' => k H locs ls' hR hA hS hl')
theorem g_astore_n {kf : Fin 4} {r : Option Nat} {L' : List (Nat × TV)} (B : Amb D A0 ev own nm cc nL ret rm) (d : decode cc pc = .ok (.astore_n kf, 1)) (hn : kf.val < nL) (hL : (kf.val, vA r) :: L.filter (tk1 kf.val) = L') (k : Gd D A0 ev Q X cs sl (pc + 1) L' st) : Gd D A0 ev Q X cs sl pc L (vA r :: st) := by
  obtain ⟨p, l, e9, R, s, m, args, below, meth, c⟩ := ev
  intro H locs ls hR hA hS hl
  have h9 := tL_k1 hL
  cases r with
  | none => exact lv_astore_nN B.1 B.2.1 d rfl hl (by rw [B.2.2.1]; exact hn) h9 (fun ls' hl' => k H locs ls' hR hA hS hl')
  | some a => exact lv_astore_n B.1 B.2.1 d rfl hl (by rw [B.2.2.1]; exact hn) h9 (fun ls' hl' => k H locs ls' hR hA hS hl')
theorem g_astore {i : Nat} {r : Option Nat} {L' : List (Nat × TV)} (B : Amb D A0 ev own nm cc nL ret rm) (d : decode cc pc = .ok (.astore i, 2)) (hn : i < nL) (hL : (i, vA r) :: L.filter (tk1 i) = L') (k : Gd D A0 ev Q X cs sl (pc + 2) L' st) : Gd D A0 ev Q X cs sl pc L (vA r :: st) := by
  obtain ⟨p, l, e9, R, s, m, args, below, meth, c⟩ := ev
  intro H locs ls hR hA hS hl
  have h9 := tL_k1 hL
  cases r with
  | none => exact lv_astoreN B.1 B.2.1 d hl (by rw [B.2.2.1]; exact hn) h9 (fun ls' hl' => k H locs ls' hR hA hS hl')
  | some a => exact lv_astore B.1 B.2.1 d hl (by rw [B.2.2.1]; exact hn) h9 (fun ls' hl' => k H locs ls' hR hA hS hl')
theorem g_iinc {i : Nat} {n : Int} {x v : Int32} {L' : List (Nat × TV)} (B : Amb D A0 ev own nm cc nL ret rm) (d : decode cc pc = .ok (.iinc i n, 3)) (hn : i < nL) (j : Nat) (hj : L[j]? = some (i, vI x)) (hv : x + Int32.ofInt n = v) (hL : (i, vI v) :: L.filter (tk1 i) = L') (k : Gd D A0 ev Q X cs sl (pc + 3) L' (st)) : Gd D A0 ev Q X cs sl pc L (st) := by
  obtain ⟨p, l, e9, R, s, m, args, below, meth, c⟩ := ev
  intro H locs ls hR hA hS hl
  exact lv_iinc B.1 B.2.1 d hl (tL_at hj) hv (by rw [B.2.2.1]; exact hn) (tL_k1 hL) (fun ls' hl' => k H locs ls' hR hA hS hl')
theorem g_iadd {x y : Int32} (B : Amb D A0 ev own nm cc nL ret rm) (d : decode cc pc = .ok (.iadd, 1)) (k : Gd D A0 ev Q X cs sl (pc + 1) L (vI (x + y) :: st)) : Gd D A0 ev Q X cs sl pc L (vI y :: vI x :: st) := by
  obtain ⟨p, l, e9, R, s, m, args, below, meth, c⟩ := ev
  intro H locs ls hR hA hS hl
  exact lv_iadd B.1 B.2.1 d (k H locs ls hR hA hS hl)
theorem g_isub {x y : Int32} (B : Amb D A0 ev own nm cc nL ret rm) (d : decode cc pc = .ok (.isub, 1)) (k : Gd D A0 ev Q X cs sl (pc + 1) L (vI (x - y) :: st)) : Gd D A0 ev Q X cs sl pc L (vI y :: vI x :: st) := by
  obtain ⟨p, l, e9, R, s, m, args, below, meth, c⟩ := ev
  intro H locs ls hR hA hS hl
  exact lv_isub B.1 B.2.1 d (k H locs ls hR hA hS hl)
theorem g_imul {x y : Int32} (B : Amb D A0 ev own nm cc nL ret rm) (d : decode cc pc = .ok (.imul, 1)) (k : Gd D A0 ev Q X cs sl (pc + 1) L (vI (x * y) :: st)) : Gd D A0 ev Q X cs sl pc L (vI y :: vI x :: st) := by
  obtain ⟨p, l, e9, R, s, m, args, below, meth, c⟩ := ev
  intro H locs ls hR hA hS hl
  exact lv_imul B.1 B.2.1 d (k H locs ls hR hA hS hl)
theorem g_iand {x y : Int32} (B : Amb D A0 ev own nm cc nL ret rm) (d : decode cc pc = .ok (.iand, 1)) (k : Gd D A0 ev Q X cs sl (pc + 1) L (vI (x &&& y) :: st)) : Gd D A0 ev Q X cs sl pc L (vI y :: vI x :: st) := by
  obtain ⟨p, l, e9, R, s, m, args, below, meth, c⟩ := ev
  intro H locs ls hR hA hS hl
  exact lv_iand B.1 B.2.1 d (k H locs ls hR hA hS hl)
theorem g_ior {x y : Int32} (B : Amb D A0 ev own nm cc nL ret rm) (d : decode cc pc = .ok (.ior, 1)) (k : Gd D A0 ev Q X cs sl (pc + 1) L (vI (x ||| y) :: st)) : Gd D A0 ev Q X cs sl pc L (vI y :: vI x :: st) := by
  obtain ⟨p, l, e9, R, s, m, args, below, meth, c⟩ := ev
  intro H locs ls hR hA hS hl
  exact lv_ior B.1 B.2.1 d (k H locs ls hR hA hS hl)
theorem g_idiv {x y : Int32} (B : Amb D A0 ev own nm cc nL ret rm) (d : decode cc pc = .ok (.idiv, 1)) (hne : ¬ y = 0) (k : Gd D A0 ev Q X cs sl (pc + 1) L (vI (x / y) :: st)) : Gd D A0 ev Q X cs sl pc L (vI y :: vI x :: st) := by
  obtain ⟨p, l, e9, R, s, m, args, below, meth, c⟩ := ev
  intro H locs ls hR hA hS hl
  exact lv_idiv B.1 B.2.1 d hne (k H locs ls hR hA hS hl)
theorem g_irem {x y : Int32} (B : Amb D A0 ev own nm cc nL ret rm) (d : decode cc pc = .ok (.irem, 1)) (hne : ¬ y = 0) (k : Gd D A0 ev Q X cs sl (pc + 1) L (vI (x - x / y * y) :: st)) : Gd D A0 ev Q X cs sl pc L (vI y :: vI x :: st) := by
  obtain ⟨p, l, e9, R, s, m, args, below, meth, c⟩ := ev
  intro H locs ls hR hA hS hl
  exact lv_irem B.1 B.2.1 d hne (k H locs ls hR hA hS hl)
theorem g_lsub {x y : Int64} (B : Amb D A0 ev own nm cc nL ret rm) (d : decode cc pc = .ok (.lsub, 1)) (k : Gd D A0 ev Q X cs sl (pc + 1) L (vJ (x - y) :: st)) : Gd D A0 ev Q X cs sl pc L (vJ y :: vJ x :: st) := by
  obtain ⟨p, l, e9, R, s, m, args, below, meth, c⟩ := ev
  intro H locs ls hR hA hS hl
  exact lv_lsub B.1 B.2.1 d (k H locs ls hR hA hS hl)
theorem g_land {x y : Int64} (B : Amb D A0 ev own nm cc nL ret rm) (d : decode cc pc = .ok (.land, 1)) (k : Gd D A0 ev Q X cs sl (pc + 1) L (vJ (x &&& y) :: st)) : Gd D A0 ev Q X cs sl pc L (vJ y :: vJ x :: st) := by
  obtain ⟨p, l, e9, R, s, m, args, below, meth, c⟩ := ev
  intro H locs ls hR hA hS hl
  exact lv_land B.1 B.2.1 d (k H locs ls hR hA hS hl)
theorem g_lor {x y : Int64} (B : Amb D A0 ev own nm cc nL ret rm) (d : decode cc pc = .ok (.lor, 1)) (k : Gd D A0 ev Q X cs sl (pc + 1) L (vJ (x ||| y) :: st)) : Gd D A0 ev Q X cs sl pc L (vJ y :: vJ x :: st) := by
  obtain ⟨p, l, e9, R, s, m, args, below, meth, c⟩ := ev
  intro H locs ls hR hA hS hl
  exact lv_lor B.1 B.2.1 d (k H locs ls hR hA hS hl)
theorem g_ishl {x y : Int32} (B : Amb D A0 ev own nm cc nL ret rm) (d : decode cc pc = .ok (.ishl, 1)) (k : Gd D A0 ev Q X cs sl (pc + 1) L (vI (x <<< (y &&& 31)) :: st)) : Gd D A0 ev Q X cs sl pc L (vI y :: vI x :: st) := by
  obtain ⟨p, l, e9, R, s, m, args, below, meth, c⟩ := ev
  intro H locs ls hR hA hS hl
  exact lv_ishl B.1 B.2.1 d (k H locs ls hR hA hS hl)
theorem g_ishr {x y : Int32} (B : Amb D A0 ev own nm cc nL ret rm) (d : decode cc pc = .ok (.ishr, 1)) (k : Gd D A0 ev Q X cs sl (pc + 1) L (vI (x >>> (y &&& 31)) :: st)) : Gd D A0 ev Q X cs sl pc L (vI y :: vI x :: st) := by
  obtain ⟨p, l, e9, R, s, m, args, below, meth, c⟩ := ev
  intro H locs ls hR hA hS hl
  exact lv_ishr B.1 B.2.1 d (k H locs ls hR hA hS hl)
theorem g_lshl {x : Int64} {y : Int32} (B : Amb D A0 ev own nm cc nL ret rm) (d : decode cc pc = .ok (.lshl, 1)) (k : Gd D A0 ev Q X cs sl (pc + 1) L (vJ (x <<< (y.toInt64 &&& 63)) :: st)) : Gd D A0 ev Q X cs sl pc L (vI y :: vJ x :: st) := by
  obtain ⟨p, l, e9, R, s, m, args, below, meth, c⟩ := ev
  intro H locs ls hR hA hS hl
  exact lv_lshl B.1 B.2.1 d rfl (k H locs ls hR hA hS hl)
theorem g_lshr {x : Int64} {y : Int32} (B : Amb D A0 ev own nm cc nL ret rm) (d : decode cc pc = .ok (.lshr, 1)) (k : Gd D A0 ev Q X cs sl (pc + 1) L (vJ (x >>> (y.toInt64 &&& 63)) :: st)) : Gd D A0 ev Q X cs sl pc L (vI y :: vJ x :: st) := by
  obtain ⟨p, l, e9, R, s, m, args, below, meth, c⟩ := ev
  intro H locs ls hR hA hS hl
  exact lv_lshr B.1 B.2.1 d rfl (k H locs ls hR hA hS hl)
theorem g_i2l {x : Int32} (B : Amb D A0 ev own nm cc nL ret rm) (d : decode cc pc = .ok (.i2l, 1)) (k : Gd D A0 ev Q X cs sl (pc + 1) L (vJ x.toInt64 :: st)) : Gd D A0 ev Q X cs sl pc L (vI x :: st) := by
  obtain ⟨p, l, e9, R, s, m, args, below, meth, c⟩ := ev
  intro H locs ls hR hA hS hl
  exact lv_i2l B.1 B.2.1 d rfl (k H locs ls hR hA hS hl)
theorem g_lcmp {x y : Int64} (B : Amb D A0 ev own nm cc nL ret rm) (d : decode cc pc = .ok (.lcmp, 1)) (k : Gd D A0 ev Q X cs sl (pc + 1) L (vI (lg_cmp x y) :: st)) : Gd D A0 ev Q X cs sl pc L (vJ y :: vJ x :: st) := by
  obtain ⟨p, l, e9, R, s, m, args, below, meth, c⟩ := ev
  intro H locs ls hR hA hS hl
  exact W.lcmp B.1 B.2.1 d (k H locs ls hR hA hS hl)
theorem g_dup {v : TV} (B : Amb D A0 ev own nm cc nL ret rm) (d : decode cc pc = .ok (.dup, 1)) (hv : tJ v = false) (k : Gd D A0 ev Q X cs sl (pc + 1) L (v :: v :: st)) : Gd D A0 ev Q X cs sl pc L (v :: st) := by
  obtain ⟨p, l, e9, R, s, m, args, below, meth, c⟩ := ev
  intro H locs ls hR hA hS hl
  exact lv_dup B.1 B.2.1 d (by rw [tv_cat, hv]; rfl) (k H locs ls hR hA hS hl)
theorem g_pop {v : TV} (B : Amb D A0 ev own nm cc nL ret rm) (d : decode cc pc = .ok (.pop, 1)) (hv : tJ v = false) (k : Gd D A0 ev Q X cs sl (pc + 1) L (st)) : Gd D A0 ev Q X cs sl pc L (v :: st) := by
  obtain ⟨p, l, e9, R, s, m, args, below, meth, c⟩ := ev
  intro H locs ls hR hA hS hl
  exact lv_pop B.1 B.2.1 d (by rw [tv_cat, hv]; rfl) (k H locs ls hR hA hS hl)
theorem g_dup2 {v w : TV} (B : Amb D A0 ev own nm cc nL ret rm) (d : decode cc pc = .ok (.dup2, 1)) (hv : tJ v = false) (hw : tJ w = false) (k : Gd D A0 ev Q X cs sl (pc + 1) L (v :: w :: v :: w :: st)) : Gd D A0 ev Q X cs sl pc L (v :: w :: st) := by
  obtain ⟨p, l, e9, R, s, m, args, below, meth, c⟩ := ev
  intro H locs ls hR hA hS hl
  exact lv_dup2_11 B.1 B.2.1 d (by rw [tv_cat, hv]; rfl) (by rw [tv_cat, hw]; rfl) (k H locs ls hR hA hS hl)
theorem g_goto {off : Int} {tgt : Nat} (B : Amb D A0 ev own nm cc nL ret rm) (d : decode cc pc = .ok (.goto off, 3)) (ht : (pc : Int) + off = (tgt : Int)) (k : Gd D A0 ev Q X cs sl tgt L (st)) : Gd D A0 ev Q X cs sl pc L (st) := by
  obtain ⟨p, l, e9, R, s, m, args, below, meth, c⟩ := ev
  intro H locs ls hR hA hS hl
  exact lv_goto B.1 B.2.1 d ht (k H locs ls hR hA hS hl)
theorem g_if_eq {x : Int32} {off : Int} {tgt : Nat} (B : Amb D A0 ev own nm cc nL ret rm) (d : decode cc pc = .ok (.ifCond .eq off, 3)) (ht : (pc : Int) + off = (tgt : Int)) (kt : x = 0 → Gd D A0 ev Q X cs sl tgt L st) (kf : ¬ x = 0 → Gd D A0 ev Q X cs sl (pc + 3) L st) : Gd D A0 ev Q X cs sl pc L (vI x :: st) := by
  obtain ⟨p, l, e9, R, s, m, args, below, meth, c⟩ := ev
  intro H locs ls hR hA hS hl
  exact lv_if_eq B.1 B.2.1 d ht (fun c9 => kt c9 H locs ls hR hA hS hl) (fun c9 => kf c9 H locs ls hR hA hS hl)
theorem g_icmp_eq {x y : Int32} {off : Int} {tgt : Nat} (B : Amb D A0 ev own nm cc nL ret rm) (d : decode cc pc = .ok (.if_icmp .eq off, 3)) (ht : (pc : Int) + off = (tgt : Int)) (kt : x = y → Gd D A0 ev Q X cs sl tgt L st) (kf : ¬ x = y → Gd D A0 ev Q X cs sl (pc + 3) L st) : Gd D A0 ev Q X cs sl pc L (vI y :: vI x :: st) := by
  obtain ⟨p, l, e9, R, s, m, args, below, meth, c⟩ := ev
  intro H locs ls hR hA hS hl
  exact lv_icmp_eq B.1 B.2.1 d ht (fun c9 => kt c9 H locs ls hR hA hS hl) (fun c9 => kf c9 H locs ls hR hA hS hl)
theorem g_if_ne {x : Int32} {off : Int} {tgt : Nat} (B : Amb D A0 ev own nm cc nL ret rm) (d : decode cc pc = .ok (.ifCond .ne off, 3)) (ht : (pc : Int) + off = (tgt : Int)) (kt : ¬ x = 0 → Gd D A0 ev Q X cs sl tgt L st) (kf : x = 0 → Gd D A0 ev Q X cs sl (pc + 3) L st) : Gd D A0 ev Q X cs sl pc L (vI x :: st) := by
  obtain ⟨p, l, e9, R, s, m, args, below, meth, c⟩ := ev
  intro H locs ls hR hA hS hl
  exact lv_if_ne B.1 B.2.1 d ht (fun c9 => kt c9 H locs ls hR hA hS hl) (fun c9 => kf c9 H locs ls hR hA hS hl)
theorem g_icmp_ne {x y : Int32} {off : Int} {tgt : Nat} (B : Amb D A0 ev own nm cc nL ret rm) (d : decode cc pc = .ok (.if_icmp .ne off, 3)) (ht : (pc : Int) + off = (tgt : Int)) (kt : ¬ x = y → Gd D A0 ev Q X cs sl tgt L st) (kf : x = y → Gd D A0 ev Q X cs sl (pc + 3) L st) : Gd D A0 ev Q X cs sl pc L (vI y :: vI x :: st) := by
  obtain ⟨p, l, e9, R, s, m, args, below, meth, c⟩ := ev
  intro H locs ls hR hA hS hl
  exact lv_icmp_ne B.1 B.2.1 d ht (fun c9 => kt c9 H locs ls hR hA hS hl) (fun c9 => kf c9 H locs ls hR hA hS hl)
theorem g_if_lt {x : Int32} {off : Int} {tgt : Nat} (B : Amb D A0 ev own nm cc nL ret rm) (d : decode cc pc = .ok (.ifCond .lt off, 3)) (ht : (pc : Int) + off = (tgt : Int)) (kt : x < 0 → Gd D A0 ev Q X cs sl tgt L st) (kf : ¬ x < 0 → Gd D A0 ev Q X cs sl (pc + 3) L st) : Gd D A0 ev Q X cs sl pc L (vI x :: st) := by
  obtain ⟨p, l, e9, R, s, m, args, below, meth, c⟩ := ev
  intro H locs ls hR hA hS hl
  exact lv_if_lt B.1 B.2.1 d ht (fun c9 => kt c9 H locs ls hR hA hS hl) (fun c9 => kf c9 H locs ls hR hA hS hl)
theorem g_icmp_lt {x y : Int32} {off : Int} {tgt : Nat} (B : Amb D A0 ev own nm cc nL ret rm) (d : decode cc pc = .ok (.if_icmp .lt off, 3)) (ht : (pc : Int) + off = (tgt : Int)) (kt : x < y → Gd D A0 ev Q X cs sl tgt L st) (kf : ¬ x < y → Gd D A0 ev Q X cs sl (pc + 3) L st) : Gd D A0 ev Q X cs sl pc L (vI y :: vI x :: st) := by
  obtain ⟨p, l, e9, R, s, m, args, below, meth, c⟩ := ev
  intro H locs ls hR hA hS hl
  exact lv_icmp_lt B.1 B.2.1 d ht (fun c9 => kt c9 H locs ls hR hA hS hl) (fun c9 => kf c9 H locs ls hR hA hS hl)
theorem g_if_ge {x : Int32} {off : Int} {tgt : Nat} (B : Amb D A0 ev own nm cc nL ret rm) (d : decode cc pc = .ok (.ifCond .ge off, 3)) (ht : (pc : Int) + off = (tgt : Int)) (kt : 0 ≤ x → Gd D A0 ev Q X cs sl tgt L st) (kf : ¬ 0 ≤ x → Gd D A0 ev Q X cs sl (pc + 3) L st) : Gd D A0 ev Q X cs sl pc L (vI x :: st) := by
  obtain ⟨p, l, e9, R, s, m, args, below, meth, c⟩ := ev
  intro H locs ls hR hA hS hl
  exact lv_if_ge B.1 B.2.1 d ht (fun c9 => kt c9 H locs ls hR hA hS hl) (fun c9 => kf c9 H locs ls hR hA hS hl)
theorem g_icmp_ge {x y : Int32} {off : Int} {tgt : Nat} (B : Amb D A0 ev own nm cc nL ret rm) (d : decode cc pc = .ok (.if_icmp .ge off, 3)) (ht : (pc : Int) + off = (tgt : Int)) (kt : y ≤ x → Gd D A0 ev Q X cs sl tgt L st) (kf : ¬ y ≤ x → Gd D A0 ev Q X cs sl (pc + 3) L st) : Gd D A0 ev Q X cs sl pc L (vI y :: vI x :: st) := by
  obtain ⟨p, l, e9, R, s, m, args, below, meth, c⟩ := ev
  intro H locs ls hR hA hS hl
  exact lv_icmp_ge B.1 B.2.1 d ht (fun c9 => kt c9 H locs ls hR hA hS hl) (fun c9 => kf c9 H locs ls hR hA hS hl)
theorem g_if_gt {x : Int32} {off : Int} {tgt : Nat} (B : Amb D A0 ev own nm cc nL ret rm) (d : decode cc pc = .ok (.ifCond .gt off, 3)) (ht : (pc : Int) + off = (tgt : Int)) (kt : 0 < x → Gd D A0 ev Q X cs sl tgt L st) (kf : ¬ 0 < x → Gd D A0 ev Q X cs sl (pc + 3) L st) : Gd D A0 ev Q X cs sl pc L (vI x :: st) := by
  obtain ⟨p, l, e9, R, s, m, args, below, meth, c⟩ := ev
  intro H locs ls hR hA hS hl
  exact lv_if_gt B.1 B.2.1 d ht (fun c9 => kt c9 H locs ls hR hA hS hl) (fun c9 => kf c9 H locs ls hR hA hS hl)
theorem g_icmp_gt {x y : Int32} {off : Int} {tgt : Nat} (B : Amb D A0 ev own nm cc nL ret rm) (d : decode cc pc = .ok (.if_icmp .gt off, 3)) (ht : (pc : Int) + off = (tgt : Int)) (kt : y < x → Gd D A0 ev Q X cs sl tgt L st) (kf : ¬ y < x → Gd D A0 ev Q X cs sl (pc + 3) L st) : Gd D A0 ev Q X cs sl pc L (vI y :: vI x :: st) := by
  obtain ⟨p, l, e9, R, s, m, args, below, meth, c⟩ := ev
  intro H locs ls hR hA hS hl
  exact lv_icmp_gt B.1 B.2.1 d ht (fun c9 => kt c9 H locs ls hR hA hS hl) (fun c9 => kf c9 H locs ls hR hA hS hl)
theorem g_if_le {x : Int32} {off : Int} {tgt : Nat} (B : Amb D A0 ev own nm cc nL ret rm) (d : decode cc pc = .ok (.ifCond .le off, 3)) (ht : (pc : Int) + off = (tgt : Int)) (kt : x ≤ 0 → Gd D A0 ev Q X cs sl tgt L st) (kf : ¬ x ≤ 0 → Gd D A0 ev Q X cs sl (pc + 3) L st) : Gd D A0 ev Q X cs sl pc L (vI x :: st) := by
  obtain ⟨p, l, e9, R, s, m, args, below, meth, c⟩ := ev
  intro H locs ls hR hA hS hl
  exact lv_if_le B.1 B.2.1 d ht (fun c9 => kt c9 H locs ls hR hA hS hl) (fun c9 => kf c9 H locs ls hR hA hS hl)
theorem g_icmp_le {x y : Int32} {off : Int} {tgt : Nat} (B : Amb D A0 ev own nm cc nL ret rm) (d : decode cc pc = .ok (.if_icmp .le off, 3)) (ht : (pc : Int) + off = (tgt : Int)) (kt : x ≤ y → Gd D A0 ev Q X cs sl tgt L st) (kf : ¬ x ≤ y → Gd D A0 ev Q X cs sl (pc + 3) L st) : Gd D A0 ev Q X cs sl pc L (vI y :: vI x :: st) := by
  obtain ⟨p, l, e9, R, s, m, args, below, meth, c⟩ := ev
  intro H locs ls hR hA hS hl
  exact lv_icmp_le B.1 B.2.1 d ht (fun c9 => kt c9 H locs ls hR hA hS hl) (fun c9 => kf c9 H locs ls hR hA hS hl)
theorem g_acmp_ne {rx ry : Option Nat} {off : Int} {tgt : Nat} (B : Amb D A0 ev own nm cc nL ret rm) (d : decode cc pc = .ok (.if_acmp .ne off, 3)) (ht : (pc : Int) + off = (tgt : Int)) (kt : ¬ rx = ry → Gd D A0 ev Q X cs sl tgt L st) (kf : rx = ry → Gd D A0 ev Q X cs sl (pc + 3) L st) : Gd D A0 ev Q X cs sl pc L (vA ry :: vA rx :: st) := by
  obtain ⟨p, l, e9, R, s, m, args, below, meth, c⟩ := ev
  intro H locs ls hR hA hS hl
  exact lv_acmp_ne B.1 B.2.1 d ht (fun c9 => kt c9 H locs ls hR hA hS hl) (fun c9 => kf c9 H locs ls hR hA hS hl)
theorem g_acmp_eq {rx ry : Option Nat} {off : Int} {tgt : Nat} (B : Amb D A0 ev own nm cc nL ret rm) (d : decode cc pc = .ok (.if_acmp .eq off, 3)) (ht : (pc : Int) + off = (tgt : Int)) (kt : rx = ry → Gd D A0 ev Q X cs sl tgt L st) (kf : ¬ rx = ry → Gd D A0 ev Q X cs sl (pc + 3) L st) : Gd D A0 ev Q X cs sl pc L (vA ry :: vA rx :: st) := by
  obtain ⟨p, l, e9, R, s, m, args, below, meth, c⟩ := ev
  intro H locs ls hR hA hS hl
  exact lv_acmp_eq B.1 B.2.1 d ht (fun c9 => kt c9 H locs ls hR hA hS hl) (fun c9 => kf c9 H locs ls hR hA hS hl)
theorem g_ifnull {r : Option Nat} {off : Int} {tgt : Nat} (B : Amb D A0 ev own nm cc nL ret rm) (d : decode cc pc = .ok (.ifnull off, 3)) (ht : (pc : Int) + off = (tgt : Int)) (kt : r = none → Gd D A0 ev Q X cs sl tgt L st) (kf : ¬ r = none → Gd D A0 ev Q X cs sl (pc + 3) L st) : Gd D A0 ev Q X cs sl pc L (vA r :: st) := by
  obtain ⟨p, l, e9, R, s, m, args, below, meth, c⟩ := ev
  intro H locs ls hR hA hS hl
  cases r with
  | none => exact lv_ifnullN B.1 B.2.1 d ht (kt rfl H locs ls hR hA hS hl)
  | some a => exact lv_ifnull B.1 B.2.1 d (kf (fun z => nomatch z) H locs ls hR hA hS hl)
theorem g_ifnonnull {r : Option Nat} {off : Int} {tgt : Nat} (B : Amb D A0 ev own nm cc nL ret rm) (d : decode cc pc = .ok (.ifnonnull off, 3)) (ht : (pc : Int) + off = (tgt : Int)) (kt : ¬ r = none → Gd D A0 ev Q X cs sl tgt L st) (kf : r = none → Gd D A0 ev Q X cs sl (pc + 3) L st) : Gd D A0 ev Q X cs sl pc L (vA r :: st) := by
  obtain ⟨p, l, e9, R, s, m, args, below, meth, c⟩ := ev
  intro H locs ls hR hA hS hl
  cases r with
  | none => exact lv_ifnonnullN B.1 B.2.1 d (kf rfl H locs ls hR hA hS hl)
  | some a => exact lv_ifnonnull B.1 B.2.1 d ht (kt (fun z => nomatch z) H locs ls hR hA hS hl)
theorem g_tableIn {dflt lo hi : Int} {offs : Array Int} {len : Nat} {x : Int32} {off : Int} {tgt : Nat} (B : Amb D A0 ev own nm cc nL ret rm) (d : decode cc pc = .ok (.tableswitch dflt lo hi offs, len)) (h1 : ¬ x.toInt < lo) (h2 : ¬ hi < x.toInt) (ho : offs[(x.toInt - lo).toNat]? = some off) (ht : (pc : Int) + off = (tgt : Int)) (k : Gd D A0 ev Q X cs sl tgt L (st)) : Gd D A0 ev Q X cs sl pc L (vI x :: st) := by
  obtain ⟨p, l, e9, R, s, m, args, below, meth, c⟩ := ev
  intro H locs ls hR hA hS hl
  exact lv_tableIn B.1 B.2.1 d h1 h2 ho ht (k H locs ls hR hA hS hl)
theorem g_tableOut {dflt lo hi : Int} {offs : Array Int} {len : Nat} {x : Int32} {tgt : Nat} (B : Amb D A0 ev own nm cc nL ret rm) (d : decode cc pc = .ok (.tableswitch dflt lo hi offs, len)) (h : x.toInt < lo ∨ hi < x.toInt) (ht : (pc : Int) + dflt = (tgt : Int)) (k : Gd D A0 ev Q X cs sl tgt L (st)) : Gd D A0 ev Q X cs sl pc L (vI x :: st) := by
  obtain ⟨p, l, e9, R, s, m, args, below, meth, c⟩ := ev
  intro H locs ls hR hA hS hl
  exact lv_tableOut B.1 B.2.1 d h ht (k H locs ls hR hA hS hl)
theorem g_ldc {index : Nat} {v : Int32} (B : Amb D A0 ev own nm cc nL ret rm) (hc : Cond.constant own index v ∈ gd) (d : decode cc pc = .ok (.ldc index, 2)) (k : Gd D A0 ev Q X cs sl (pc + 2) L (vI v :: st)) : Gd D A0 ev Q X cs sl pc L (st) := by
  obtain ⟨p, l, e9, R, s, m, args, below, meth, c⟩ := ev
  intro H locs ls hR hA hS hl
  exact lv_ldc B.1 B.2.1 B.2.2.2.1 (B.2.2.2.2.1.w hc) d (k H locs ls hR hA hS hl)
end GR
end
section
/-! FIELDS, ARRAYS, NEW CELLS over the typed memory -/
abbrev clC (c : Nat) : String := (vwCl.getD c (RX12, TX12, 49)).1
abbrev clT (c : Nat) : u_T := (vwCl.getD c (RX12, TX12, 49)).2.1
theorem m13 {P : Nat → Prop} (h0 : P 0) (h1 : P 1) (h2 : P 2) (h3 : P 3) (h4 : P 4) (h5 : P 5) (h6 : P 6) (h7 : P 7) (h8 : P 8) (h9 : P 9) (h10 : P 10) (h11 : P 11) (h12 : P 12) : ∀ c, c < 13 → P c := by
  intro c hc
  match c, hc with
  | 0, _ => exact h0
  | 1, _ => exact h1
  | 2, _ => exact h2
  | 3, _ => exact h3
  | 4, _ => exact h4
  | 5, _ => exact h5
  | 6, _ => exact h6
  | 7, _ => exact h7
  | 8, _ => exact h8
  | 9, _ => exact h9
  | 10, _ => exact h10
  | 11, _ => exact h11
  | 12, _ => exact h12
def ClsOK (c : Nat) : Prop := vwCl[c]? = some (clC c, clT c, fN c) ∧ (∀ w ∈ u_ws (clC c) (clT c) (fN c), w ∈ gd) ∧ (∀ a, a < fN c → ∀ b, b < fN c → a ≠ b → (clT c a).2.1 ≠ (clT c b).2.1) ∧ (∀ k, k < fN c → parseFieldDescriptor (clT c k).2.2.1 = some (tyOf c k)) ∧ fN c < 100
set_option maxRecDepth 20000 in
theorem clsIn0 : ∀ w ∈ u_ws (clC 0) (clT 0) (fN 0), w ∈ gd := by decide +kernel
theorem clsOK0 : ClsOK 0 := ⟨rfl, clsIn0, nmX0, tyX0_ok, by decide⟩
set_option maxRecDepth 20000 in
theorem clsIn1 : ∀ w ∈ u_ws (clC 1) (clT 1) (fN 1), w ∈ gd := by decide +kernel
theorem clsOK1 : ClsOK 1 := ⟨rfl, clsIn1, nmX1, tyX1_ok, by decide⟩
set_option maxRecDepth 20000 in
theorem clsIn2 : ∀ w ∈ u_ws (clC 2) (clT 2) (fN 2), w ∈ gd := by decide +kernel
theorem clsOK2 : ClsOK 2 := ⟨rfl, clsIn2, nmX2, tyX2_ok, by decide⟩
set_option maxRecDepth 20000 in
theorem clsIn3 : ∀ w ∈ u_ws (clC 3) (clT 3) (fN 3), w ∈ gd := by decide +kernel
theorem clsOK3 : ClsOK 3 := ⟨rfl, clsIn3, nmX3, tyX3_ok, by decide⟩
set_option maxRecDepth 20000 in
theorem clsIn4 : ∀ w ∈ u_ws (clC 4) (clT 4) (fN 4), w ∈ gd := by decide +kernel
theorem clsOK4 : ClsOK 4 := ⟨rfl, clsIn4, nmX4, tyX4_ok, by decide⟩
set_option maxRecDepth 20000 in
theorem clsIn5 : ∀ w ∈ u_ws (clC 5) (clT 5) (fN 5), w ∈ gd := by decide +kernel
theorem clsOK5 : ClsOK 5 := ⟨rfl, clsIn5, nmX5, tyX5_ok, by decide⟩
set_option maxRecDepth 20000 in
theorem clsIn6 : ∀ w ∈ u_ws (clC 6) (clT 6) (fN 6), w ∈ gd := by decide +kernel
theorem clsOK6 : ClsOK 6 := ⟨rfl, clsIn6, nmX6, tyX6_ok, by decide⟩
set_option maxRecDepth 20000 in
theorem clsIn7 : ∀ w ∈ u_ws (clC 7) (clT 7) (fN 7), w ∈ gd := by decide +kernel
theorem clsOK7 : ClsOK 7 := ⟨rfl, clsIn7, nmX7, tyX7_ok, by decide⟩
set_option maxRecDepth 20000 in
theorem clsIn8 : ∀ w ∈ u_ws (clC 8) (clT 8) (fN 8), w ∈ gd := by decide +kernel
theorem clsOK8 : ClsOK 8 := ⟨rfl, clsIn8, nmX8, tyX8_ok, by decide⟩
set_option maxRecDepth 20000 in
theorem clsIn9 : ∀ w ∈ u_ws (clC 9) (clT 9) (fN 9), w ∈ gd := by decide +kernel
theorem clsOK9 : ClsOK 9 := ⟨rfl, clsIn9, nmX9, tyX9_ok, by decide⟩
set_option maxRecDepth 20000 in
theorem clsIn10 : ∀ w ∈ u_ws (clC 10) (clT 10) (fN 10), w ∈ gd := by decide +kernel
theorem clsOK10 : ClsOK 10 := ⟨rfl, clsIn10, nmX10, tyX10_ok, by decide⟩
set_option maxRecDepth 20000 in
theorem clsIn11 : ∀ w ∈ u_ws (clC 11) (clT 11) (fN 11), w ∈ gd := by decide +kernel
theorem clsOK11 : ClsOK 11 := ⟨rfl, clsIn11, nmX11, tyX11_ok, by decide⟩
set_option maxRecDepth 20000 in
theorem clsIn12 : ∀ w ∈ u_ws (clC 12) (clT 12) (fN 12), w ∈ gd := by decide +kernel
theorem clsOK12 : ClsOK 12 := ⟨rfl, clsIn12, nmX12, tyX12_ok, by decide⟩
theorem clsOK : ∀ c, c < 13 → ClsOK c := m13 clsOK0 clsOK1 clsOK2 clsOK3 clsOK4 clsOK5 clsOK6 clsOK7 clsOK8 clsOK9 clsOK10 clsOK11 clsOK12
def tyK : FieldType → Bool
  | .int => true
  | .boolean => true
  | .array _ => true
  | .object _ => true
  | _ => false
theorem tyOf_k : ∀ c, c < 13 → ∀ k, k < fN c → tyK (tyOf c k) = true := m13 (by decide) (by decide) (by decide) (by decide) (by decide) (by decide) (by decide) (by decide) (by decide) (by decide) (by decide) (by decide) (by decide +kernel)
theorem tyOf_ok : ∀ c, c < 13 → ∀ k, k < fN c → (tyOf c k = .int ∨ tyOf c k = .boolean ∨ (∃ t, tyOf c k = .array t) ∨ ∃ t, tyOf c k = .object t) := by
  intro c hc k hk
  have h := tyOf_k c hc k hk
  cases e : tyOf c k <;> rw [e] at h <;> first | exact Or.inl rfl | exact Or.inr (Or.inl rfl) | exact Or.inr (Or.inr (Or.inl ⟨_, rfl⟩)) | exact Or.inr (Or.inr (Or.inr ⟨_, rfl⟩)) | exact absurd h (by decide)
theorem fs_len {X : Mem} {c a : Nat} : (fsOf X c a).length = fN c := by simp [fsOf]
theorem fs_at {X : Mem} {c a k : Nat} (hk : k < fN c) : (fsOf X c a)[k]? = some (if fR c k then va_rf (mR X (100 * c + k) a) else .int (mI X (100 * c + k) a)) := by
  simp [fsOf, hk]
theorem up2_ne {α : Type} {f : Nat → Nat → α} {k a j b : Nat} {v : α} (h : b ≠ a) : up2 f k a v j b = f j b := by simp [up2, h]
theorem up2_nk {α : Type} {f : Nat → Nat → α} {k a j b : Nat} {v : α} (h : j ≠ k) : up2 f k a v j b = f j b := by simp [up2, h]
theorem up2_eq {α : Type} {f : Nat → Nat → α} {k a : Nat} {v : α} : up2 f k a v k a = v := by simp [up2]
theorem fs_wI_ne {X : Mem} {f a b c : Nat} {v : Int32} (h : b ≠ a) : fsOf (wI X f a v) c b = fsOf X c b := by
  unfold fsOf
  refine List.map_congr_left fun k _ => ?_
  show (if fR c k then va_rf (mR X _ b) else .int (up2 (mI X) f a v _ b)) = _
  rw [up2_ne h]
theorem fs_wR_ne {X : Mem} {f a b c : Nat} {v : Option Nat} (h : b ≠ a) : fsOf (wR X f a v) c b = fsOf X c b := by
  unfold fsOf
  refine List.map_congr_left fun k _ => ?_
  show (if fR c k then va_rf (up2 (mR X) f a v _ b) else .int (mI X _ b)) = _
  rw [up2_ne h]
theorem fs_wI_eq {X : Mem} {a c k : Nat} {v : Int32} (hr : fR c k = false) : fsOf (wI X (100 * c + k) a v) c a = (fsOf X c a).set k (.int v) := by
  refine List.ext_getElem? fun j => ?_
  rw [List.getElem?_set]
  by_cases hj : j < fN c
  · rw [fs_at hj]
    by_cases e : k = j
    · subst e
      rw [if_pos rfl, if_pos (show k < (fsOf X c a).length by rw [fs_len]; exact hj), hr]
      show some (Value.int (up2 (mI X) _ a v _ a)) = _
      rw [up2_eq]
    · rw [if_neg e, fs_at hj]
      show some (if fR c j then va_rf (mR X _ a) else Value.int (up2 (mI X) _ a v _ a)) = _
      rw [up2_nk (by omega)]
  · have h1 : (fsOf (wI X (100 * c + k) a v) c a)[j]? = none := List.getElem?_eq_none (by rw [fs_len]; omega)
    have h2 : (fsOf X c a)[j]? = none := List.getElem?_eq_none (by rw [fs_len]; omega)
    rw [h1, h2]
    by_cases e : k = j
    · rw [if_pos e, if_neg (by rw [fs_len]; omega)]
    · rw [if_neg e]
theorem fs_wR_eq {X : Mem} {a c k : Nat} {v : Option Nat} (hr : fR c k = true) : fsOf (wR X (100 * c + k) a v) c a = (fsOf X c a).set k (va_rf v) := by
  refine List.ext_getElem? fun j => ?_
  rw [List.getElem?_set]
  by_cases hj : j < fN c
  · rw [fs_at hj]
    by_cases e : k = j
    · subst e
      rw [if_pos rfl, if_pos (show k < (fsOf X c a).length by rw [fs_len]; exact hj), hr]
      show some (va_rf (up2 (mR X) _ a v _ a)) = _
      rw [up2_eq]
    · rw [if_neg e, fs_at hj]
      show some (if fR c j then va_rf (up2 (mR X) _ a v _ a) else Value.int (mI X _ a)) = _
      rw [up2_nk (by omega)]
  · have h1 : (fsOf (wR X (100 * c + k) a v) c a)[j]? = none := List.getElem?_eq_none (by rw [fs_len]; omega)
    have h2 : (fsOf X c a)[j]? = none := List.getElem?_eq_none (by rw [fs_len]; omega)
    rw [h1, h2]
    by_cases e : k = j
    · rw [if_pos e, if_neg (by rw [fs_len]; omega)]
    · rw [if_neg e]
theorem RepM.objAt {D : DD} {X : Mem} {H : Heap} (h : RepM D X H) {a c n : Nat} (hk : mK X a = some (c, n)) (hc : c < 13) : va_at (D.1, D.2.1) vwCl (a, .inr (c, fsOf X c a)) H := by
  have h1 := (h.1 a c n hk).2
  unfold cellOf at h1
  rw [if_pos hc] at h1
  exact h1
theorem RepM.arrI {D : DD} {X : Mem} {H : Heap} (h : RepM D X H) {a t n : Nat} (hk : mK X a = some (20 + t, n)) (ht : t < 2) : H[a]? = some (vp_cell (D.2.2 t) (n, .inl (aI X a))) := by
  have h1 := (h.1 a _ n hk).2
  unfold cellOf at h1
  rw [if_neg (by omega), if_pos (by omega), show 20 + t - 20 = t by omega] at h1
  exact h1
theorem RepM.arrJ {D : DD} {X : Mem} {H : Heap} (h : RepM D X H) {a n : Nat} (hk : mK X a = some (22, n)) : H[a]? = some (vp_cell (D.2.2 2) (n, .inr (.inl (aJ X a)))) := (h.1 a _ n hk).2
theorem RepM.arrR {D : DD} {X : Mem} {H : Heap} (h : RepM D X H) {a t n : Nat} (hk : mK X a = some (20 + t, n)) (h3 : 3 ≤ t) : H[a]? = some (vp_cell (D.2.2 t) (n, .inr (.inr (.inr (.inr (aR X a)))))) := by
  have h1 := (h.1 a _ n hk).2
  unfold cellOf at h1
  rw [if_neg (by omega), if_neg (by omega), if_neg (by omega), show 20 + t - 20 = t by omega] at h1
  exact h1
/-- what is not at a has not moved, at a is the new cell -/
theorem RepM.moved {D : DD} {X X' : Mem} {H H1 : Heap} (h : RepM D X H) {a : Nat} (hk : mK X' = mK X) (hz : mZ X' = mZ X) (hne : ∀ b c n, b ≠ a → cellOf D X' b c n = cellOf D X b c n) (hat : ∀ c n, mK X a = some (c, n) → va_at (D.1, D.2.1) vwCl (a, cellOf D X' a c n) H1) (z : H1.size = H.size) (oq : ∀ q, q ≠ a → H1[q]? = H[q]?) : RepM D X' H1 := by
  refine ⟨fun b c n hb => ?_, by rw [hz, z]; exact h.2⟩
  rw [hk] at hb
  refine ⟨(h.1 b c n hb).1, ?_⟩
  by_cases e : b = a
  · subst e
    exact hat c n hb
  · rw [hne b c n e]
    exact (h.1 b c n hb).2.kept (oq b e)
theorem P1 {D : va_G} {q : Nat × va_E} {H : Heap} (h : va_at D vwCl q H) : va_P D vwCl [q] H := by
  intro k x hx
  match k, hx with
  | 0, hx => cases hx; exact h
  | k + 1, hx => simp at hx
theorem AK.ty {D : DD} {s : State} (h : AK D s) (t : Nat) (ht : t < 7) : ArrOfT s (D.2.2 t) (arT t) ∧ va_RA s (D.2.2 t) (arT t) := h.1.2 t (D.2.2 t, arT t) (by simp [tysOf, ht])
theorem tys_at {D : DD} {t : Nat} (ht : t < 7) : (tysOf D)[t]? = some (D.2.2 t, arT t) := by simp [tysOf, ht]
section GH
variable {D : DD} {A0 : Nat → Prop} {ev : EV} {Q : State → Prop} {X : Mem} {cs sl pc : Nat} {L : List (Nat × TV)} {st : List TV} {own nm : String} {cc : ByteArray} {nL : Nat} {ret : Option FieldType} {rm : Room}
theorem g_getI (c k : Nat) {a n index : Nat} (B : Amb D A0 ev own nm cc nL ret rm) (hk : mK X a = some (c, n)) (hc : c < 13) (hf : k < fN c) (hr : fR c k = false) (lk : Cond.fieldLink own index (clT c k).1 (clT c k).2.1 (clT c k).2.2.1 ∈ gd) (d : decode cc pc = .ok (.getfield index, 3)) (k9 : Gd D A0 ev Q X cs sl (pc + 3) L (vI (mI X (100 * c + k) a) :: st)) : Gd D A0 ev Q X cs sl pc L (vA (some a) :: st) := by
  obtain ⟨p, l, e9, R, s, m, args, below, meth, c9⟩ := ev
  intro H locs ls hR hA hS hl
  obtain ⟨o1, o2, o3, o4, o5⟩ := clsOK c hc
  exact va_get (ws := [(a, .inr (c, fsOf X c a))]) (Ts := gd) (a := a) B.1 B.2.1 (fun w hw => B.2.2.2.2.1.w hw) o2 B.2.2.2.1 B.2.2.2.2.1.1 (P1 (hR.objAt hk hc)) 0 rfl o1 k hf (B.2.2.2.2.1.w lk) (fun x hx => hx) (by rw [fs_at hf, hr]; rfl) d (k9 H locs ls hR hA hS hl)
theorem g_getR (c k : Nat) {a n index : Nat} (B : Amb D A0 ev own nm cc nL ret rm) (hk : mK X a = some (c, n)) (hc : c < 13) (hf : k < fN c) (hr : fR c k = true) (lk : Cond.fieldLink own index (clT c k).1 (clT c k).2.1 (clT c k).2.2.1 ∈ gd) (d : decode cc pc = .ok (.getfield index, 3)) (k9 : Gd D A0 ev Q X cs sl (pc + 3) L (vA (mR X (100 * c + k) a) :: st)) : Gd D A0 ev Q X cs sl pc L (vA (some a) :: st) := by
  obtain ⟨p, l, e9, R, s, m, args, below, meth, c9⟩ := ev
  intro H locs ls hR hA hS hl
  obtain ⟨o1, o2, o3, o4, o5⟩ := clsOK c hc
  exact va_get (ws := [(a, .inr (c, fsOf X c a))]) (Ts := gd) (a := a) B.1 B.2.1 (fun w hw => B.2.2.2.2.1.w hw) o2 B.2.2.2.1 B.2.2.2.2.1.1 (P1 (hR.objAt hk hc)) 0 rfl o1 k hf (B.2.2.2.2.1.w lk) (fun x hx => hx) (by rw [fs_at hf, hr]; rfl) d (k9 H locs ls hR hA hS hl)
theorem g_getIN (c k : Nat) {a n index : Nat} {host : String} (B : Amb D A0 ev own nm cc nL ret rm) (hk : mK X a = some (c, n)) (hc : c < 13) (hf : k < fN c) (hr : fR c k = false) (lk : Cond.fieldLinkNest own index (clT c k).1 (clT c k).2.1 (clT c k).2.2.1 host ∈ nestW) (d : decode cc pc = .ok (.getfield index, 3)) (k9 : Gd D A0 ev Q X cs sl (pc + 3) L (vI (mI X (100 * c + k) a) :: st)) : Gd D A0 ev Q X cs sl pc L (vA (some a) :: st) := by
  obtain ⟨p, l, e9, R, s, m, args, below, meth, c9⟩ := ev
  intro H locs ls hR hA hS hl
  obtain ⟨o1, o2, o3, o4, o5⟩ := clsOK c hc
  exact va_getN (ws := [(a, .inr (c, fsOf X c a))]) (Ts := gd) (a := a) B.1 B.2.1 (fun w hw => B.2.2.2.2.1.w hw) o2 B.2.2.2.1 B.2.2.2.2.1.1 (P1 (hR.objAt hk hc)) 0 rfl o1 k hf (va_Nw.use rfl (B.2.2.2.2.1.2.2.1 _ lk)) (fun x hx => hx) (by rw [fs_at hf, hr]; rfl) d (k9 H locs ls hR hA hS hl)
theorem g_getRN (c k : Nat) {a n index : Nat} {host : String} (B : Amb D A0 ev own nm cc nL ret rm) (hk : mK X a = some (c, n)) (hc : c < 13) (hf : k < fN c) (hr : fR c k = true) (lk : Cond.fieldLinkNest own index (clT c k).1 (clT c k).2.1 (clT c k).2.2.1 host ∈ nestW) (d : decode cc pc = .ok (.getfield index, 3)) (k9 : Gd D A0 ev Q X cs sl (pc + 3) L (vA (mR X (100 * c + k) a) :: st)) : Gd D A0 ev Q X cs sl pc L (vA (some a) :: st) := by
  obtain ⟨p, l, e9, R, s, m, args, below, meth, c9⟩ := ev
  intro H locs ls hR hA hS hl
  obtain ⟨o1, o2, o3, o4, o5⟩ := clsOK c hc
  exact va_getN (ws := [(a, .inr (c, fsOf X c a))]) (Ts := gd) (a := a) B.1 B.2.1 (fun w hw => B.2.2.2.2.1.w hw) o2 B.2.2.2.1 B.2.2.2.2.1.1 (P1 (hR.objAt hk hc)) 0 rfl o1 k hf (va_Nw.use rfl (B.2.2.2.2.1.2.2.1 _ lk)) (fun x hx => hx) (by rw [fs_at hf, hr]; rfl) d (k9 H locs ls hR hA hS hl)
theorem W_put {p : Program} {l : Launch} {e : Env} {R : Room} {s : State} {m : MethodId} {args : Array Value} {below : List Frame} {meth : Method} {c9 : Code} {H : Heap} {locs : List Loc} {ls : Array Slot} {rest : List Value} (hexec : p.tables.exec = Jvm.exec) (hb : c9.code = cc) (hown : s.vm.findClass own = some m.cls) (hAK : AK D s) {a c k index : Nat} {fs : List Value} {v : Value} (hc : c < 13) (hf : k < fN c) (hlen : fs.length = fN c) (hat : va_at (D.1, D.2.1) vwCl (a, .inr (c, fs)) H) (hlink : (Cond.fieldLink own index (clT c k).1 (clT c k).2.1 (clT c k).2.2.1).before args s = true) (hfin : (clT c k).2.2.2 = false) (hn : narrow (tyOf c k) v = v) (hfit : fits (tyOf c k) v = true) (hdg : decode cc pc = .ok (.putfield index, 3))
    (kk : ∀ (H1 : Heap) (sl9 : Nat), va_at (D.1, D.2.1) vwCl (a, .inr (c, fs.set k v)) H1 → H1.size = H.size → (∀ q, q ≠ a → H1[q]? = H[q]?) → W p l e R s m args below meth c9 H1 (locs ++ [⟨a, sl9⟩]) cs sl Q (F0 m (pc + 3) ls rest)) : W p l e R s m args below meth c9 H locs cs sl Q (F0 m pc ls (v :: .ref a :: rest)) := by
  obtain ⟨o1, o2, o3, o4, o5⟩ := clsOK c hc
  have hd := o4 k hf
  have hts : ∀ w ∈ gd, w.before args s = true := fun w hw => hAK.w hw
  have hK := hAK.1
  have hap := va_apart (own := own) hts o2 (tyOf c) o4 o3 hK o1
  obtain ⟨r, h1, cell, q1, q2, q3, q4⟩ := hat
  have hr : r = (clC c, clT c, fN c) := Option.some.inj (h1.symm.trans o1)
  subst hr
  obtain ⟨hS, hfc, kC, hkC, hkind⟩ := hK.1 c _ o1
  obtain ⟨cf, kf, fi, f, hi, hsl⟩ := hS k hf
  have hlay := (hAK.2.1 _ (o2 _ (u_in_lay hf))) args
  unfold u_lay at hlay
  rw [if_neg (by rw [hfin]; decide)] at hlay
  have hst := (u_facts hfc hkC (u_lays hts o2 hf) hi).1
  have h6 := u_store hfc hkC hkind hlay hi hd hn hfit
  refine W.putK hexec hb (f := f) ⟨hown, hlink, ⟨_, _, _, hi⟩, hst⟩ (by rw [q2]; exact h6) q1 q3 (by rw [hsl]; exact k2_hasslot (q4 k hf)) rfl rfl hdg fun H' e1 e2 e3 => ?_
  rw [hsl] at e1 ⊢
  exact kk H' _ ⟨_, o1, t_OB.to (V := updV (vp_V fs) k v) ⟨_, e1, q2, q3, t_set q4 hap hf v⟩ (fun j _ => vp_updV_set (by rw [hlen]; exact hf) v j)⟩ e2 e3
theorem W_putN {p : Program} {l : Launch} {e : Env} {R : Room} {s : State} {m : MethodId} {args : Array Value} {below : List Frame} {meth : Method} {c9 : Code} {H : Heap} {locs : List Loc} {ls : Array Slot} {rest : List Value} (hexec : p.tables.exec = Jvm.exec) (hb : c9.code = cc) (hown : s.vm.findClass own = some m.cls) (hAK : AK D s) {a c k index : Nat} {host : String} {fs : List Value} {v : Value} (hc : c < 13) (hf : k < fN c) (hlen : fs.length = fN c) (hat : va_at (D.1, D.2.1) vwCl (a, .inr (c, fs)) H) (hlink : (Cond.fieldLinkNest own index (clT c k).1 (clT c k).2.1 (clT c k).2.2.1 host).before args s = true) (hfin : (clT c k).2.2.2 = false) (hn : narrow (tyOf c k) v = v) (hfit : fits (tyOf c k) v = true) (hdg : decode cc pc = .ok (.putfield index, 3))
    (kk : ∀ (H1 : Heap) (sl9 : Nat), va_at (D.1, D.2.1) vwCl (a, .inr (c, fs.set k v)) H1 → H1.size = H.size → (∀ q, q ≠ a → H1[q]? = H[q]?) → W p l e R s m args below meth c9 H1 (locs ++ [⟨a, sl9⟩]) cs sl Q (F0 m (pc + 3) ls rest)) : W p l e R s m args below meth c9 H locs cs sl Q (F0 m pc ls (v :: .ref a :: rest)) := by
  obtain ⟨o1, o2, o3, o4, o5⟩ := clsOK c hc
  have hd := o4 k hf
  have hts : ∀ w ∈ gd, w.before args s = true := fun w hw => hAK.w hw
  have hK := hAK.1
  have hap := va_apart (own := own) hts o2 (tyOf c) o4 o3 hK o1
  obtain ⟨r, h1, cell, q1, q2, q3, q4⟩ := hat
  have hr : r = (clC c, clT c, fN c) := Option.some.inj (h1.symm.trans o1)
  subst hr
  obtain ⟨hS, hfc, kC, hkC, hkind⟩ := hK.1 c _ o1
  obtain ⟨cf, kf, fi, f, hi, hsl⟩ := hS k hf
  have hlay := (hAK.2.1 _ (o2 _ (u_in_lay hf))) args
  unfold u_lay at hlay
  rw [if_neg (by rw [hfin]; decide)] at hlay
  have hst := (u_facts hfc hkC (u_lays hts o2 hf) hi).1
  have h6 := u_store hfc hkC hkind hlay hi hd hn hfit
  refine va_WputK hexec hb (f := f) hown hlink hi hst (by rw [q2]; exact h6) q1 q3 (by rw [hsl]; exact k2_hasslot (q4 k hf)) rfl rfl hdg fun H' e1 e2 e3 => ?_
  rw [hsl] at e1 ⊢
  exact kk H' _ ⟨_, o1, t_OB.to (V := updV (vp_V fs) k v) ⟨_, e1, q2, q3, t_set q4 hap hf v⟩ (fun j _ => vp_updV_set (by rw [hlen]; exact hf) v j)⟩ e2 e3
theorem W_putF {p : Program} {l : Launch} {e : Env} {R : Room} {s : State} {m : MethodId} {args : Array Value} {below : List Frame} {meth : Method} {c9 : Code} {H : Heap} {locs : List Loc} {ls : Array Slot} {rest : List Value} (hexec : p.tables.exec = Jvm.exec) (hb : c9.code = cc) (hown : s.vm.findClass own = some m.cls) (hAK : AK D s) {a c k index : Nat} {fs : List Value} {v : Value} (hc : c < 13) (hf : k < fN c) (hlen : fs.length = fN c) (hat : va_at (D.1, D.2.1) vwCl (a, .inr (c, fs)) H) (hlink : (Cond.fieldLink own index (clT c k).1 (clT c k).2.1 (clT c k).2.2.1).before args s = true) (hfin : (clT c k).2.2.2 = true) (hin2 : meth.name = "<init>") (hdecl : (clT c k).1 = own) (hn : narrow (tyOf c k) v = v) (hfit : fits (tyOf c k) v = true) (hdg : decode cc pc = .ok (.putfield index, 3))
    (kk : ∀ (H1 : Heap) (sl9 : Nat), va_at (D.1, D.2.1) vwCl (a, .inr (c, fs.set k v)) H1 → H1.size = H.size → (∀ q, q ≠ a → H1[q]? = H[q]?) → W p l e R s m args below meth c9 H1 (locs ++ [⟨a, sl9⟩]) cs sl Q (F0 m (pc + 3) ls rest)) : W p l e R s m args below meth c9 H locs cs sl Q (F0 m pc ls (v :: .ref a :: rest)) := by
  obtain ⟨o1, o2, o3, o4, o5⟩ := clsOK c hc
  have hd := o4 k hf
  have hts : ∀ w ∈ gd, w.before args s = true := fun w hw => hAK.w hw
  have hK := hAK.1
  have hap := va_apart (own := own) hts o2 (tyOf c) o4 o3 hK o1
  obtain ⟨r, h1, cell, q1, q2, q3, q4⟩ := hat
  have hr : r = (clC c, clT c, fN c) := Option.some.inj (h1.symm.trans o1)
  subst hr
  obtain ⟨hS, hfc, kC, hkC, hkind⟩ := hK.1 c _ o1
  obtain ⟨cf, kf, fi, f, hi, hsl⟩ := hS k hf
  have hlay := (hAK.2.1 _ (o2 _ (u_in_lay hf))) args
  unfold u_lay at hlay
  rw [if_pos hfin] at hlay
  have hst := (u_facts hfc hkC (u_lays hts o2 hf) hi).1
  have hcf : m.cls = cf := by
    obtain ⟨_, _, c', _, _, _, -, -, hf', -, -, -, hown2, -⟩ := Cond.laysFinal_spec hlay
    have e1 : c' = cf := by have := hi.symm.trans hf'; simp at this; exact this.1.symm
    rw [hdecl] at hown2
    rw [← e1]; exact Option.some.inj (hown.symm.trans hown2)
  have h6 := u_fits hfc hkC hkind (Or.inr hlay) hi hd hn hfit
  refine W.putFinK hexec hb hown hlink hi hst hcf hin2 (by rw [q2]; exact h6) q1 q3 (by rw [hsl]; exact k2_hasslot (q4 k hf)) rfl rfl hdg fun H' e1 e2 e3 => ?_
  rw [hsl] at e1 ⊢
  exact kk H' _ ⟨_, o1, t_OB.to (V := updV (vp_V fs) k v) ⟨_, e1, q2, q3, t_set q4 hap hf v⟩ (fun j _ => vp_updV_set (by rw [hlen]; exact hf) v j)⟩ e2 e3
theorem nar_I {x : Int32} : narrow .int (.int x) = .int x ∧ fits .int (.int x) = true := ⟨rfl, rfl⟩
theorem nar_Z {x : Int32} (h : x = 0 ∨ x = 1) : narrow .boolean (.int x) = .int x ∧ fits .boolean (.int x) = true := by
  rcases h with rfl | rfl <;> exact ⟨by decide +kernel, by decide +kernel⟩
theorem nar_R {c k : Nat} {v : Option Nat} (h : fR c k = true) : narrow (tyOf c k) (va_rf v) = va_rf v ∧ fits (tyOf c k) (va_rf v) = true := by
  unfold fR at h
  cases hty : tyOf c k <;> rw [hty] at h <;> first | exact absurd h (by decide) | (cases v <;> exact ⟨rfl, rfl⟩)
theorem cellOf_wI {X : Mem} {f a b c n : Nat} {v : Int32} (h : b ≠ a) : cellOf D (wI X f a v) b c n = cellOf D X b c n := by
  unfold cellOf
  rw [fs_wI_ne h]
  rfl
theorem cellOf_wR {X : Mem} {f a b c n : Nat} {v : Option Nat} (h : b ≠ a) : cellOf D (wR X f a v) b c n = cellOf D X b c n := by
  unfold cellOf
  rw [fs_wR_ne h]
  rfl
theorem A_put {A : Nat → Prop} {H0 H H1 : Heap} {locs : List Loc} {a k : Nat} (h : va_S A H0 H locs) (z : H1.size = H.size) (oq : ∀ q : Nat, q ≠ a → H1[q]? = H[q]?) (ha : A a) : va_S A H0 H1 (locs ++ [⟨a, k⟩]) := h.put z oq ha
theorem g_putI (c k : Nat) {a n index : Nat} {v : Int32} (B : Amb D A0 ev own nm cc nL ret rm) (hk : mK X a = some (c, n)) (hc : c < 13) (hf : k < fN c) (hy : tyOf c k = .int) (hfin : (clT c k).2.2.2 = false) (lk : Cond.fieldLink own index (clT c k).1 (clT c k).2.1 (clT c k).2.2.1 ∈ gd) (d : decode cc pc = .ok (.putfield index, 3)) (k9 : Gd D A0 ev Q (wI X (100 * c + k) a v) cs sl (pc + 3) L st) : Gd D A0 ev Q X cs sl pc L (vI v :: vA (some a) :: st) := by
  obtain ⟨p, l, e9, R, s, m, args, below, meth, c9⟩ := ev
  intro H locs ls hR hA hS hl
  have hrv : fR c k = false := (by unfold fR; rw [hy])
  refine W_put B.1 B.2.1 B.2.2.2.1 B.2.2.2.2.1 hc hf fs_len (hR.objAt hk hc) (B.2.2.2.2.1.w lk) hfin (by rw [hy]; exact nar_I.1) (by rw [hy]; exact nar_I.2) d (fun H1 sl9 e1 z oq => ?_)
  refine k9 H1 _ ls (hR.moved (a := a) rfl rfl (fun b c8 n8 hb => cellOf_wI hb) (fun c8 n8 h8 => ?_) z oq) hA (hS.put z oq (hA a (by rw [hk]; exact fun z9 => nomatch z9))) hl
  rw [hk] at h8
  cases h8
  unfold cellOf
  rw [if_pos hc, fs_wI_eq hrv]
  exact e1
theorem g_putZ (c k : Nat) {a n index : Nat} {v : Int32} (B : Amb D A0 ev own nm cc nL ret rm) (hk : mK X a = some (c, n)) (hc : c < 13) (hf : k < fN c) (hy : tyOf c k = .boolean) (hv : v = 0 ∨ v = 1) (hfin : (clT c k).2.2.2 = false) (lk : Cond.fieldLink own index (clT c k).1 (clT c k).2.1 (clT c k).2.2.1 ∈ gd) (d : decode cc pc = .ok (.putfield index, 3)) (k9 : Gd D A0 ev Q (wI X (100 * c + k) a v) cs sl (pc + 3) L st) : Gd D A0 ev Q X cs sl pc L (vI v :: vA (some a) :: st) := by
  obtain ⟨p, l, e9, R, s, m, args, below, meth, c9⟩ := ev
  intro H locs ls hR hA hS hl
  have hrv : fR c k = false := (by unfold fR; rw [hy])
  refine W_put B.1 B.2.1 B.2.2.2.1 B.2.2.2.2.1 hc hf fs_len (hR.objAt hk hc) (B.2.2.2.2.1.w lk) hfin (by rw [hy]; exact (nar_Z hv).1) (by rw [hy]; exact (nar_Z hv).2) d (fun H1 sl9 e1 z oq => ?_)
  refine k9 H1 _ ls (hR.moved (a := a) rfl rfl (fun b c8 n8 hb => cellOf_wI hb) (fun c8 n8 h8 => ?_) z oq) hA (hS.put z oq (hA a (by rw [hk]; exact fun z9 => nomatch z9))) hl
  rw [hk] at h8
  cases h8
  unfold cellOf
  rw [if_pos hc, fs_wI_eq hrv]
  exact e1
theorem g_putR (c k : Nat) {a n index : Nat} {v : Option Nat} (B : Amb D A0 ev own nm cc nL ret rm) (hk : mK X a = some (c, n)) (hc : c < 13) (hf : k < fN c) (hr : fR c k = true) (hfin : (clT c k).2.2.2 = false) (lk : Cond.fieldLink own index (clT c k).1 (clT c k).2.1 (clT c k).2.2.1 ∈ gd) (d : decode cc pc = .ok (.putfield index, 3)) (k9 : Gd D A0 ev Q (wR X (100 * c + k) a v) cs sl (pc + 3) L st) : Gd D A0 ev Q X cs sl pc L (vA v :: vA (some a) :: st) := by
  obtain ⟨p, l, e9, R, s, m, args, below, meth, c9⟩ := ev
  intro H locs ls hR hA hS hl
  have hrv : fR c k = true := hr
  refine W_put B.1 B.2.1 B.2.2.2.1 B.2.2.2.2.1 hc hf fs_len (hR.objAt hk hc) (B.2.2.2.2.1.w lk) hfin (nar_R hr).1 (nar_R hr).2 d (fun H1 sl9 e1 z oq => ?_)
  refine k9 H1 _ ls (hR.moved (a := a) rfl rfl (fun b c8 n8 hb => cellOf_wR hb) (fun c8 n8 h8 => ?_) z oq) hA (hS.put z oq (hA a (by rw [hk]; exact fun z9 => nomatch z9))) hl
  rw [hk] at h8
  cases h8
  unfold cellOf
  rw [if_pos hc, fs_wR_eq hrv]
  exact e1
theorem g_putIN (c k : Nat) {a n index : Nat} {v : Int32} {host : String} (B : Amb D A0 ev own nm cc nL ret rm) (hk : mK X a = some (c, n)) (hc : c < 13) (hf : k < fN c) (hy : tyOf c k = .int) (hfin : (clT c k).2.2.2 = false) (lk : Cond.fieldLinkNest own index (clT c k).1 (clT c k).2.1 (clT c k).2.2.1 host ∈ nestW) (d : decode cc pc = .ok (.putfield index, 3)) (k9 : Gd D A0 ev Q (wI X (100 * c + k) a v) cs sl (pc + 3) L st) : Gd D A0 ev Q X cs sl pc L (vI v :: vA (some a) :: st) := by
  obtain ⟨p, l, e9, R, s, m, args, below, meth, c9⟩ := ev
  intro H locs ls hR hA hS hl
  have hrv : fR c k = false := (by unfold fR; rw [hy])
  refine W_putN B.1 B.2.1 B.2.2.2.1 B.2.2.2.2.1 hc hf fs_len (hR.objAt hk hc) (va_Nw.use rfl (B.2.2.2.2.1.2.2.1 _ lk)) hfin (by rw [hy]; exact nar_I.1) (by rw [hy]; exact nar_I.2) d (fun H1 sl9 e1 z oq => ?_)
  refine k9 H1 _ ls (hR.moved (a := a) rfl rfl (fun b c8 n8 hb => cellOf_wI hb) (fun c8 n8 h8 => ?_) z oq) hA (hS.put z oq (hA a (by rw [hk]; exact fun z9 => nomatch z9))) hl
  rw [hk] at h8
  cases h8
  unfold cellOf
  rw [if_pos hc, fs_wI_eq hrv]
  exact e1
theorem g_putZN (c k : Nat) {a n index : Nat} {v : Int32} {host : String} (B : Amb D A0 ev own nm cc nL ret rm) (hk : mK X a = some (c, n)) (hc : c < 13) (hf : k < fN c) (hy : tyOf c k = .boolean) (hv : v = 0 ∨ v = 1) (hfin : (clT c k).2.2.2 = false) (lk : Cond.fieldLinkNest own index (clT c k).1 (clT c k).2.1 (clT c k).2.2.1 host ∈ nestW) (d : decode cc pc = .ok (.putfield index, 3)) (k9 : Gd D A0 ev Q (wI X (100 * c + k) a v) cs sl (pc + 3) L st) : Gd D A0 ev Q X cs sl pc L (vI v :: vA (some a) :: st) := by
  obtain ⟨p, l, e9, R, s, m, args, below, meth, c9⟩ := ev
  intro H locs ls hR hA hS hl
  have hrv : fR c k = false := (by unfold fR; rw [hy])
  refine W_putN B.1 B.2.1 B.2.2.2.1 B.2.2.2.2.1 hc hf fs_len (hR.objAt hk hc) (va_Nw.use rfl (B.2.2.2.2.1.2.2.1 _ lk)) hfin (by rw [hy]; exact (nar_Z hv).1) (by rw [hy]; exact (nar_Z hv).2) d (fun H1 sl9 e1 z oq => ?_)
  refine k9 H1 _ ls (hR.moved (a := a) rfl rfl (fun b c8 n8 hb => cellOf_wI hb) (fun c8 n8 h8 => ?_) z oq) hA (hS.put z oq (hA a (by rw [hk]; exact fun z9 => nomatch z9))) hl
  rw [hk] at h8
  cases h8
  unfold cellOf
  rw [if_pos hc, fs_wI_eq hrv]
  exact e1
theorem g_putRN (c k : Nat) {a n index : Nat} {v : Option Nat} {host : String} (B : Amb D A0 ev own nm cc nL ret rm) (hk : mK X a = some (c, n)) (hc : c < 13) (hf : k < fN c) (hr : fR c k = true) (hfin : (clT c k).2.2.2 = false) (lk : Cond.fieldLinkNest own index (clT c k).1 (clT c k).2.1 (clT c k).2.2.1 host ∈ nestW) (d : decode cc pc = .ok (.putfield index, 3)) (k9 : Gd D A0 ev Q (wR X (100 * c + k) a v) cs sl (pc + 3) L st) : Gd D A0 ev Q X cs sl pc L (vA v :: vA (some a) :: st) := by
  obtain ⟨p, l, e9, R, s, m, args, below, meth, c9⟩ := ev
  intro H locs ls hR hA hS hl
  have hrv : fR c k = true := hr
  refine W_putN B.1 B.2.1 B.2.2.2.1 B.2.2.2.2.1 hc hf fs_len (hR.objAt hk hc) (va_Nw.use rfl (B.2.2.2.2.1.2.2.1 _ lk)) hfin (nar_R hr).1 (nar_R hr).2 d (fun H1 sl9 e1 z oq => ?_)
  refine k9 H1 _ ls (hR.moved (a := a) rfl rfl (fun b c8 n8 hb => cellOf_wR hb) (fun c8 n8 h8 => ?_) z oq) hA (hS.put z oq (hA a (by rw [hk]; exact fun z9 => nomatch z9))) hl
  rw [hk] at h8
  cases h8
  unfold cellOf
  rw [if_pos hc, fs_wR_eq hrv]
  exact e1
theorem g_putIF (c k : Nat) {a n index : Nat} {v : Int32} (B : Amb D A0 ev own nm cc nL ret rm) (hk : mK X a = some (c, n)) (hc : c < 13) (hf : k < fN c) (hy : tyOf c k = .int) (hfin : (clT c k).2.2.2 = true) (hnm : nm = "<init>") (hdecl : (clT c k).1 = own) (lk : Cond.fieldLink own index (clT c k).1 (clT c k).2.1 (clT c k).2.2.1 ∈ gd) (d : decode cc pc = .ok (.putfield index, 3)) (k9 : Gd D A0 ev Q (wI X (100 * c + k) a v) cs sl (pc + 3) L st) : Gd D A0 ev Q X cs sl pc L (vI v :: vA (some a) :: st) := by
  obtain ⟨p, l, e9, R, s, m, args, below, meth, c9⟩ := ev
  intro H locs ls hR hA hS hl
  have hrv : fR c k = false := (by unfold fR; rw [hy])
  refine W_putF B.1 B.2.1 B.2.2.2.1 B.2.2.2.2.1 hc hf fs_len (hR.objAt hk hc) (B.2.2.2.2.1.w lk) hfin (B.2.2.2.2.2.2.2.2.2.2.2.trans hnm) hdecl (by rw [hy]; exact nar_I.1) (by rw [hy]; exact nar_I.2) d (fun H1 sl9 e1 z oq => ?_)
  refine k9 H1 _ ls (hR.moved (a := a) rfl rfl (fun b c8 n8 hb => cellOf_wI hb) (fun c8 n8 h8 => ?_) z oq) hA (hS.put z oq (hA a (by rw [hk]; exact fun z9 => nomatch z9))) hl
  rw [hk] at h8
  cases h8
  unfold cellOf
  rw [if_pos hc, fs_wI_eq hrv]
  exact e1
theorem g_putZF (c k : Nat) {a n index : Nat} {v : Int32} (B : Amb D A0 ev own nm cc nL ret rm) (hk : mK X a = some (c, n)) (hc : c < 13) (hf : k < fN c) (hy : tyOf c k = .boolean) (hv : v = 0 ∨ v = 1) (hfin : (clT c k).2.2.2 = true) (hnm : nm = "<init>") (hdecl : (clT c k).1 = own) (lk : Cond.fieldLink own index (clT c k).1 (clT c k).2.1 (clT c k).2.2.1 ∈ gd) (d : decode cc pc = .ok (.putfield index, 3)) (k9 : Gd D A0 ev Q (wI X (100 * c + k) a v) cs sl (pc + 3) L st) : Gd D A0 ev Q X cs sl pc L (vI v :: vA (some a) :: st) := by
  obtain ⟨p, l, e9, R, s, m, args, below, meth, c9⟩ := ev
  intro H locs ls hR hA hS hl
  have hrv : fR c k = false := (by unfold fR; rw [hy])
  refine W_putF B.1 B.2.1 B.2.2.2.1 B.2.2.2.2.1 hc hf fs_len (hR.objAt hk hc) (B.2.2.2.2.1.w lk) hfin (B.2.2.2.2.2.2.2.2.2.2.2.trans hnm) hdecl (by rw [hy]; exact (nar_Z hv).1) (by rw [hy]; exact (nar_Z hv).2) d (fun H1 sl9 e1 z oq => ?_)
  refine k9 H1 _ ls (hR.moved (a := a) rfl rfl (fun b c8 n8 hb => cellOf_wI hb) (fun c8 n8 h8 => ?_) z oq) hA (hS.put z oq (hA a (by rw [hk]; exact fun z9 => nomatch z9))) hl
  rw [hk] at h8
  cases h8
  unfold cellOf
  rw [if_pos hc, fs_wI_eq hrv]
  exact e1
theorem g_putRF (c k : Nat) {a n index : Nat} {v : Option Nat} (B : Amb D A0 ev own nm cc nL ret rm) (hk : mK X a = some (c, n)) (hc : c < 13) (hf : k < fN c) (hr : fR c k = true) (hfin : (clT c k).2.2.2 = true) (hnm : nm = "<init>") (hdecl : (clT c k).1 = own) (lk : Cond.fieldLink own index (clT c k).1 (clT c k).2.1 (clT c k).2.2.1 ∈ gd) (d : decode cc pc = .ok (.putfield index, 3)) (k9 : Gd D A0 ev Q (wR X (100 * c + k) a v) cs sl (pc + 3) L st) : Gd D A0 ev Q X cs sl pc L (vA v :: vA (some a) :: st) := by
  obtain ⟨p, l, e9, R, s, m, args, below, meth, c9⟩ := ev
  intro H locs ls hR hA hS hl
  have hrv : fR c k = true := hr
  refine W_putF B.1 B.2.1 B.2.2.2.1 B.2.2.2.2.1 hc hf fs_len (hR.objAt hk hc) (B.2.2.2.2.1.w lk) hfin (B.2.2.2.2.2.2.2.2.2.2.2.trans hnm) hdecl (nar_R hr).1 (nar_R hr).2 d (fun H1 sl9 e1 z oq => ?_)
  refine k9 H1 _ ls (hR.moved (a := a) rfl rfl (fun b c8 n8 hb => cellOf_wR hb) (fun c8 n8 h8 => ?_) z oq) hA (hS.put z oq (hA a (by rw [hk]; exact fun z9 => nomatch z9))) hl
  rw [hk] at h8
  cases h8
  unfold cellOf
  rw [if_pos hc, fs_wR_eq hrv]
  exact e1
theorem tyA {t : Nat} (ht : t < 7) : (tysOf D)[t]? = some (D.2.2 t, arT t) := tys_at ht
theorem g_iald {a n : Nat} {i : Int32} (B : Amb D A0 ev own nm cc nL ret rm) (hk : mK X a = some (20, n)) (hin : vp_in i n) (d : decode cc pc = .ok (.iaload, 1)) (k9 : Gd D A0 ev Q X cs sl (pc + 1) L (vI (aI X a i.toNatClampNeg) :: st)) : Gd D A0 ev Q X cs sl pc L (vI i :: vA (some a) :: st) := by
  obtain ⟨p, l, e9, R, s, m, args, below, meth, c9⟩ := ev
  intro H locs ls hR hA hS hl
  exact va_iald (D := (D.1, D.2.1)) (cl := vwCl) (ws := [(a, .inl (D.2.2 0, n, .inl (aI X a)))]) B.1 B.2.1 B.2.2.2.2.1.1 (P1 (hR.arrI (t := 0) hk (by decide))) 0 0 rfl (tys_at (by decide)) hin d (k9 H locs ls hR hA hS hl)
theorem g_zald {a n : Nat} {i : Int32} (B : Amb D A0 ev own nm cc nL ret rm) (hk : mK X a = some (21, n)) (hin : vp_in i n) (d : decode cc pc = .ok (.baload, 1)) (k9 : Gd D A0 ev Q X cs sl (pc + 1) L (vI (aI X a i.toNatClampNeg) :: st)) : Gd D A0 ev Q X cs sl pc L (vI i :: vA (some a) :: st) := by
  obtain ⟨p, l, e9, R, s, m, args, below, meth, c9⟩ := ev
  intro H locs ls hR hA hS hl
  exact va_zald (D := (D.1, D.2.1)) (cl := vwCl) (ws := [(a, .inl (D.2.2 1, n, .inl (aI X a)))]) B.1 B.2.1 B.2.2.2.2.1.1 (P1 (hR.arrI (t := 1) hk (by decide))) 0 1 rfl (tys_at (by decide)) hin d (k9 H locs ls hR hA hS hl)
theorem g_lald {a n : Nat} {i : Int32} (B : Amb D A0 ev own nm cc nL ret rm) (hk : mK X a = some (22, n)) (hin : vp_in i n) (d : decode cc pc = .ok (.laload, 1)) (k9 : Gd D A0 ev Q X cs sl (pc + 1) L (vJ (aJ X a i.toNatClampNeg) :: st)) : Gd D A0 ev Q X cs sl pc L (vI i :: vA (some a) :: st) := by
  obtain ⟨p, l, e9, R, s, m, args, below, meth, c9⟩ := ev
  intro H locs ls hR hA hS hl
  exact va_lald (D := (D.1, D.2.1)) (cl := vwCl) (ws := [(a, .inl (D.2.2 2, n, .inr (.inl (aJ X a))))]) B.1 B.2.1 B.2.2.2.2.1.1 (P1 (hR.arrJ hk)) 0 2 rfl (tys_at (by decide)) hin d (k9 H locs ls hR hA hS hl)
theorem g_aald {a t n : Nat} {i : Int32} (B : Amb D A0 ev own nm cc nL ret rm) (hk : mK X a = some (20 + t, n)) (h3 : 3 ≤ t) (h7 : t < 7) (hin : vp_in i n) (d : decode cc pc = .ok (.aaload, 1)) (k9 : Gd D A0 ev Q X cs sl (pc + 1) L (vA (aR X a i.toNatClampNeg) :: st)) : Gd D A0 ev Q X cs sl pc L (vI i :: vA (some a) :: st) := by
  obtain ⟨p, l, e9, R, s, m, args, below, meth, c9⟩ := ev
  intro H locs ls hR hA hS hl
  obtain ⟨C, hC, -⟩ := B.2.2.2.2.1.2.2.2.2.2.2 t h3 h7
  exact va_aldq (C := C) (D := (D.1, D.2.1)) (cl := vwCl) (ws := [(a, .inl (D.2.2 t, n, .inr (.inr (.inr (.inr (aR X a))))))]) B.1 B.2.1 B.2.2.2.2.1.1 (P1 (hR.arrR hk h3)) 0 t rfl (by rw [tys_at h7, hC]) hin d (k9 H locs ls hR hA hS hl)
theorem g_alen {a t n : Nat} (B : Amb D A0 ev own nm cc nL ret rm) (hk : mK X a = some (20 + t, n)) (h7 : t < 7) (d : decode cc pc = .ok (.arraylength, 1)) (k9 : Gd D A0 ev Q X cs sl (pc + 1) L (vI (nI n) :: st)) : Gd D A0 ev Q X cs sl pc L (vA (some a) :: st) := by
  obtain ⟨p, l, e9, R, s, m, args, below, meth, c9⟩ := ev
  intro H locs ls hR hA hS hl
  have h9 := k9 H locs ls hR hA hS hl
  by_cases h2 : t < 2
  · exact va_alen (D := (D.1, D.2.1)) (cl := vwCl) (ws := [(a, .inl (D.2.2 t, n, .inl (aI X a)))]) B.1 B.2.1 B.2.2.2.2.1.1 (P1 (hR.arrI hk h2)) 0 t rfl (tys_at h7) rfl d h9
  · by_cases h3 : t = 2
    · subst h3
      exact va_alen (D := (D.1, D.2.1)) (cl := vwCl) (ws := [(a, .inl (D.2.2 2, n, .inr (.inl (aJ X a))))]) B.1 B.2.1 B.2.2.2.2.1.1 (P1 (hR.arrJ hk)) 0 2 rfl (tys_at h7) rfl d h9
    · exact va_alen (D := (D.1, D.2.1)) (cl := vwCl) (ws := [(a, .inl (D.2.2 t, n, .inr (.inr (.inr (.inr (aR X a))))))]) B.1 B.2.1 B.2.2.2.2.1.1 (P1 (hR.arrR hk (by omega))) 0 t rfl (tys_at h7) rfl d h9
theorem cellOf_sI {X : Mem} {f a b c n : Nat} {v : Int32} (h : b ≠ a) : cellOf D (sI X a f v) b c n = cellOf D X b c n := by
  have e : aI (sI X a f v) b = aI X b := funext fun i => by show up2 _ _ _ _ _ _ = _; exact up2_nk h
  unfold cellOf
  rw [e]
  rfl
theorem cellOf_sJ {X : Mem} {f a b c n : Nat} {v : Int64} (h : b ≠ a) : cellOf D (sJ X a f v) b c n = cellOf D X b c n := by
  have e : aJ (sJ X a f v) b = aJ X b := funext fun i => by show up2 _ _ _ _ _ _ = _; exact up2_nk h
  unfold cellOf
  rw [e]
  rfl
theorem cellOf_sR {X : Mem} {f a b c n : Nat} {v : Option Nat} (h : b ≠ a) : cellOf D (sR X a f v) b c n = cellOf D X b c n := by
  have e : aR (sR X a f v) b = aR X b := funext fun i => by show up2 _ _ _ _ _ _ = _; exact up2_nk h
  unfold cellOf
  rw [e]
  rfl
theorem va_inl {D : va_G} {a : Nat} {cA : ClassId} {x : vp_A} {H : Heap} (h : H[a]? = some (vp_cell cA x)) : va_at D vwCl (a, .inl (cA, x)) H := h
theorem g_iast {a n : Nat} {i : Int32} {x : Int32} (B : Amb D A0 ev own nm cc nL ret rm) (hk : mK X a = some (20, n)) (hin : vp_in i n) (d : decode cc pc = .ok (.iastore, 1)) (k9 : Gd D A0 ev Q (sI X a i.toNatClampNeg x) cs sl (pc + 1) L st) : Gd D A0 ev Q X cs sl pc L (vI x :: vI i :: vA (some a) :: st) := by
  obtain ⟨p, l, e9, R, s, m, args, below, meth, c9⟩ := ev
  intro H locs ls hR hA hS hl
  refine W.iast B.1 B.2.1 (hR.arrI (t := 0) hk (by decide)) ((B.2.2.2.2.1.ty 0 (by decide)).1 n (fun j => .int (aI X a j))) (fun q => by cases q) (by show ¬ (i < 0 ∨ (arrV _ _ _).slots.size ≤ _); rw [arrV_size]; exact hin) rfl rfl d fun H1 e z oq => ?_
  refine k9 H1 _ ls (hR.moved (a := a) rfl rfl (fun b c8 n8 hb => cellOf_sI hb) (fun c8 n8 h8 => ?_) z oq) hA (hS.put z oq (hA a (by rw [hk]; exact fun z9 => nomatch z9))) hl
  rw [hk] at h8
  cases h8
  refine va_inl ?_
  show H1[a]? = some (vp_cell (D.2.2 0) (n, .inl (aI (sI X a i.toNatClampNeg x) a)))
  rw [e, vp_cell_i, vp_cell_i, arrV_store]
  congr 2
  funext q
  by_cases hq : q = i.toNatClampNeg
  · subst hq
    simp [updV, sI, aI, up2]
  · simp [updV, sI, aI, up2, hq]
theorem g_zast {a n : Nat} {i : Int32} {x : Int32} (B : Amb D A0 ev own nm cc nL ret rm) (hk : mK X a = some (21, n)) (hin : vp_in i n) (hx : x = 0 ∨ x = 1) (d : decode cc pc = .ok (.bastore, 1)) (k9 : Gd D A0 ev Q (sI X a i.toNatClampNeg x) cs sl (pc + 1) L st) : Gd D A0 ev Q X cs sl pc L (vI x :: vI i :: vA (some a) :: st) := by
  obtain ⟨p, l, e9, R, s, m, args, below, meth, c9⟩ := ev
  intro H locs ls hR hA hS hl
  refine W.zast B.1 B.2.1 (hR.arrI (t := 1) hk (by decide)) ((B.2.2.2.2.1.ty 1 (by decide)).1 n (fun j => .int (aI X a j))) (fun q => by cases q) (by show ¬ (i < 0 ∨ (arrV _ _ _).slots.size ≤ _); rw [arrV_size]; exact hin) rfl rfl d fun H1 e z oq => ?_
  refine k9 H1 _ ls (hR.moved (a := a) rfl rfl (fun b c8 n8 hb => cellOf_sI hb) (fun c8 n8 h8 => ?_) z oq) hA (hS.put z oq (hA a (by rw [hk]; exact fun z9 => nomatch z9))) hl
  rw [hk] at h8
  cases h8
  refine va_inl ?_
  show H1[a]? = some (vp_cell (D.2.2 1) (n, .inl (aI (sI X a i.toNatClampNeg x) a)))
  rw [e, vp_cell_i, vp_cell_i, arrV_store]
  congr 2
  funext q
  by_cases hq : q = i.toNatClampNeg
  · subst hq
    have h7 := (nar_Z hx).1
    simp [updV, sI, aI, up2, h7]
  · simp [updV, sI, aI, up2, hq]
theorem g_last {a n : Nat} {i : Int32} {x : Int64} (B : Amb D A0 ev own nm cc nL ret rm) (hk : mK X a = some (22, n)) (hin : vp_in i n) (d : decode cc pc = .ok (.lastore, 1)) (k9 : Gd D A0 ev Q (sJ X a i.toNatClampNeg x) cs sl (pc + 1) L st) : Gd D A0 ev Q X cs sl pc L (vJ x :: vI i :: vA (some a) :: st) := by
  obtain ⟨p, l, e9, R, s, m, args, below, meth, c9⟩ := ev
  intro H locs ls hR hA hS hl
  refine W.last B.1 B.2.1 (hR.arrJ hk) ((B.2.2.2.2.1.ty 2 (by decide)).1 n (fun j => .long (aJ X a j))) (fun q => by cases q) (by show ¬ (i < 0 ∨ (arrV _ _ _).slots.size ≤ _); rw [arrV_size]; exact hin) rfl rfl d fun H1 e z oq => ?_
  refine k9 H1 _ ls (hR.moved (a := a) rfl rfl (fun b c8 n8 hb => cellOf_sJ hb) (fun c8 n8 h8 => ?_) z oq) hA (hS.put z oq (hA a (by rw [hk]; exact fun z9 => nomatch z9))) hl
  rw [hk] at h8
  cases h8
  refine va_inl ?_
  show H1[a]? = some (vp_cell (D.2.2 2) (n, .inr (.inl (aJ (sJ X a i.toNatClampNeg x) a))))
  rw [e, vp_cell_l, vp_cell_l, arrV_store]
  congr 2
  funext q
  by_cases hq : q = i.toNatClampNeg
  · subst hq
    simp [updV, sJ, aJ, up2]
  · simp [updV, sJ, aJ, up2, hq]
theorem g_aast {a t n c b m9 : Nat} {i : Int32} (B : Amb D A0 ev own nm cc nL ret rm) (hk : mK X a = some (20 + t, n)) (h3 : 3 ≤ t) (h7 : t < 7) (hv : mK X b = some (c, m9)) (hc : c < 13) (hty : arT t = .object (clC c)) (hin : vp_in i n) (d : decode cc pc = .ok (.aastore, 1)) (k9 : Gd D A0 ev Q (sR X a i.toNatClampNeg (some b)) cs sl (pc + 1) L st) : Gd D A0 ev Q X cs sl pc L (vA (some b) :: vI i :: vA (some a) :: st) := by
  obtain ⟨p, l, e9, R, s, m, args, below, meth, c9⟩ := ev
  intro H locs ls hR hA hS hl
  have hlt : i.toNatClampNeg < n := Nat.not_le.mp fun q => hin (Or.inr q)
  have h0 : ¬ i < 0 := fun q => hin (Or.inl q)
  obtain ⟨o1, o2, o3, o4, o5⟩ := clsOK c hc
  obtain ⟨r', hr', cellV, g1, g2, g3, -⟩ := hR.objAt hv hc
  have hcls := (B.2.2.2.2.1.1.1 c _ o1).2
  have hra := (B.2.2.2.2.1.ty t h7).2
  rw [hty] at hra
  obtain ⟨kA, comp, k1, k2, k3, -⟩ := hra
  have hcomp : comp = D.1 c := Option.some.inj (k3.symm.trans hcls.1)
  subst hcomp
  obtain ⟨kC, hkC, -⟩ := hcls.2
  refine W.aast B.1 B.2.1 (hR.arrR hk h3) (fun q h => by cases h) (fun h => by cases h) k1 k2 rfl hkC ⟨h0, by show _ < (arrV _ _ _).slots.size; rw [arrV_size]; exact hlt⟩ g1 (fun q h => by rw [g3] at h; cases h) (by rw [g2]; exact hkC) (by rw [g2]; exact va_assign hcls) rfl rfl d fun H1 e z oq => ?_
  refine k9 H1 _ ls (hR.moved (a := a) rfl rfl (fun b c8 n8 hb => cellOf_sR hb) (fun c8 n8 h8 => ?_) z oq) hA (hS.put z oq (hA a (by rw [hk]; exact fun z9 => nomatch z9))) hl
  rw [hk] at h8
  cases h8
  unfold cellOf
  rw [if_neg (by omega), if_neg (by omega), if_neg (by omega), show 20 + t - 20 = t by omega]
  refine va_inl ?_
  rw [e, vp_cell_q, vp_cell_q, arrV_store]
  congr 2
  funext q
  by_cases hq : q = i.toNatClampNeg
  · subst hq
    simp [updV, sR, aR, up2, va_rf]
  · simp [updV, sR, aR, up2, hq]
/-- behind a push at the next address -/
theorem RepM.push {D : DD} {X X' : Mem} {H H1 : Heap} (h : RepM D X H) {c n : Nat} (hcn : c < 13 ∨ (20 ≤ c ∧ c < 27)) (hk : mK X' = fun b => if b = mZ X then some (c, n) else mK X b) (hz : mZ X' = mZ X + 1) (hne : ∀ b c n, b ≠ mZ X → cellOf D X' b c n = cellOf D X b c n) (hat : va_at (D.1, D.2.1) vwCl (mZ X, cellOf D X' (mZ X) c n) H1) (z : H1.size = H.size + 1) (oq : ∀ q, q < H.size → H1[q]? = H[q]?) : RepM D X' H1 := by
  refine ⟨fun b c8 n8 hb => ?_, by rw [hz, z, h.2]⟩
  rw [hk] at hb
  by_cases e : b = mZ X
  · simp only [if_pos e] at hb
    cases hb
    rw [e]
    exact ⟨hcn, hat⟩
  · simp only [if_neg e] at hb
    refine ⟨(h.1 b c8 n8 hb).1, ?_⟩
    rw [hne b c8 n8 e]
    have h8 := (h.1 b c8 n8 hb).2
    exact h8.kept (oq b h8.lt)
theorem cellOf_nO {X : Mem} {b c c0 n : Nat} (h : b ≠ mZ X) : cellOf D (nO X c0) b c n = cellOf D X b c n := by
  have e : fsOf (nO X c0) c b = fsOf X c b := by
    unfold fsOf
    refine List.map_congr_left fun k _ => ?_
    simp [nO, mI, mR, h]
  unfold cellOf
  rw [e]
  rfl
theorem cellOf_nA {X : Mem} {b c t m n : Nat} (h : b ≠ mZ X) : cellOf D (nA X t m) b c n = cellOf D X b c n := by
  have e1 : aI (nA X t m) b = aI X b := funext fun i => by show (if b = mZ X then (0 : Int32) else aI X b i) = _; rw [if_neg h]
  have e2 : aJ (nA X t m) b = aJ X b := funext fun i => by show (if b = mZ X then (0 : Int64) else aJ X b i) = _; rw [if_neg h]
  have e3 : aR (nA X t m) b = aR X b := funext fun i => by show (if b = mZ X then none else aR X b i) = _; rw [if_neg h]
  unfold cellOf
  rw [e1, e2, e3]
  rfl
theorem A_new {A : Nat → Prop} {H0 H H1 : Heap} {locs : List Loc} (h : va_S A H0 H locs) (z : H1.size = H.size + 1) (oq : ∀ q : Nat, q < H.size → H1[q]? = H[q]?) : va_S A H0 H1 locs := ⟨Nat.le_trans h.1 (by omega), fun x h1 h2 => (oq x (Nat.lt_of_lt_of_le h1 h.1)).trans (h.2.1 x h1 h2), h.2.2⟩
theorem dom_new {X X' : Mem} {A : Nat → Prop} {H0 H : Heap} {locs : List Loc} {y : Nat × Nat} (hz : mZ X = H.size) (hS : va_S A H0 H locs) (hA0 : ∀ q : Nat, H0.size ≤ q → A q) (hk : mK X' = fun b => if b = mZ X then some y else mK X b) (hA : ∀ a, mK X a ≠ none → A a) : ∀ a, mK X' a ≠ none → A a := by
  intro a ha
  rw [hk] at ha
  by_cases e : a = mZ X
  · exact hA0 a (by rw [e, hz]; exact hS.1)
  · simp only [if_neg e] at ha
    exact hA a ha
theorem g_new (c : Nat) {index : Nat} (B : Amb D A0 ev own nm cc nL ret rm) (hc : c < 13) (lk : Cond.classLink own index (clC c) ∈ gd) (li : Cond.instantiable (clC c) (fN c) ∈ gd) (lz : Cond.initialized (clC c) ∈ gd) (hcs : cs + 1 ≤ rm.cells) (hsl : sl + fN c ≤ rm.slots) (d : decode cc pc = .ok (.new index, 3)) (k9 : Gd D A0 ev Q (nO X c) (cs + 1) (sl + fN c) (pc + 3) L (vA (some (mZ X)) :: st)) : Gd D A0 ev Q X cs sl pc L st := by
  obtain ⟨p, l, e9, R, s, m, args, below, meth, c9⟩ := ev
  intro H locs ls hR hA hS hl
  obtain ⟨o1, o2, o3, o4, o5⟩ := clsOK c hc
  have hKn := B.2.2.2.2.1.1.1 c _ o1
  refine W.newcK B.1 B.2.1 B.2.2.2.1 (B.2.2.2.2.1.w lk) (B.2.2.2.2.1.w li) (B.2.2.2.2.1.w lz) rfl d (by rw [B.2.2.2.2.2.2.2.1]; exact hcs) (by rw [B.2.2.2.2.2.2.2.1]; exact hsl) hKn.2.1 rfl fun H1 kC hkC e1 z1 o1' => ?_
  have hz := hR.2
  rw [← hz]
  refine k9 H1 locs ls (hR.push (c := c) (n := 0) (Or.inl hc) rfl rfl (fun b c8 n8 hb => cellOf_nO hb) ?_ z1 o1') (dom_new hz hS B.2.2.2.2.2.2.2.2.1 rfl hA) (A_new hS z1 o1') hl
  unfold cellOf
  rw [if_pos hc, hz]
  refine ⟨_, o1, (u_born (tyOf c) (fun w hw => B.2.2.2.2.1.w (a := args) hw) o2 hKn hkC e1 o4).to fun j hj => ?_⟩
  have h8 : vp_V (fsOf (nO X c) c H.size) j = (if fR c j then va_rf (mR (nO X c) (100 * c + j) H.size) else .int (mI (nO X c) (100 * c + j) H.size)) := by
    unfold vp_V
    rw [List.getD_eq_getElem?_getD, fs_at hj]
    rfl
  rw [h8]
  have e2 : mR (nO X c) (100 * c + j) H.size = none := by simp [nO, mR, hz]
  have e3 : mI (nO X c) (100 * c + j) H.size = 0 := by simp [nO, mI, hz]
  rw [e2, e3]
  have h10 := tyOf_ok c hc j hj
  unfold fR
  rcases h10 with h | h | ⟨t, h⟩ | ⟨t, h⟩ <;> rw [h] <;> rfl
theorem g_newa {atype : ArrayType} {t N : Nat} {n : Int32} (B : Amb D A0 ev own nm cc nL ret rm) (h3 : t < 3) (hty : newarray.typeOf atype = arT t) (la : Cond.arrayClass (newarray.typeOf atype) ∈ gd) (hn : ¬ n < 0) (hN : n.toNatClampNeg = N) (hby : N * 8 ≤ 536870912) (hcs : cs + 1 ≤ rm.cells) (hsl : sl + N ≤ rm.slots) (d : decode cc pc = .ok (.newarray atype, 2)) (k9 : Gd D A0 ev Q (nA X t N) (cs + 1) (sl + N) (pc + 2) L (vA (some (mZ X)) :: st)) : Gd D A0 ev Q X cs sl pc L (vI n :: st) := by
  obtain ⟨p, l, e9, R, s, m, args, below, meth, c9⟩ := ev
  intro H locs ls hR hA hS hl
  have hz := hR.2
  have hcb : componentBytes (newarray.typeOf atype) ≤ 8 := by rw [hty]; match t, h3 with
    | 0, _ => decide
    | 1, _ => decide
    | 2, _ => decide
  refine va_newaK B.1 B.2.1 (B.2.2.2.2.1.w la) rfl d rfl hn hN (Nat.le_trans (Nat.mul_le_mul_left N hcb) hby) (by rw [B.2.2.2.2.2.2.2.1]; exact hcs) (by rw [B.2.2.2.2.2.2.2.1]; exact hsl) hz.symm fun H1 cA e1 z1 o1 hAr hNm => ?_
  have hra := (B.2.2.2.2.1.ty t (by omega)).2
  rw [hty] at e1 hAr hNm
  have hcA : cA = D.2.2 t := by
    refine Option.some.inj (hNm.symm.trans ?_)
    match t, h3, hra with
    | 0, _, hra => exact hra
    | 1, _, hra => exact hra
    | 2, _, hra => exact hra
  subst hcA
  rw [hz] at o1 z1 e1
  refine k9 H1 locs ls (hR.push (c := 20 + t) (n := N) (Or.inr ⟨by omega, by omega⟩) rfl rfl (fun b c8 n8 hb => cellOf_nA hb) ?_ z1 o1) (dom_new hz hS B.2.2.2.2.2.2.2.2.1 rfl hA) (A_new hS z1 o1) hl
  rw [hz]
  have f1 : aI (nA X t N) H.size = fun _ => 0 := funext fun i => by show (if H.size = mZ X then (0 : Int32) else aI X H.size i) = _; rw [if_pos hz.symm]
  have f2 : aJ (nA X t N) H.size = fun _ => 0 := funext fun i => by show (if H.size = mZ X then (0 : Int64) else aJ X H.size i) = _; rw [if_pos hz.symm]
  unfold cellOf
  rw [f1, f2]
  match t, h3, e1 with
  | 0, _, e1 => exact e1
  | 1, _, e1 => exact e1
  | 2, _, e1 => exact e1
theorem g_anew {index t N : Nat} {n : Int32} {C : String} (B : Amb D A0 ev own nm cc nL ret rm) (h3 : 3 ≤ t) (h7 : t < 7) (hty : arT t = .object C) (lk : Cond.classLink own index C ∈ gd) (hn : ¬ n < 0) (hN : n.toNatClampNeg = N) (hby : N * 4 ≤ 536870912) (hcs : cs + 1 ≤ rm.cells) (hsl : sl + N ≤ rm.slots) (d : decode cc pc = .ok (.anewarray index, 3)) (k9 : Gd D A0 ev Q (nA X t N) (cs + 1) (sl + N) (pc + 3) L (vA (some (mZ X)) :: st)) : Gd D A0 ev Q X cs sl pc L (vI n :: st) := by
  obtain ⟨p, l, e9, R, s, m, args, below, meth, c9⟩ := ev
  intro H locs ls hR hA hS hl
  have hz := hR.2
  obtain ⟨C', hC, hAO⟩ := B.2.2.2.2.1.2.2.2.2.2.2 t h3 h7
  have hCC : C' = C := by rw [hty] at hC; cases hC; rfl
  subst hCC
  have hra := (B.2.2.2.2.1.ty t h7).2
  rw [hty] at hra
  obtain ⟨kA', comp', q1, q2, q3, q4⟩ := hra
  subst hN
  refine W.anew B.1 B.2.1 B.2.2.2.1 (B.2.2.2.2.1.w lk) (va_AO.use hAO) rfl d rfl hn hby (by rw [B.2.2.2.2.2.2.2.1]; exact hcs) (by rw [B.2.2.2.2.2.2.2.1]; exact hsl) fun cA kA comp f1 f2 f3 f4 => ?_
  have hcA : cA = D.2.2 t := Option.some.inj (f1.symm.trans q4)
  subst hcA
  generalize hH1 : H.push ({ cls := D.2.2 t, slots := Array.replicate n.toNatClampNeg .null, vm := .none } : Cell) = H1
  have z1 : H1.size = H.size + 1 := by rw [← hH1, Array.size_push]
  have e1 : H1[H.size]? = some (arrV (D.2.2 t) n.toNatClampNeg (fun _ => .null)) := by rw [← hH1, Array.getElem?_push_size, ← arrV_new]
  have o1 : ∀ q : Nat, q < H.size → H1[q]? = H[q]? := fun q hq => by rw [← hH1, Array.getElem?_push, if_neg (Nat.ne_of_lt hq)]
  have k8 := k9 H1 locs ls (hR.push (c := 20 + t) (n := n.toNatClampNeg) (Or.inr ⟨by omega, by omega⟩) rfl rfl (fun b c8 n8 hb => cellOf_nA hb) (by
    have f3 : aR (nA X t n.toNatClampNeg) H.size = fun _ => none := funext fun i => by show (if H.size = mZ X then none else aR X H.size i) = _; rw [if_pos hz.symm]
    unfold cellOf
    rw [hz, f3, if_neg (by omega), if_neg (by omega), if_neg (by omega), show 20 + t - 20 = t by omega]
    exact e1) z1 o1) (dom_new hz hS B.2.2.2.2.2.2.2.2.1 rfl hA) (A_new hS z1 o1) hl
  rw [hz] at k8
  exact k8
theorem g_objInit {index : Nat} {r : Nat} (B : Amb D A0 ev own nm cc nL ret rm) (lk : Cond.methodLink own index Lib.objectInit ∈ gd) (li : Cond.instanceMethod Lib.objectInit ∈ gd) (lc : Cond.code Lib.objectInit ⟨#[0xb1]⟩ 1 none ∈ gd) (hw : tW st + 12 ≤ rm.locals) (hfr : 1 ≤ rm.frames) (d : decode cc pc = .ok (.invokespecial index, 3)) (k9 : Gd D A0 ev Q X cs sl (pc + 3) L st) : Gd D A0 ev Q X cs sl pc L (vA (some r) :: st) := by
  obtain ⟨p, l, e9, R, s, m, args, below, meth, c9⟩ := ev
  intro H locs ls hR hA hS hl
  refine W.objInit B.1 B.2.1 B.2.2.2.1 (B.2.2.2.2.1.w lk) (B.2.2.2.2.1.w li) (B.2.2.2.2.1.w lc) rfl hl.1 rfl d (by rw [B.2.2.2.2.2.2.2.1]; exact hfr) ?_ ?_
  · rw [B.2.2.2.2.2.2.2.1]
    show 2 * 0 + ((tS st).map fun v => v.category).sum + 12 ≤ _
    rw [tW_sum]
    omega
  · exact k9 H locs ls hR hA hS hl
end GH
end
section
/-! CONTRACTS over the typed memory: entry, ends, calls -/
def cPc (D : DD) (av : List TV) (X : Mem) : Array Value → State → Prop := fun v U => v = (tS av).toArray ∧ RepM D X U.heap ∧ AK D U ∧ zU (foot X) U U.heap
def cPo (D : DD) (X X' : Mem) (st t : State) : Prop := RepM D X' t.heap ∧ (∀ a, mK X' a ≠ none → foot X a) ∧ va_F (foot X) st t
def cQc (D : DD) (X : Mem) (o : String ⊕ Option TV) (X' : Mem) : Array Value → State → Outcome → State → Prop := fun _ st oc t => ∃ v : Option TV, o = .inr v ∧ oc = .returned (v.map tv) ∧ cPo D X X' st t
def cXC (D : DD) (X : Mem) (o : String ⊕ Option TV) : String → State → State → Prop := fun E st t => o = .inl E ∧ (∃ z, RepM D (zM X z) t.heap) ∧ va_F (foot X) st t
def Ctr (D : DD) (l : Launch) (y : MethodName) (cc : ByteArray) (nL : Nat) (ret : Option FieldType) (rm : Room) (av : List TV) (X : Mem) (o : String ⊕ Option TV) (X' : Mem) : Prop :=
  vx_Met l y [Cond.code y cc nL ret] rm (cPc D av X) (cQc D X o X') (cXC D X o) rm.cells rm.slots (foot X)
def QF (D : DD) (ev : EV) (X : Mem) (o : String ⊕ Option TV) (X' : Mem) (rm : Room) : State → Prop := match ev with
  | (_, _, _, _, s, _, args, below, _, _) => vx_MQ below (cQc D X o X') (cXC D X o) args s rm.cells rm.slots (foot X)
def Tb0 (ev : EV) : Prop := match ev with
  | (_, _, _, _, _, _, _, _, _, c) => ∀ x ∈ c.exceptionTable.toList, False
def EvL (ev : EV) (l : Launch) : Prop := match ev with
  | (_, l', _, _, _, _, _, _, _, _) => l' = l
def tA : Nat → List TV → List (Nat × TV)
  | _, [] => []
  | i, v :: vs => (i, v) :: tA (if tJ v then i + 2 else i + 1) vs
theorem tA_args (av : List TV) : ∀ i, tL (tA i av) = lv_args i (tS av) := by
  induction av with
  | nil => intro i; rfl
  | cons v vs ih =>
    intro i
    show (i, tv v) :: tL (tA (if tJ v then i + 2 else i + 1) vs) = (i, tv v) :: lv_args (if (tv v).category = 2 then i + 2 else i + 1) (tS vs)
    rw [ih, tv_cat]
    cases tJ v <;> rfl
theorem tW_sl (av : List TV) : (lg_sl (tS av)).length = tW av := by
  induction av with
  | nil => rfl
  | cons v vs ih =>
    have e : lg_sl (tS (v :: vs)) = (if (tv v).category = 2 then [.val (tv v), .second] else [.val (tv v)]) ++ lg_sl (tS vs) := rfl
    rw [e, List.length_append, ih, tv_cat]
    cases h : tJ v <;> simp [tW, h]
theorem cPc_blind {D : DD} {av : List TV} {X : Mem} : FrameBlind (cPc D av X) := by
  intro a U g mk ⟨h1, h2, h3, h4⟩
  exact ⟨h1, h2, AK.warm (State.WarmedH.refl U) h3, h4⟩
theorem ctr_of {D : DD} {l : Launch} {y : MethodName} {cc : ByteArray} {nL : Nat} {ret : Option FieldType} {rm : Room} {av : List TV} {X : Mem} {o : String ⊕ Option TV} {X' : Mem} (hst : l.stackTraces = false) (hy : plainName y.cls = true) (hw : tW av ≤ nL)
    (body : ∀ ev : EV, EvL ev l → Tb0 ev → Amb D (foot X) ev y.cls y.name cc nL ret rm → Gd D (foot X) ev (QF D ev X o X' rm) X 0 0 0 (tA 0 av) []) : Ctr D l y cc nL ret rm av X o X' := by
  refine vx_ofW (cc := cc) (maxL := nL) (ret := ret) hy rfl ?_
  intro p e s m args below meth c s₁ B hml ht hP
  obtain ⟨rfl, hR, hAK, hz⟩ := hP
  have hown : s.vm.findClass y.cls = some m.cls := findClass_of_methodNamed B.named
  have hA0 : ∀ q : Nat, s.heap.size ≤ q → foot X q := fun q h => Or.inr (by rw [hR.2]; exact h)
  have hS : va_S (foot X) s.heap s.heap [] := va_S.rf
  have hl := lv_entry (tS av) (n := nL) (by rw [tW_sl]; exact hw)
  rw [← tA_args] at hl
  have k := body (p, l, e, rm, s, m, (tS av).toArray, below, meth, c) rfl ht ⟨B.exec, B.bytes, hml, hown, hAK, B.notSynchronized, B.returns, rfl, hA0, hst, hz, (name_of_methodNamed B.named B.method).1⟩
  rw [lg_entry_eq]
  exact k s.heap [] _ hR (fun a h => Or.inl h) hS (by rw [hml]; exact hl)
section GE
variable {D : DD} {ev : EV} {X X0 : Mem} {cs sl pc : Nat} {L : List (Nat × TV)} {st : List TV} {own nm : String} {cc : ByteArray} {nL : Nat} {ret : Option FieldType} {rm : Room}
theorem cPo_end {H : Heap} {s t : State} {locs : List Loc} (ht : t.heap = H) (hR : RepM D X H) (hA : ∀ a, mK X a ≠ none → foot X0 a) (hS : va_S (foot X0) s.heap H locs) : cPo D X0 X s t := ⟨by rw [ht]; exact hR, hA, hS.F ht⟩
theorem g_ret_I {v : Int32} (B : Amb D (foot X0) ev own nm cc nL ret rm) (hret : ret = some .int) (hc : cs ≤ rm.cells) (hs : sl ≤ rm.slots) (d : decode cc pc = .ok (.ireturn, 1)) : Gd D (foot X0) ev (QF D ev X0 (.inr (some (vI v))) X rm) X cs sl pc L [vI v] := by
  obtain ⟨p, l, e9, R, s, m, args, below, meth, c9⟩ := ev
  intro H locs ls hR hA hS hl
  refine W.widen hc hs (vx_ret ?_)
  exact W.iret B.1 B.2.1 (B.2.2.2.2.2.2.1.trans hret) (fun t ht hW => ⟨some (vI v), rfl, rfl, cPo_end ht hR hA hS⟩) hS.2.2 d B.2.2.2.2.2.1
theorem g_ret_Z {v : Int32} (B : Amb D (foot X0) ev own nm cc nL ret rm) (hret : ret = some .boolean) (hv : v = 0 ∨ v = 1) (hc : cs ≤ rm.cells) (hs : sl ≤ rm.slots) (d : decode cc pc = .ok (.ireturn, 1)) : Gd D (foot X0) ev (QF D ev X0 (.inr (some (vI v))) X rm) X cs sl pc L [vI v] := by
  obtain ⟨p, l, e9, R, s, m, args, below, meth, c9⟩ := ev
  intro H locs ls hR hA hS hl
  refine W.widen hc hs (vx_ret ?_)
  exact W.zret B.1 B.2.1 (B.2.2.2.2.2.2.1.trans hret) (nar_Z hv).1 (fun t ht hW => ⟨some (vI v), rfl, rfl, cPo_end ht hR hA hS⟩) hS.2.2 d B.2.2.2.2.2.1
theorem g_ret_J {v : Int64} (B : Amb D (foot X0) ev own nm cc nL ret rm) (hret : ret = some .long) (hc : cs ≤ rm.cells) (hs : sl ≤ rm.slots) (d : decode cc pc = .ok (.lreturn, 1)) : Gd D (foot X0) ev (QF D ev X0 (.inr (some (vJ v))) X rm) X cs sl pc L [vJ v] := by
  obtain ⟨p, l, e9, R, s, m, args, below, meth, c9⟩ := ev
  intro H locs ls hR hA hS hl
  refine W.widen hc hs (vx_ret ?_)
  exact W.lret B.1 B.2.1 (B.2.2.2.2.2.2.1.trans hret) (fun t ht hW => ⟨some (vJ v), rfl, rfl, cPo_end ht hR hA hS⟩) hS.2.2 d B.2.2.2.2.2.1
theorem g_ret_A {v : Option Nat} {C : String} (B : Amb D (foot X0) ev own nm cc nL ret rm) (hret : ret = some (.object C)) (hc : cs ≤ rm.cells) (hs : sl ≤ rm.slots) (d : decode cc pc = .ok (.areturn, 1)) : Gd D (foot X0) ev (QF D ev X0 (.inr (some (vA v))) X rm) X cs sl pc L [vA v] := by
  obtain ⟨p, l, e9, R, s, m, args, below, meth, c9⟩ := ev
  intro H locs ls hR hA hS hl
  refine W.widen hc hs (vx_ret ?_)
  exact W.aret B.1 B.2.1 (B.2.2.2.2.2.2.1.trans hret) (Or.inl ⟨_, rfl⟩) (by cases v <;> first | exact Or.inl rfl | exact Or.inr ⟨_, rfl⟩) (fun t ht hW => ⟨some (vA v), rfl, rfl, cPo_end ht hR hA hS⟩) hS.2.2 d B.2.2.2.2.2.1
theorem g_ret_V (B : Amb D (foot X0) ev own nm cc nL ret rm) (hret : ret = none) (hc : cs ≤ rm.cells) (hs : sl ≤ rm.slots) (d : decode cc pc = .ok (.return_, 1)) : Gd D (foot X0) ev (QF D ev X0 (.inr none) X rm) X cs sl pc L [] := by
  obtain ⟨p, l, e9, R, s, m, args, below, meth, c9⟩ := ev
  intro H locs ls hR hA hS hl
  refine W.widen hc hs (vx_ret ?_)
  exact W.vret B.1 B.2.1 (B.2.2.2.2.2.2.1.trans hret) (fun t ht hW => ⟨none, rfl, rfl, cPo_end ht hR hA hS⟩) hS.2.2 d B.2.2.2.2.2.1
end GE
/-- what a call needs of its callee, whoever calls -/
def CalOK (y : MethodName) (cc : ByteArray) (nL : Nat) (ret : Option FieldType) (n : Nat) : Prop :=
  Cond.code y cc nL ret ∈ gd ∧ Cond.initialized y.cls ∈ gd ∧ (y.cls ≠ "java/lang/invoke/MethodHandle" ∧ y.cls ≠ "java/lang/invoke/VarHandle") ∧ (parseMethodDescriptor y.desc).map (fun d => d.parameters.length) = some n
theorem Ctr.met {D : DD} {l : Launch} {y : MethodName} {cc : ByteArray} {nL : Nat} {ret : Option FieldType} {rm : Room} {av : List TV} {X : Mem} {v : Option TV} {X' : Mem} (h : Ctr D l y cc nL ret rm av X (.inr v) X') : Met l y [Cond.code y cc nL ret] rm (cPc D av X) (cQc D X (.inr v) X') rm.cells rm.slots (foot X) := by
  intro p e ha hc hk s m args below hf happ hP hK
  obtain ⟨n, o, h1, h2, h3, h4⟩ := h p e ha hc hk s m args below hf happ hP hK
  refine ⟨n, o, h1, h2, h3, ?_⟩
  rcases h4 with h4 | ⟨q, -, E, ce, L, ⟨hx, -⟩, -⟩
  · exact h4
  · cases hx
section GC
variable {p : Program} {l : Launch} {e : Env} {R : Room} {s : State} {m : MethodId} {args : Array Value} {below : List Frame} {meth : Method} {c : Code} {H : Heap} {locs : List Loc}
variable {D : DD} {A0 : Nat → Prop} {ev : EV} {Q : State → Prop} {X X' : Mem} {cs sl pc : Nat} {L : List (Nat × TV)} {st : List TV} {own nm : String} {cc : ByteArray} {nL : Nat} {ret : Option FieldType} {rm : Room}
variable {y : MethodName} {cc2 : ByteArray} {nL2 n index : Nat} {ret2 : Option FieldType} {rm2 : Room} {As : List TV} {v : Option TV}
theorem callB (hAK : AK D s) (hc : CalOK y cc2 nL2 ret2 n) (hl : Cond.methodLink own index y ∈ gd) (hr : rm2.frames + 1 ≤ R.frames ∧ 8 + (nL2 + 11) + rm2.locals ≤ R.locals) : CallB R s args own index y cc2 nL2 ret2 [Cond.code y cc2 nL2 ret2] rm2 rm2.cells rm2.slots n := by
  refine ⟨rfl, rfl, hr.1, hr.2, fun w hw a' U hW => ?_, List.mem_cons_self, hAK.w hc.1, hAK.w hc.2.1, hc.2.2.1, fun sig h => ?_, hAK.w hl⟩
  · rw [List.mem_singleton.mp hw]
    exact word_at hW (good_of_word (List.mem_filter.mp hc.1).2) (hAK.w (a := args) hc.1)
  · have h2 := hc.2.2.2
    rw [h] at h2
    exact (Option.some.inj h2).symm
theorem callP (hA0 : ∀ q : Nat, s.heap.size ≤ q → A0 q) (hAK : AK D s) (hz : zU A0 s s.heap) (hR : RepM D X H) (hA : ∀ a, mK X a ≠ none → A0 a) (hS : va_S A0 s.heap H locs) (av : List TV) : ∀ U : State, U.heap = H → s.WarmedH U.vm → cPc D av X (tS av).toArray U := by
  intro U hU hW
  have hAB : ∀ q, foot X q → A0 q := fun q h => h.elim (hA q) (fun h => hA0 q (Nat.le_trans hS.1 (by rw [← hR.2]; exact h)))
  refine ⟨rfl, by rw [hU]; exact hR, hAK.warm hW, ?_, ?_⟩
  · rw [hU]
    exact ((hz.1.kept hS.2.1).narrow hAB).moved hW.alike
  · rw [hU]
    exact ((hz.2.kept hS.2.1).narrow hAB).moved hW.alike
/-- behind a call that has come back -/
theorem callK {mc ms : Nat} {g : JFrame} {ls : Array Slot} {st9 rest : List Value} (hA0 : ∀ q : Nat, s.heap.size ≤ q → A0 q) (hz : mZ X = H.size) (hA : ∀ a, mK X a ≠ none → A0 a) (hS : va_S A0 s.heap H locs) {av : Array Value}
    (hr : va_Run p l e R s m args below meth c H locs cs sl mc ms (F0 m pc ls st9) rest (cQc D X (.inr v) X' av) (foot X))
    (kk : ∀ (H1 : Heap) (locs1 : List Loc), RepM D X' H1 → (∀ a, mK X' a ≠ none → A0 a) → va_S A0 s.heap H1 locs1 → W p l e R s m args below meth c H1 locs1 (cs + mc) (sl + ms) Q (F0 m (pc + 3) ls ((v.map tv).toList ++ rest))) : W p l e R s m args below meth c H locs cs sl Q (F0 m pc ls st9) := by
  intro T hT X9
  have hAB : ∀ q, foot X q → A0 q := fun q h => h.elim (hA q) (fun h => hA0 q (Nat.le_trans hS.1 (by rw [← hz]; exact h)))
  obtain ⟨v9, st₀, t, T', L9, h0, X8, hL, e1, e2, ⟨v', hv', hv9, hp1, hp2, hp3⟩, st'⟩ := hr T hT X9
  cases hv'
  cases hv9
  obtain ⟨-, -, k3⟩ := vx_keep h0 e1 hS (fun q _ h => hAB q h) hAB hL hp3
  obtain ⟨t2, a1, b1⟩ := kk T'.heap (locs ++ L9) (by rw [e1]; exact hp1) (fun a h => hAB a (hp2 a h)) k3 T' rfl X8
  exact ⟨t2, st' t2 a1, b1⟩
theorem callX {mc ms : Nat} {g : JFrame} {ls : Array Slot} {st9 rest : List Value} (hA0 : ∀ q : Nat, s.heap.size ≤ q → A0 q) (hz : mZ X = H.size) (hA : ∀ a, mK X a ≠ none → A0 a) (hS : va_S A0 s.heap H locs) {av : Array Value}
    (hr : vx_Run p l e R s m args below meth c H locs cs sl mc ms (F0 m pc ls st9) rest (cQc D X (.inr v) X' av) (cXC D X (.inr v)) (foot X))
    (kk : ∀ (H1 : Heap) (locs1 : List Loc), RepM D X' H1 → (∀ a, mK X' a ≠ none → A0 a) → va_S A0 s.heap H1 locs1 → W p l e R s m args below meth c H1 locs1 (cs + mc) (sl + ms) Q (F0 m (pc + 3) ls ((v.map tv).toList ++ rest))) : W p l e R s m args below meth c H locs cs sl Q (F0 m pc ls st9) := by
  refine callK hA0 hz hA hS (av := av) (g := g) (v := v) ?_ kk
  intro T hT X9
  rcases hr T hT X9 with h | ⟨q, st₀, t, T', L9, E, ce, -, -, -, -, -, ⟨hx, -⟩, -⟩
  · exact h
  · cases hx
theorem tS_rev {As : List TV} {x : TV} : tS (As.reverse ++ x :: st) = (tS As).reverse ++ tv x :: tS st := by simp [tS]
theorem tS_rev' {As : List TV} : tS (As.reverse ++ st) = (tS As).reverse ++ tS st := by simp [tS]
theorem tS_out : (v.map tv).toList ++ tS st = tS (v.toList ++ st) := by cases v <;> rfl
/-- a call of a method by an object, that comes back -/
theorem g_callV {b ci n9 : Nat} (B : Amb D A0 ev own nm cc nL ret rm) (hc : CalOK y cc2 nL2 ret2 n) (hl : Cond.methodLink own index y ∈ gd) (hi : Cond.instanceMethod y ∈ gd) (hse : Cond.selects y.cls y y ∈ gd) (hk : mK X b = some (ci, n9)) (hci : ci < 13) (hcl : clC ci = y.cls)
    (hM : ∀ l, l.stackTraces = false → Ctr D l y cc2 nL2 ret2 rm2 (vA (some b) :: As) X (.inr v) X') (hn : As.length = n) (hw : tW st ≤ 8) (hr : rm2.frames + 1 ≤ rm.frames ∧ 8 + (nL2 + 11) + rm2.locals ≤ rm.locals) (hf : cs + rm2.cells ≤ rm.cells ∧ sl + rm2.slots ≤ rm.slots) (d : decode cc pc = .ok (.invokevirtual index, 3))
    (k9 : Gd D A0 ev Q X' (cs + rm2.cells) (sl + rm2.slots) (pc + 3) L (v.toList ++ st)) : Gd D A0 ev Q X cs sl pc L (As.reverse ++ vA (some b) :: st) := by
  obtain ⟨p, l, e9, R, s, m, args, below, meth, c9⟩ := ev
  intro H locs ls hR hA hS hl9
  have hRR : R = rm := B.2.2.2.2.2.2.2.1
  subst hRR
  obtain ⟨o1, -⟩ := clsOK ci hci
  rw [tS_rev]
  refine callX (g := F0 m pc ls []) (Q := Q) B.2.2.2.2.2.2.2.2.1 hR.2 hA hS (rest := tS st) (vx_runV (As := tS As) (rest := tS st) (C := y.cls) ⟨B.1, B.2.1, B.2.2.1, B.2.2.2.1, fun w hw => B.2.2.2.2.1.w hw⟩ (hM l B.2.2.2.2.2.2.2.2.2.1) ⟨callB B.2.2.2.2.1 hc hl hr, B.2.2.2.2.1.w hi, B.2.2.2.2.1.w hse⟩ ⟨cPc_blind, ?_, callP B.2.2.2.2.2.2.2.2.1 B.2.2.2.2.1 B.2.2.2.2.2.2.2.2.2.2.1 hR hA hS (vA (some b) :: As)⟩ rfl (by simpa [tS] using hn) (hl9.1.trans B.2.2.1) rfl (lv_room (m := m) (pc := pc) (ls := ls) (rest := []) (by rw [tW_sum]; exact hw)) d hf) (fun H1 locs1 h1 h2 h3 => ?_)
  · have h9 := va_recv (D := (D.1, D.2.1)) (cl := vwCl) (ws := [(b, .inr (ci, fsOf X ci b))]) B.2.2.2.2.1.1 (P1 (hR.objAt hk hci)) (ci := ci) (q0 := 0) o1 rfl
    obtain ⟨cell, g1, g2, g3⟩ := h9
    exact ⟨cell, g1, g2, by rw [← hcl]; exact g3⟩
  · rw [tS_out]
    exact k9 H1 locs1 ls h1 h2 h3 hl9
theorem g_callS (B : Amb D A0 ev own nm cc nL ret rm) (hc : CalOK y cc2 nL2 ret2 n) (hl : Cond.methodLink own index y ∈ gd) (hi : Cond.static y ∈ gd)
    (hM : ∀ l, l.stackTraces = false → Ctr D l y cc2 nL2 ret2 rm2 As X (.inr v) X') (hn : As.length = n) (hw : tW st ≤ 8) (hr : rm2.frames + 1 ≤ rm.frames ∧ 8 + (nL2 + 11) + rm2.locals ≤ rm.locals) (hf : cs + rm2.cells ≤ rm.cells ∧ sl + rm2.slots ≤ rm.slots) (d : decode cc pc = .ok (.invokestatic index, 3))
    (k9 : Gd D A0 ev Q X' (cs + rm2.cells) (sl + rm2.slots) (pc + 3) L (v.toList ++ st)) : Gd D A0 ev Q X cs sl pc L (As.reverse ++ st) := by
  obtain ⟨p, l, e9, R, s, m, args, below, meth, c9⟩ := ev
  intro H locs ls hR hA hS hl9
  have hRR : R = rm := B.2.2.2.2.2.2.2.1
  subst hRR
  rw [tS_rev']
  refine callX (g := F0 m pc ls []) (Q := Q) B.2.2.2.2.2.2.2.2.1 hR.2 hA hS (rest := tS st) (vx_runS (As := tS As) (rest := tS st) ⟨B.1, B.2.1, B.2.2.1, B.2.2.2.1, fun w hw => B.2.2.2.2.1.w hw⟩ (hM l B.2.2.2.2.2.2.2.2.2.1) ⟨callB B.2.2.2.2.1 hc hl hr, B.2.2.2.2.1.w hi⟩ ⟨cPc_blind, callP B.2.2.2.2.2.2.2.2.1 B.2.2.2.2.1 B.2.2.2.2.2.2.2.2.2.2.1 hR hA hS As⟩ rfl (by simpa [tS] using hn) (hl9.1.trans B.2.2.1) rfl (lv_room (m := m) (pc := pc) (ls := ls) (rest := []) (by rw [tW_sum]; exact hw)) d hf) (fun H1 locs1 h1 h2 h3 => ?_)
  rw [tS_out]
  exact k9 H1 locs1 ls h1 h2 h3 hl9
theorem g_callI {b : Nat} (B : Amb D A0 ev own nm cc nL ret rm) (hc : CalOK y cc2 nL2 none n) (hl : Cond.methodLink own index y ∈ gd) (hi : Cond.instanceMethod y ∈ gd) (hyn : y.name = "<init>")
    (hM : ∀ l, l.stackTraces = false → Ctr D l y cc2 nL2 none rm2 (vA (some b) :: As) X (.inr none) X') (hn : As.length = n) (hw : tW st ≤ 8) (hr : rm2.frames + 1 ≤ rm.frames ∧ 8 + (nL2 + 11) + rm2.locals ≤ rm.locals) (hf : cs + rm2.cells ≤ rm.cells ∧ sl + rm2.slots ≤ rm.slots) (d : decode cc pc = .ok (.invokespecial index, 3))
    (k9 : Gd D A0 ev Q X' (cs + rm2.cells) (sl + rm2.slots) (pc + 3) L st) : Gd D A0 ev Q X cs sl pc L (As.reverse ++ vA (some b) :: st) := by
  obtain ⟨p, l, e9, R, s, m, args, below, meth, c9⟩ := ev
  intro H locs ls hR hA hS hl9
  have hRR : R = rm := B.2.2.2.2.2.2.2.1
  subst hRR
  rw [tS_rev]
  exact callK (g := F0 m pc ls []) (Q := Q) (v := none) B.2.2.2.2.2.2.2.2.1 hR.2 hA hS (rest := tS st) (va_runI (As := tS As) (rest := tS st) (b := b) ⟨B.1, B.2.1, B.2.2.1, B.2.2.2.1, fun w hw => B.2.2.2.2.1.w hw⟩ (hM l B.2.2.2.2.2.2.2.2.2.1).met ⟨callB B.2.2.2.2.1 hc hl hr, hyn, B.2.2.2.2.1.w hi⟩ ⟨cPc_blind, callP B.2.2.2.2.2.2.2.2.1 B.2.2.2.2.1 B.2.2.2.2.2.2.2.2.2.2.1 hR hA hS (vA (some b) :: As)⟩ rfl (by simpa [tS] using hn) (hl9.1.trans B.2.2.1) rfl (lv_room (m := m) (pc := pc) (ls := ls) (rest := []) (by rw [tW_sum]; exact hw)) d hf) (fun H1 locs1 h1 h2 h3 => k9 H1 locs1 ls h1 h2 h3 hl9)
theorem callN {host : String} (hAK : AK D s) (hc : CalOK y cc2 nL2 ret2 n) (hl : Cond.methodLinkNest own index y host ∈ nestW) (hr : rm2.frames + 1 ≤ R.frames ∧ 8 + (nL2 + 11) + rm2.locals ≤ R.locals) : va_CN R s args own index y host cc2 nL2 ret2 [Cond.code y cc2 nL2 ret2] rm2 rm2.cells rm2.slots n := by
  refine ⟨⟨rfl, rfl, hr.1, hr.2, fun w hw a' U hW => ?_, List.mem_cons_self⟩, hAK.w hc.1, hAK.w hc.2.1, hc.2.2.1, fun sig h => ?_, va_Nw.use rfl (hAK.2.2.1 _ hl)⟩
  · rw [List.mem_singleton.mp hw]
    exact word_at hW (good_of_word (List.mem_filter.mp hc.1).2) (hAK.w (a := args) hc.1)
  · have h2 := hc.2.2.2
    rw [h] at h2
    exact (Option.some.inj h2).symm
theorem g_callSN {host : String} (B : Amb D A0 ev own nm cc nL ret rm) (hc : CalOK y cc2 nL2 ret2 n) (hl : Cond.methodLinkNest own index y host ∈ nestW) (hi : Cond.static y ∈ gd)
    (hM : ∀ l, l.stackTraces = false → Ctr D l y cc2 nL2 ret2 rm2 As X (.inr v) X') (hn : As.length = n) (hw : tW st ≤ 8) (hr : rm2.frames + 1 ≤ rm.frames ∧ 8 + (nL2 + 11) + rm2.locals ≤ rm.locals) (hf : cs + rm2.cells ≤ rm.cells ∧ sl + rm2.slots ≤ rm.slots) (d : decode cc pc = .ok (.invokestatic index, 3))
    (k9 : Gd D A0 ev Q X' (cs + rm2.cells) (sl + rm2.slots) (pc + 3) L (v.toList ++ st)) : Gd D A0 ev Q X cs sl pc L (As.reverse ++ st) := by
  obtain ⟨p, l, e9, R, s, m, args, below, meth, c9⟩ := ev
  intro H locs ls hR hA hS hl9
  have hRR : R = rm := B.2.2.2.2.2.2.2.1
  subst hRR
  rw [tS_rev']
  refine callK (g := F0 m pc ls []) (Q := Q) B.2.2.2.2.2.2.2.2.1 hR.2 hA hS (rest := tS st) (va_runSN (As := tS As) (rest := tS st) ⟨B.1, B.2.1, B.2.2.1, B.2.2.2.1, fun w hw => B.2.2.2.2.1.w hw⟩ (hM l B.2.2.2.2.2.2.2.2.2.1).met ⟨callN B.2.2.2.2.1 hc hl hr, B.2.2.2.2.1.w hi, trivial⟩ ⟨cPc_blind, callP B.2.2.2.2.2.2.2.2.1 B.2.2.2.2.1 B.2.2.2.2.2.2.2.2.2.2.1 hR hA hS As⟩ rfl (by simpa [tS] using hn) (hl9.1.trans B.2.2.1) rfl (lv_room (m := m) (pc := pc) (ls := ls) (rest := []) (by rw [tW_sum]; exact hw)) d hf) (fun H1 locs1 h1 h2 h3 => ?_)
  rw [tS_out]
  exact k9 H1 locs1 ls h1 h2 h3 hl9
theorem g_callIN {b : Nat} {host : String} (B : Amb D A0 ev own nm cc nL ret rm) (hc : CalOK y cc2 nL2 none n) (hl : Cond.methodLinkNest own index y host ∈ nestW) (hi : Cond.instanceMethod y ∈ gd) (hyn : y.name = "<init>")
    (hM : ∀ l, l.stackTraces = false → Ctr D l y cc2 nL2 none rm2 (vA (some b) :: As) X (.inr none) X') (hn : As.length = n) (hw : tW st ≤ 8) (hr : rm2.frames + 1 ≤ rm.frames ∧ 8 + (nL2 + 11) + rm2.locals ≤ rm.locals) (hf : cs + rm2.cells ≤ rm.cells ∧ sl + rm2.slots ≤ rm.slots) (d : decode cc pc = .ok (.invokespecial index, 3))
    (k9 : Gd D A0 ev Q X' (cs + rm2.cells) (sl + rm2.slots) (pc + 3) L st) : Gd D A0 ev Q X cs sl pc L (As.reverse ++ vA (some b) :: st) := by
  obtain ⟨p, l, e9, R, s, m, args, below, meth, c9⟩ := ev
  intro H locs ls hR hA hS hl9
  have hRR : R = rm := B.2.2.2.2.2.2.2.1
  subst hRR
  rw [tS_rev]
  exact callK (g := F0 m pc ls []) (Q := Q) (v := none) B.2.2.2.2.2.2.2.2.1 hR.2 hA hS (rest := tS st) (va_runIN (As := tS As) (rest := tS st) (b := b) ⟨B.1, B.2.1, B.2.2.1, B.2.2.2.1, fun w hw => B.2.2.2.2.1.w hw⟩ (hM l B.2.2.2.2.2.2.2.2.2.1).met ⟨callN B.2.2.2.2.1 hc hl hr, hyn, B.2.2.2.2.1.w hi⟩ ⟨cPc_blind, callP B.2.2.2.2.2.2.2.2.1 B.2.2.2.2.1 B.2.2.2.2.2.2.2.2.2.2.1 hR hA hS (vA (some b) :: As)⟩ rfl (by simpa [tS] using hn) (hl9.1.trans B.2.2.1) rfl (lv_room (m := m) (pc := pc) (ls := ls) (rest := []) (by rw [tW_sum]; exact hw)) d hf) (fun H1 locs1 h1 h2 h3 => k9 H1 locs1 ls h1 h2 h3 hl9)
end GC
/-! a call that throws: it goes on to the caller; a throw of one's own -/
section GX
variable {D : DD} {A0 : Nat → Prop} {ev : EV} {Q : State → Prop} {X X' : Mem} {cs sl pc : Nat} {L : List (Nat × TV)} {st : List TV} {own nm : String} {cc : ByteArray} {nL : Nat} {ret : Option FieldType} {rm : Room}
variable {y : MethodName} {cc2 : ByteArray} {nL2 n index : Nat} {ret2 : Option FieldType} {rm2 : Room} {As : List TV}
/-- the frame's judgement with an exception of the class E over it -/
def Gx (D : DD) (A0 : Nat → Prop) (ev : EV) (Q : State → Prop) (X : Mem) (E : String) (cs sl pc : Nat) (L : List (Nat × TV)) (st : List TV) : Prop := match ev with
  | (p, l, e, R, s, m, args, below, meth, c) => ∀ (H : Heap) (locs : List Loc) (ls : Array Slot) (q : Nat) (ce : Cell), (∃ z, RepM D (zM X z) H) → (∀ a, mK X a ≠ none → A0 a) → va_S A0 s.heap H locs → lv_has ls c.maxLocals (tL L) → H[q]? = some ce → ce.vm = .none → s.vm.findClass E = some ce.cls → vx_W p l e R s m args below meth c H locs cs sl Q (F0 m pc ls (tS st)) q
theorem callXT {p : Program} {l : Launch} {e : Env} {R : Room} {s : State} {m : MethodId} {args : Array Value} {below : List Frame} {meth : Method} {c : Code} {H : Heap} {locs : List Loc} {mc ms : Nat} {ls : Array Slot} {st9 rest : List Value} {E : String} (hA0 : ∀ q : Nat, s.heap.size ≤ q → A0 q) (hz : mZ X = H.size) (hA : ∀ a, mK X a ≠ none → A0 a) (hS : va_S A0 s.heap H locs) {av : Array Value}
    (hr : vx_Run p l e R s m args below meth c H locs cs sl mc ms (F0 m pc ls st9) rest (cQc D X (.inl E) X' av) (cXC D X (.inl E)) (foot X))
    (kk : ∀ (H1 : Heap) (locs1 : List Loc) (q : Nat) (ce : Cell), (∃ z, RepM D (zM X z) H1) → va_S A0 s.heap H1 locs1 → H1[q]? = some ce → ce.vm = .none → s.vm.findClass E = some ce.cls → vx_W p l e R s m args below meth c H1 locs1 (cs + mc) (sl + ms) Q (F0 m pc ls rest) q) : W p l e R s m args below meth c H locs cs sl Q (F0 m pc ls st9) := by
  intro T hT X9
  have hAB : ∀ q, foot X q → A0 q := fun q h => h.elim (hA q) (fun h => hA0 q (Nat.le_trans hS.1 (by rw [← hz]; exact h)))
  rcases hr T hT X9 with ⟨v9, st₀, t, T', L9, h0, X8, hL, e1, e2, ⟨v', hv', -⟩, -⟩ | ⟨q, st₀, t, T', L9, E', ce, h0, X8, hL, e1, e2, ⟨hx, ⟨z, hz9⟩, hp3⟩, hce, hcv, hcl, st'⟩
  · cases hv'
  · cases hx
    obtain ⟨-, -, k3⟩ := vx_keep h0 e1 hS (fun q _ h => hAB q h) hAB hL hp3
    obtain ⟨t2, a1, b1⟩ := kk T'.heap (locs ++ L9) q ce ⟨z, by rw [e1]; exact hz9⟩ k3 (by rw [e1]; exact hce) hcv hcl T' rfl X8
    exact ⟨t2, st'.trans a1, b1⟩
theorem g_callVT {b ci n9 : Nat} {E : String} (B : Amb D A0 ev own nm cc nL ret rm) (hc : CalOK y cc2 nL2 ret2 n) (hl : Cond.methodLink own index y ∈ gd) (hi : Cond.instanceMethod y ∈ gd) (hse : Cond.selects y.cls y y ∈ gd) (hk : mK X b = some (ci, n9)) (hci : ci < 13) (hcl : clC ci = y.cls)
    (hM : ∀ l, l.stackTraces = false → Ctr D l y cc2 nL2 ret2 rm2 (vA (some b) :: As) X (.inl E) X') (hn : As.length = n) (hw : tW st ≤ 8) (hr : rm2.frames + 1 ≤ rm.frames ∧ 8 + (nL2 + 11) + rm2.locals ≤ rm.locals) (hf : cs + rm2.cells ≤ rm.cells ∧ sl + rm2.slots ≤ rm.slots) (d : decode cc pc = .ok (.invokevirtual index, 3))
    (k9 : Gx D A0 ev Q X E (cs + rm2.cells) (sl + rm2.slots) pc L st) : Gd D A0 ev Q X cs sl pc L (As.reverse ++ vA (some b) :: st) := by
  obtain ⟨p, l, e9, R, s, m, args, below, meth, c9⟩ := ev
  intro H locs ls hR hA hS hl9
  have hRR : R = rm := B.2.2.2.2.2.2.2.1
  subst hRR
  obtain ⟨o1, -⟩ := clsOK ci hci
  rw [tS_rev]
  refine callXT (Q := Q) B.2.2.2.2.2.2.2.2.1 hR.2 hA hS (rest := tS st) (vx_runV (As := tS As) (rest := tS st) (C := y.cls) ⟨B.1, B.2.1, B.2.2.1, B.2.2.2.1, fun w hw => B.2.2.2.2.1.w hw⟩ (hM l B.2.2.2.2.2.2.2.2.2.1) ⟨callB B.2.2.2.2.1 hc hl hr, B.2.2.2.2.1.w hi, B.2.2.2.2.1.w hse⟩ ⟨cPc_blind, ?_, callP B.2.2.2.2.2.2.2.2.1 B.2.2.2.2.1 B.2.2.2.2.2.2.2.2.2.2.1 hR hA hS (vA (some b) :: As)⟩ rfl (by simpa [tS] using hn) (hl9.1.trans B.2.2.1) rfl (lv_room (m := m) (pc := pc) (ls := ls) (rest := []) (by rw [tW_sum]; exact hw)) d hf) (fun H1 locs1 q ce h1 h3 g1 g2 g3 => k9 H1 locs1 ls q ce h1 hA h3 hl9 g1 g2 g3)
  have h9 := va_recv (D := (D.1, D.2.1)) (cl := vwCl) (ws := [(b, .inr (ci, fsOf X ci b))]) B.2.2.2.2.1.1 (P1 (hR.objAt hk hci)) (ci := ci) (q0 := 0) o1 rfl
  obtain ⟨cell, g1, g2, g3⟩ := h9
  exact ⟨cell, g1, g2, by rw [← hcl]; exact g3⟩
theorem g_callST {E : String} (B : Amb D A0 ev own nm cc nL ret rm) (hc : CalOK y cc2 nL2 ret2 n) (hl : Cond.methodLink own index y ∈ gd) (hi : Cond.static y ∈ gd)
    (hM : ∀ l, l.stackTraces = false → Ctr D l y cc2 nL2 ret2 rm2 As X (.inl E) X') (hn : As.length = n) (hw : tW st ≤ 8) (hr : rm2.frames + 1 ≤ rm.frames ∧ 8 + (nL2 + 11) + rm2.locals ≤ rm.locals) (hf : cs + rm2.cells ≤ rm.cells ∧ sl + rm2.slots ≤ rm.slots) (d : decode cc pc = .ok (.invokestatic index, 3))
    (k9 : Gx D A0 ev Q X E (cs + rm2.cells) (sl + rm2.slots) pc L st) : Gd D A0 ev Q X cs sl pc L (As.reverse ++ st) := by
  obtain ⟨p, l, e9, R, s, m, args, below, meth, c9⟩ := ev
  intro H locs ls hR hA hS hl9
  have hRR : R = rm := B.2.2.2.2.2.2.2.1
  subst hRR
  rw [tS_rev']
  exact callXT (Q := Q) B.2.2.2.2.2.2.2.2.1 hR.2 hA hS (rest := tS st) (vx_runS (As := tS As) (rest := tS st) ⟨B.1, B.2.1, B.2.2.1, B.2.2.2.1, fun w hw => B.2.2.2.2.1.w hw⟩ (hM l B.2.2.2.2.2.2.2.2.2.1) ⟨callB B.2.2.2.2.1 hc hl hr, B.2.2.2.2.1.w hi⟩ ⟨cPc_blind, callP B.2.2.2.2.2.2.2.2.1 B.2.2.2.2.1 B.2.2.2.2.2.2.2.2.2.2.1 hR hA hS As⟩ rfl (by simpa [tS] using hn) (hl9.1.trans B.2.2.1) rfl (lv_room (m := m) (pc := pc) (ls := ls) (rest := []) (by rw [tW_sum]; exact hw)) d hf) (fun H1 locs1 q ce h1 h3 g1 g2 g3 => k9 H1 locs1 ls q ce h1 hA h3 hl9 g1 g2 g3)
end GX
theorem zM_K {X : Mem} {z : Nat} : mK (zM X z) = mK X := rfl
/-- not caught here -/
theorem g_out {D : DD} {ev : EV} {X : Mem} {X' : Mem} {E : String} {cs sl pc : Nat} {L : List (Nat × TV)} {st : List TV} {own nm : String} {cc : ByteArray} {nL : Nat} {ret : Option FieldType} {rm : Room} (B : Amb D (foot X) ev own nm cc nL ret rm) (ht : Tb0 ev) (hc : cs ≤ rm.cells) (hs : sl ≤ rm.slots) : Gx D (foot X) ev (QF D ev X (.inl E) X' rm) X E cs sl pc L st := by
  obtain ⟨p, l, e9, R, s, m, args, below, meth, c9⟩ := ev
  intro H locs ls q ce hR hA hS hl hce hcv hcl
  exact vx_out (fun x hx => (ht x hx).elim) B.2.2.2.2.2.1 hce hcv hcl (fun t h1 h2 => ⟨rfl, by rw [h1]; exact hR, hS.F h1⟩) hS.2.2 hc hs
end
section
/-! 'throw new X("text")' in the class TurtleChalk -/
abbrev nmsX : List String := ["java/lang/RuntimeException", "java/lang/Exception"]
def ThrOK (cls : String) (ic : Nat) : Prop := Bundle.fit cls = true ∧ (∀ n ∈ nmsX, Bundle.fit n = true) ∧ (∀ w ∈ vx_atS RX11 ic cls nmsX, w ∈ gd ∨ w ∈ castW ∨ w ∈ declW) ∧ (∀ w ∈ vx_atS RX11 ic cls nmsX, vx_ot w = true)
set_option maxRecDepth 20000 in
theorem thrA : ThrOK "java/lang/IllegalArgumentException" 184 := ⟨by decide +kernel, by decide +kernel, by decide +kernel, by decide +kernel⟩
set_option maxRecDepth 20000 in
theorem thrB : ThrOK "java/lang/IndexOutOfBoundsException" 208 := ⟨by decide +kernel, by decide +kernel, by decide +kernel, by decide +kernel⟩
set_option maxRecDepth 20000 in
theorem thrS : ThrOK "java/lang/IllegalStateException" 89 := ⟨by decide +kernel, by decide +kernel, by decide +kernel, by decide +kernel⟩
theorem castW_t : ∀ w ∈ castW, w.onTables = true := by decide +kernel
theorem declW_t : ∀ w ∈ declW, w.onTables = true := by decide +kernel
theorem RepM.grown {D : DD} {X : Mem} {H H1 : Heap} (h : RepM D X H) (oq : ∀ q : Nat, q < H.size → H1[q]? = H[q]?) : RepM D (zM X H1.size) H1 :=
  ⟨fun a c n hk => ⟨(h.1 a c n hk).1, (h.1 a c n hk).2.kept (oq a (h.1 a c n hk).2.lt)⟩, rfl⟩
section GT
variable {D : DD} {ev : EV} {X : Mem} {cs sl pc : Nat} {L : List (Nat × TV)} {st : List TV} {nm : String} {cc : ByteArray} {nL : Nat} {ret : Option FieldType} {rm : Room}
theorem thr_at {cls : String} {ic : Nat} {s : State} {args : Array Value} (hT : ThrOK cls ic) (hAK : AK D s) : ∀ w ∈ vx_atS RX11 ic cls nmsX, w.before args s = true := by
  intro w hw
  rcases hT.2.2.1 w hw with h | h | h
  · exact hAK.w h
  · exact va_Nw.use (castW_t w h) (hAK.2.2.2.2.1 w h)
  · exact va_Nw.use (declW_t w h) (hAK.2.2.2.2.2.1 w h)
theorem thr_ot {w : Cond} (h : w ∈ gd) (ht : w.onTables = true) : vx_ot w = true := by unfold vx_ot; rw [ht]; rfl
theorem g_throwS {cls text : String} {ik is ic : Nat} {X' : Mem} (B : Amb D (foot X) ev RX11 nm cc nL ret rm) (ht : Tb0 ev) (hT : ThrOK cls ic) (hk : Cond.classLink RX11 ik cls ∈ gd) (hini : Cond.initialized cls ∈ gd) (hstr : (is, text) ∈ strW)
    (d0 : decode cc pc = .ok (.new ik, 3)) (d3 : decode cc (pc + 3) = .ok (.dup, 1)) (d4 : decode cc (pc + 4) = .ok (.ldc is, 2)) (d6 : decode cc (pc + 6) = .ok (.invokespecial ic, 3)) (d9 : decode cc (pc + 9) = .ok (.athrow, 1)) (hw : tW st + 82 ≤ rm.locals) (hfr : 5 < rm.frames) (hcs : cs + 1 ≤ rm.cells) (hsl : sl + 6 ≤ rm.slots) : Gd D (foot X) ev (QF D ev X (.inl cls) X' rm) X cs sl pc L st := by
  obtain ⟨p, l, e9, R, s, m, args, below, meth, c9⟩ := ev
  intro H locs ls hR hA hS hl
  have hRR : R = rm := B.2.2.2.2.2.2.2.1
  subst hRR
  have hAK := B.2.2.2.2.1
  obtain ⟨sa, hsa⟩ := hAK.2.2.2.1 _ hstr
  refine vx_throwS (names := nmsX) (A := foot X) B.1 B.2.1 B.2.2.2.2.2.2.2.2.2.1 B.2.2.2.1 hT.1 hT.2.1 (hAK.w hk) (hAK.w hini) hsa (thr_at hT hAK) (fun w hw => ?_) B.2.2.2.2.2.2.2.2.2.2.1.1 B.2.2.2.2.2.2.2.2.2.2.1.2 hS hl.1 d0 d3 d4 d6 d9 (fun x hx => (ht x hx).elim) hfr (by rw [tW_sum]; exact hw) hcs hsl B.2.2.2.2.2.1 (fun t h1 h2 h3 => ⟨rfl, ⟨t.heap.size, hR.grown h3⟩, Nat.le_trans hS.1 h2, fun q g1 g2 => (h3 q (Nat.lt_of_lt_of_le g1 hS.1)).trans (hS.2.1 q g1 g2)⟩) hS.2.2 hcs hsl
  rcases List.mem_cons.mp hw with rfl | hw
  · rfl
  · rcases List.mem_cons.mp hw with rfl | hw
    · rfl
    · exact hT.2.2.2 w hw
theorem g_throwW {cls text : String} {ik is ic : Nat} {X' : Mem} (B : Amb D (foot X) ev RX11 nm cc nL ret rm) (ht : Tb0 ev) (hT : ThrOK cls ic) (hk : Cond.classLink RX11 ik cls ∈ gd) (hini : Cond.initialized cls ∈ gd) (hstr : (is, text) ∈ strW)
    (d0 : decode cc pc = .ok (.new ik, 3)) (d3 : decode cc (pc + 3) = .ok (.dup, 1)) (d4 : decode cc (pc + 4) = .ok (.ldc_w is, 3)) (d7 : decode cc (pc + 7) = .ok (.invokespecial ic, 3)) (d10 : decode cc (pc + 10) = .ok (.athrow, 1)) (hw : tW st + 82 ≤ rm.locals) (hfr : 5 < rm.frames) (hcs : cs + 1 ≤ rm.cells) (hsl : sl + 6 ≤ rm.slots) : Gd D (foot X) ev (QF D ev X (.inl cls) X' rm) X cs sl pc L st := by
  obtain ⟨p, l, e9, R, s, m, args, below, meth, c9⟩ := ev
  intro H locs ls hR hA hS hl
  have hRR : R = rm := B.2.2.2.2.2.2.2.1
  subst hRR
  have hAK := B.2.2.2.2.1
  obtain ⟨sa, hsa⟩ := hAK.2.2.2.1 _ hstr
  refine vx_throwSW (names := nmsX) (A := foot X) B.1 B.2.1 B.2.2.2.2.2.2.2.2.2.1 B.2.2.2.1 hT.1 hT.2.1 (hAK.w hk) (hAK.w hini) hsa (thr_at hT hAK) (fun w hw => ?_) B.2.2.2.2.2.2.2.2.2.2.1.1 B.2.2.2.2.2.2.2.2.2.2.1.2 hS hl.1 d0 d3 d4 d7 d10 (fun x hx => (ht x hx).elim) hfr (by rw [tW_sum]; exact hw) hcs hsl B.2.2.2.2.2.1 (fun t h1 h2 h3 => ⟨rfl, ⟨t.heap.size, hR.grown h3⟩, Nat.le_trans hS.1 h2, fun q g1 g2 => (h3 q (Nat.lt_of_lt_of_le g1 hS.1)).trans (hS.2.1 q g1 g2)⟩) hS.2.2 hcs hsl
  rcases List.mem_cons.mp hw with rfl | hw
  · rfl
  · rcases List.mem_cons.mp hw with rfl | hw
    · rfl
    · exact hT.2.2.2 w hw
end GT
end
section
theorem i_vc : Claimed_1_1 ∧ Claimed_1_2 := sorry
end
