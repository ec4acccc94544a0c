section
/-- a private method of a class that the tables say can be made, by its rows of tables_1 -/
def lw_okq (q : MethodName × Nat) : Prop := (q.1.cls ≠ "java/lang/invoke/MethodHandle" ∧ q.1.cls ≠ "java/lang/invoke/VarHandle") ∧ Cond.instantiable q.1.cls q.2 ∈ tables_1 ∧ Cond.privateMethod q.1 ∈ tables_1 ∧ Cond.instanceMethod q.1 ∈ tables_1
theorem lw_p0 : lw_okq (⟨"EndingCourt", "openTheBox", "()V"⟩, 10) := ⟨⟨by decide +kernel, by decide +kernel⟩, List.mem_of_getElem? (i := 18) (by decide +kernel), List.mem_of_getElem? (i := 341) (by decide +kernel), List.mem_of_getElem? (i := 342) (by decide +kernel)⟩
theorem lw_p1 : lw_okq (⟨"EndingCourt", "forgetPlaces", "()V"⟩, 10) := ⟨⟨by decide +kernel, by decide +kernel⟩, List.mem_of_getElem? (i := 18) (by decide +kernel), List.mem_of_getElem? (i := 345) (by decide +kernel), List.mem_of_getElem? (i := 346) (by decide +kernel)⟩
theorem lw_p2 : lw_okq (⟨"EndingCourt$Course", "lengthWithin", "(LEndingCourt$Program;[JI)I"⟩, 3) := ⟨⟨by decide +kernel, by decide +kernel⟩, List.mem_of_getElem? (i := 122) (by decide +kernel), List.mem_of_getElem? (i := 461) (by decide +kernel), List.mem_of_getElem? (i := 462) (by decide +kernel)⟩
theorem lw_p3 : lw_okq (⟨"EndingCourt$Course", "isSame", "()Z"⟩, 3) := ⟨⟨by decide +kernel, by decide +kernel⟩, List.mem_of_getElem? (i := 122) (by decide +kernel), List.mem_of_getElem? (i := 472) (by decide +kernel), List.mem_of_getElem? (i := 473) (by decide +kernel)⟩
theorem lw_p4 : lw_okq (⟨"EndingCourt$Course", "leadOf", "(LEndingCourt$Program;[JII)I"⟩, 3) := ⟨⟨by decide +kernel, by decide +kernel⟩, List.mem_of_getElem? (i := 122) (by decide +kernel), List.mem_of_getElem? (i := 476) (by decide +kernel), List.mem_of_getElem? (i := 477) (by decide +kernel)⟩
theorem lw_p5 : lw_okq (⟨"EndingCourt", "ask", "(III)Z"⟩, 10) := ⟨⟨by decide +kernel, by decide +kernel⟩, List.mem_of_getElem? (i := 18) (by decide +kernel), List.mem_of_getElem? (i := 488) (by decide +kernel), List.mem_of_getElem? (i := 489) (by decide +kernel)⟩
theorem lw_p6 : lw_okq (⟨"EndingCourt", "learnPlaces", "()V"⟩, 10) := ⟨⟨by decide +kernel, by decide +kernel⟩, List.mem_of_getElem? (i := 18) (by decide +kernel), List.mem_of_getElem? (i := 492) (by decide +kernel), List.mem_of_getElem? (i := 493) (by decide +kernel)⟩
theorem lw_p7 : lw_okq (⟨"EndingCourt$Shaper", "gather", "(LEndingCourt$Body;LEndingCourt$Box;)V"⟩, 4) := ⟨⟨by decide +kernel, by decide +kernel⟩, List.mem_of_getElem? (i := 166) (by decide +kernel), List.mem_of_getElem? (i := 500) (by decide +kernel), List.mem_of_getElem? (i := 501) (by decide +kernel)⟩
theorem lw_p8 : lw_okq (⟨"EndingCourt$Shaper", "addPlane", "(JJJJ)V"⟩, 4) := ⟨⟨by decide +kernel, by decide +kernel⟩, List.mem_of_getElem? (i := 166) (by decide +kernel), List.mem_of_getElem? (i := 504) (by decide +kernel), List.mem_of_getElem? (i := 505) (by decide +kernel)⟩
theorem lw_p9 : lw_okq (⟨"EndingCourt$Shaper", "addAxisPlane", "(IJJ)V"⟩, 4) := ⟨⟨by decide +kernel, by decide +kernel⟩, List.mem_of_getElem? (i := 166) (by decide +kernel), List.mem_of_getElem? (i := 513) (by decide +kernel), List.mem_of_getElem? (i := 514) (by decide +kernel)⟩
theorem lw_p10 : lw_okq (⟨"EndingCourt$Shaper", "findCorners", "(LEndingCourt$Place;)V"⟩, 4) := ⟨⟨by decide +kernel, by decide +kernel⟩, List.mem_of_getElem? (i := 166) (by decide +kernel), List.mem_of_getElem? (i := 522) (by decide +kernel), List.mem_of_getElem? (i := 523) (by decide +kernel)⟩
theorem lw_p11 : lw_okq (⟨"EndingCourt$Shaper", "meet", "(III)Z"⟩, 4) := ⟨⟨by decide +kernel, by decide +kernel⟩, List.mem_of_getElem? (i := 166) (by decide +kernel), List.mem_of_getElem? (i := 526) (by decide +kernel), List.mem_of_getElem? (i := 527) (by decide +kernel)⟩
theorem lw_p12 : lw_okq (⟨"EndingCourt$Shaper", "cross", "(III)J"⟩, 4) := ⟨⟨by decide +kernel, by decide +kernel⟩, List.mem_of_getElem? (i := 166) (by decide +kernel), List.mem_of_getElem? (i := 530) (by decide +kernel), List.mem_of_getElem? (i := 531) (by decide +kernel)⟩
theorem lw_p13 : lw_okq (⟨"EndingCourt$Shaper", "isInside", "()Z"⟩, 4) := ⟨⟨by decide +kernel, by decide +kernel⟩, List.mem_of_getElem? (i := 166) (by decide +kernel), List.mem_of_getElem? (i := 537) (by decide +kernel), List.mem_of_getElem? (i := 538) (by decide +kernel)⟩
theorem lw_p14 : lw_okq (⟨"EndingCourt$Shaper", "shrink", "()V"⟩, 4) := ⟨⟨by decide +kernel, by decide +kernel⟩, List.mem_of_getElem? (i := 166) (by decide +kernel), List.mem_of_getElem? (i := 541) (by decide +kernel), List.mem_of_getElem? (i := 542) (by decide +kernel)⟩
theorem lw_p15 : lw_okq (⟨"EndingCourt$Place", "hasPoint", "([J)Z"⟩, 4) := ⟨⟨by decide +kernel, by decide +kernel⟩, List.mem_of_getElem? (i := 41) (by decide +kernel), List.mem_of_getElem? (i := 552) (by decide +kernel), List.mem_of_getElem? (i := 553) (by decide +kernel)⟩
def lw_privs_1 : List (MethodName × Nat) := [(⟨"EndingCourt", "openTheBox", "()V"⟩, 10), (⟨"EndingCourt", "forgetPlaces", "()V"⟩, 10), (⟨"EndingCourt$Course", "lengthWithin", "(LEndingCourt$Program;[JI)I"⟩, 3), (⟨"EndingCourt$Course", "isSame", "()Z"⟩, 3), (⟨"EndingCourt$Course", "leadOf", "(LEndingCourt$Program;[JII)I"⟩, 3), (⟨"EndingCourt", "ask", "(III)Z"⟩, 10), (⟨"EndingCourt", "learnPlaces", "()V"⟩, 10), (⟨"EndingCourt$Shaper", "gather", "(LEndingCourt$Body;LEndingCourt$Box;)V"⟩, 4), (⟨"EndingCourt$Shaper", "addPlane", "(JJJJ)V"⟩, 4), (⟨"EndingCourt$Shaper", "addAxisPlane", "(IJJ)V"⟩, 4), (⟨"EndingCourt$Shaper", "findCorners", "(LEndingCourt$Place;)V"⟩, 4), (⟨"EndingCourt$Shaper", "meet", "(III)Z"⟩, 4), (⟨"EndingCourt$Shaper", "cross", "(III)J"⟩, 4), (⟨"EndingCourt$Shaper", "isInside", "()Z"⟩, 4), (⟨"EndingCourt$Shaper", "shrink", "()V"⟩, 4), (⟨"EndingCourt$Place", "hasPoint", "([J)Z"⟩, 4)]
theorem lw_r1 : ∀ q ∈ lw_privs_1, lw_okq q := List.forall_mem_cons.mpr ⟨lw_p0, List.forall_mem_cons.mpr ⟨lw_p1, List.forall_mem_cons.mpr ⟨lw_p2, List.forall_mem_cons.mpr ⟨lw_p3, List.forall_mem_cons.mpr ⟨lw_p4, List.forall_mem_cons.mpr ⟨lw_p5, List.forall_mem_cons.mpr ⟨lw_p6, List.forall_mem_cons.mpr ⟨lw_p7, List.forall_mem_cons.mpr ⟨lw_p8, List.forall_mem_cons.mpr ⟨lw_p9, List.forall_mem_cons.mpr ⟨lw_p10, List.forall_mem_cons.mpr ⟨lw_p11, List.forall_mem_cons.mpr ⟨lw_p12, List.forall_mem_cons.mpr ⟨lw_p13, List.forall_mem_cons.mpr ⟨lw_p14, List.forall_mem_cons.mpr ⟨lw_p15, fun _ h => absurd h List.not_mem_nil⟩⟩⟩⟩⟩⟩⟩⟩⟩⟩⟩⟩⟩⟩⟩⟩
theorem lw_p16 : lw_okq (⟨"EndingCourt$Shaper", "findDirections", "(LEndingCourt$Place;)V"⟩, 4) := ⟨⟨by decide +kernel, by decide +kernel⟩, List.mem_of_getElem? (i := 166) (by decide +kernel), List.mem_of_getElem? (i := 561) (by decide +kernel), List.mem_of_getElem? (i := 562) (by decide +kernel)⟩
theorem lw_p17 : lw_okq (⟨"EndingCourt$Shaper", "follow", "(III)Z"⟩, 4) := ⟨⟨by decide +kernel, by decide +kernel⟩, List.mem_of_getElem? (i := 166) (by decide +kernel), List.mem_of_getElem? (i := 565) (by decide +kernel), List.mem_of_getElem? (i := 566) (by decide +kernel)⟩
theorem lw_p18 : lw_okq (⟨"EndingCourt$Place", "valueAt", "([II)J"⟩, 4) := ⟨⟨by decide +kernel, by decide +kernel⟩, List.mem_of_getElem? (i := 41) (by decide +kernel), List.mem_of_getElem? (i := 585) (by decide +kernel), List.mem_of_getElem? (i := 586) (by decide +kernel)⟩
theorem lw_p19 : lw_okq (⟨"EndingCourt$SumOrder", "nextPair", "()Z"⟩, 6) := ⟨⟨by decide +kernel, by decide +kernel⟩, List.mem_of_getElem? (i := 191) (by decide +kernel), List.mem_of_getElem? (i := 643) (by decide +kernel), List.mem_of_getElem? (i := 644) (by decide +kernel)⟩
theorem lw_p20 : lw_okq (⟨"EndingCourt$Findings", "keep", "(I)V"⟩, 7) := ⟨⟨by decide +kernel, by decide +kernel⟩, List.mem_of_getElem? (i := 185) (by decide +kernel), List.mem_of_getElem? (i := 653) (by decide +kernel), List.mem_of_getElem? (i := 654) (by decide +kernel)⟩
theorem lw_p21 : lw_okq (⟨"EndingCourt$Findings", "seekRow", "(LEndingCourt$Program;I)Z"⟩, 7) := ⟨⟨by decide +kernel, by decide +kernel⟩, List.mem_of_getElem? (i := 185) (by decide +kernel), List.mem_of_getElem? (i := 665) (by decide +kernel), List.mem_of_getElem? (i := 666) (by decide +kernel)⟩
theorem lw_p22 : lw_okq (⟨"EndingCourt$Findings", "isRow", "(LEndingCourt$Program;[I)Z"⟩, 7) := ⟨⟨by decide +kernel, by decide +kernel⟩, List.mem_of_getElem? (i := 185) (by decide +kernel), List.mem_of_getElem? (i := 669) (by decide +kernel), List.mem_of_getElem? (i := 670) (by decide +kernel)⟩
theorem lw_p23 : lw_okq (⟨"EndingCourt$Findings", "release", "(LEndingCourt$Program;I)I"⟩, 7) := ⟨⟨by decide +kernel, by decide +kernel⟩, List.mem_of_getElem? (i := 185) (by decide +kernel), List.mem_of_getElem? (i := 675) (by decide +kernel), List.mem_of_getElem? (i := 676) (by decide +kernel)⟩
theorem lw_p24 : lw_okq (⟨"EndingCourt$Rounds", "lookAtBodies", "(LEndingCourt$Program;)V"⟩, 2) := ⟨⟨by decide +kernel, by decide +kernel⟩, List.mem_of_getElem? (i := 150) (by decide +kernel), List.mem_of_getElem? (i := 736) (by decide +kernel), List.mem_of_getElem? (i := 737) (by decide +kernel)⟩
theorem lw_p25 : lw_okq (⟨"EndingCourt$Rounds", "settle", "(Z)Z"⟩, 2) := ⟨⟨by decide +kernel, by decide +kernel⟩, List.mem_of_getElem? (i := 150) (by decide +kernel), List.mem_of_getElem? (i := 759) (by decide +kernel), List.mem_of_getElem? (i := 760) (by decide +kernel)⟩
theorem lw_p26 : lw_okq (⟨"EndingCourt$Calls", "makeAll", "()Z"⟩, 8) := ⟨⟨by decide +kernel, by decide +kernel⟩, List.mem_of_getElem? (i := 246) (by decide +kernel), List.mem_of_getElem? (i := 815) (by decide +kernel), List.mem_of_getElem? (i := 816) (by decide +kernel)⟩
theorem lw_p27 : lw_okq (⟨"EndingCourt$Calls", "keep", "(J)Z"⟩, 8) := ⟨⟨by decide +kernel, by decide +kernel⟩, List.mem_of_getElem? (i := 246) (by decide +kernel), List.mem_of_getElem? (i := 820) (by decide +kernel), List.mem_of_getElem? (i := 821) (by decide +kernel)⟩
theorem lw_p28 : lw_okq (⟨"EndingCourt$Calls", "firstFault", "()I"⟩, 8) := ⟨⟨by decide +kernel, by decide +kernel⟩, List.mem_of_getElem? (i := 246) (by decide +kernel), List.mem_of_getElem? (i := 841) (by decide +kernel), List.mem_of_getElem? (i := 842) (by decide +kernel)⟩
theorem lw_p29 : lw_okq (⟨"EndingCourtModel", "openAll", "()V"⟩, 50) := ⟨⟨by decide +kernel, by decide +kernel⟩, List.mem_of_getElem? (i := 862) (by decide +kernel), List.mem_of_getElem? (i := 869) (by decide +kernel), List.mem_of_getElem? (i := 870) (by decide +kernel)⟩
theorem lw_p30 : lw_okq (⟨"EndingCourtModel", "isBody", "(I)Z"⟩, 50) := ⟨⟨by decide +kernel, by decide +kernel⟩, List.mem_of_getElem? (i := 862) (by decide +kernel), List.mem_of_getElem? (i := 1037) (by decide +kernel), List.mem_of_getElem? (i := 1038) (by decide +kernel)⟩
theorem lw_p31 : lw_okq (⟨"EndingCourtModel", "lay", "([IIII)V"⟩, 50) := ⟨⟨by decide +kernel, by decide +kernel⟩, List.mem_of_getElem? (i := 862) (by decide +kernel), List.mem_of_getElem? (i := 1045) (by decide +kernel), List.mem_of_getElem? (i := 1046) (by decide +kernel)⟩
def lw_privs_2 : List (MethodName × Nat) := [(⟨"EndingCourt$Shaper", "findDirections", "(LEndingCourt$Place;)V"⟩, 4), (⟨"EndingCourt$Shaper", "follow", "(III)Z"⟩, 4), (⟨"EndingCourt$Place", "valueAt", "([II)J"⟩, 4), (⟨"EndingCourt$SumOrder", "nextPair", "()Z"⟩, 6), (⟨"EndingCourt$Findings", "keep", "(I)V"⟩, 7), (⟨"EndingCourt$Findings", "seekRow", "(LEndingCourt$Program;I)Z"⟩, 7), (⟨"EndingCourt$Findings", "isRow", "(LEndingCourt$Program;[I)Z"⟩, 7), (⟨"EndingCourt$Findings", "release", "(LEndingCourt$Program;I)I"⟩, 7), (⟨"EndingCourt$Rounds", "lookAtBodies", "(LEndingCourt$Program;)V"⟩, 2), (⟨"EndingCourt$Rounds", "settle", "(Z)Z"⟩, 2), (⟨"EndingCourt$Calls", "makeAll", "()Z"⟩, 8), (⟨"EndingCourt$Calls", "keep", "(J)Z"⟩, 8), (⟨"EndingCourt$Calls", "firstFault", "()I"⟩, 8), (⟨"EndingCourtModel", "openAll", "()V"⟩, 50), (⟨"EndingCourtModel", "isBody", "(I)Z"⟩, 50), (⟨"EndingCourtModel", "lay", "([IIII)V"⟩, 50)]
theorem lw_r2 : ∀ q ∈ lw_privs_2, lw_okq q := List.forall_mem_cons.mpr ⟨lw_p16, List.forall_mem_cons.mpr ⟨lw_p17, List.forall_mem_cons.mpr ⟨lw_p18, List.forall_mem_cons.mpr ⟨lw_p19, List.forall_mem_cons.mpr ⟨lw_p20, List.forall_mem_cons.mpr ⟨lw_p21, List.forall_mem_cons.mpr ⟨lw_p22, List.forall_mem_cons.mpr ⟨lw_p23, List.forall_mem_cons.mpr ⟨lw_p24, List.forall_mem_cons.mpr ⟨lw_p25, List.forall_mem_cons.mpr ⟨lw_p26, List.forall_mem_cons.mpr ⟨lw_p27, List.forall_mem_cons.mpr ⟨lw_p28, List.forall_mem_cons.mpr ⟨lw_p29, List.forall_mem_cons.mpr ⟨lw_p30, List.forall_mem_cons.mpr ⟨lw_p31, fun _ h => absurd h List.not_mem_nil⟩⟩⟩⟩⟩⟩⟩⟩⟩⟩⟩⟩⟩⟩⟩⟩
theorem lw_p32 : lw_okq (⟨"EndingCourtModel", "turnFrom", "([J)I"⟩, 50) := ⟨⟨by decide +kernel, by decide +kernel⟩, List.mem_of_getElem? (i := 862) (by decide +kernel), List.mem_of_getElem? (i := 1071) (by decide +kernel), List.mem_of_getElem? (i := 1072) (by decide +kernel)⟩
theorem lw_p33 : lw_okq (⟨"EndingCourtModel", "turnAt", "([J)I"⟩, 50) := ⟨⟨by decide +kernel, by decide +kernel⟩, List.mem_of_getElem? (i := 862) (by decide +kernel), List.mem_of_getElem? (i := 1075) (by decide +kernel), List.mem_of_getElem? (i := 1076) (by decide +kernel)⟩
theorem lw_p34 : lw_okq (⟨"EndingCourtModel", "keep", "([JI)I"⟩, 50) := ⟨⟨by decide +kernel, by decide +kernel⟩, List.mem_of_getElem? (i := 862) (by decide +kernel), List.mem_of_getElem? (i := 1095) (by decide +kernel), List.mem_of_getElem? (i := 1096) (by decide +kernel)⟩
theorem lw_p35 : lw_okq (⟨"EndingCourtModel", "isSum", "(III)Z"⟩, 50) := ⟨⟨by decide +kernel, by decide +kernel⟩, List.mem_of_getElem? (i := 862) (by decide +kernel), List.mem_of_getElem? (i := 1110) (by decide +kernel), List.mem_of_getElem? (i := 1111) (by decide +kernel)⟩
theorem lw_p36 : lw_okq (⟨"EndingCourtModel", "doesRank", "(III)Z"⟩, 50) := ⟨⟨by decide +kernel, by decide +kernel⟩, List.mem_of_getElem? (i := 862) (by decide +kernel), List.mem_of_getElem? (i := 1114) (by decide +kernel), List.mem_of_getElem? (i := 1115) (by decide +kernel)⟩
theorem lw_p37 : lw_okq (⟨"EndingCourtModel", "tellsOf", "(IIII)I"⟩, 50) := ⟨⟨by decide +kernel, by decide +kernel⟩, List.mem_of_getElem? (i := 862) (by decide +kernel), List.mem_of_getElem? (i := 1118) (by decide +kernel), List.mem_of_getElem? (i := 1119) (by decide +kernel)⟩
theorem lw_p38 : lw_okq (⟨"EndingCourtModel", "laySides", "(I)V"⟩, 50) := ⟨⟨by decide +kernel, by decide +kernel⟩, List.mem_of_getElem? (i := 862) (by decide +kernel), List.mem_of_getElem? (i := 1122) (by decide +kernel), List.mem_of_getElem? (i := 1123) (by decide +kernel)⟩
theorem lw_p39 : lw_okq (⟨"EndingCourtModel", "addSide", "(JJJJ)V"⟩, 50) := ⟨⟨by decide +kernel, by decide +kernel⟩, List.mem_of_getElem? (i := 862) (by decide +kernel), List.mem_of_getElem? (i := 1126) (by decide +kernel), List.mem_of_getElem? (i := 1127) (by decide +kernel)⟩
theorem lw_p40 : lw_okq (⟨"EndingCourtModel", "isZero", "(I)Z"⟩, 50) := ⟨⟨by decide +kernel, by decide +kernel⟩, List.mem_of_getElem? (i := 862) (by decide +kernel), List.mem_of_getElem? (i := 1131) (by decide +kernel), List.mem_of_getElem? (i := 1132) (by decide +kernel)⟩
theorem lw_p41 : lw_okq (⟨"EndingCourtModel", "twoLeaveNothing", "(II)Z"⟩, 50) := ⟨⟨by decide +kernel, by decide +kernel⟩, List.mem_of_getElem? (i := 862) (by decide +kernel), List.mem_of_getElem? (i := 1135) (by decide +kernel), List.mem_of_getElem? (i := 1136) (by decide +kernel)⟩
theorem lw_p42 : lw_okq (⟨"EndingCourtModel", "areParallel", "(II)Z"⟩, 50) := ⟨⟨by decide +kernel, by decide +kernel⟩, List.mem_of_getElem? (i := 862) (by decide +kernel), List.mem_of_getElem? (i := 1139) (by decide +kernel), List.mem_of_getElem? (i := 1140) (by decide +kernel)⟩
theorem lw_p43 : lw_okq (⟨"EndingCourtModel", "cross", "(III)J"⟩, 50) := ⟨⟨by decide +kernel, by decide +kernel⟩, List.mem_of_getElem? (i := 862) (by decide +kernel), List.mem_of_getElem? (i := 1143) (by decide +kernel), List.mem_of_getElem? (i := 1144) (by decide +kernel)⟩
theorem lw_p44 : lw_okq (⟨"EndingCourtModel", "threeLeaveNothing", "(III)Z"⟩, 50) := ⟨⟨by decide +kernel, by decide +kernel⟩, List.mem_of_getElem? (i := 862) (by decide +kernel), List.mem_of_getElem? (i := 1148) (by decide +kernel), List.mem_of_getElem? (i := 1149) (by decide +kernel)⟩
theorem lw_p45 : lw_okq (⟨"EndingCourtModel", "determinant", "(III)J"⟩, 50) := ⟨⟨by decide +kernel, by decide +kernel⟩, List.mem_of_getElem? (i := 862) (by decide +kernel), List.mem_of_getElem? (i := 1152) (by decide +kernel), List.mem_of_getElem? (i := 1153) (by decide +kernel)⟩
theorem lw_p46 : lw_okq (⟨"EndingCourtModel", "leaveNothing", "(JJJJIIII)Z"⟩, 50) := ⟨⟨by decide +kernel, by decide +kernel⟩, List.mem_of_getElem? (i := 862) (by decide +kernel), List.mem_of_getElem? (i := 1156) (by decide +kernel), List.mem_of_getElem? (i := 1157) (by decide +kernel)⟩
theorem lw_p47 : lw_okq (⟨"EndingCourtModel", "fourLeaveNothing", "(IIII)Z"⟩, 50) := ⟨⟨by decide +kernel, by decide +kernel⟩, List.mem_of_getElem? (i := 862) (by decide +kernel), List.mem_of_getElem? (i := 1160) (by decide +kernel), List.mem_of_getElem? (i := 1161) (by decide +kernel)⟩
def lw_privs_3 : List (MethodName × Nat) := [(⟨"EndingCourtModel", "turnFrom", "([J)I"⟩, 50), (⟨"EndingCourtModel", "turnAt", "([J)I"⟩, 50), (⟨"EndingCourtModel", "keep", "([JI)I"⟩, 50), (⟨"EndingCourtModel", "isSum", "(III)Z"⟩, 50), (⟨"EndingCourtModel", "doesRank", "(III)Z"⟩, 50), (⟨"EndingCourtModel", "tellsOf", "(IIII)I"⟩, 50), (⟨"EndingCourtModel", "laySides", "(I)V"⟩, 50), (⟨"EndingCourtModel", "addSide", "(JJJJ)V"⟩, 50), (⟨"EndingCourtModel", "isZero", "(I)Z"⟩, 50), (⟨"EndingCourtModel", "twoLeaveNothing", "(II)Z"⟩, 50), (⟨"EndingCourtModel", "areParallel", "(II)Z"⟩, 50), (⟨"EndingCourtModel", "cross", "(III)J"⟩, 50), (⟨"EndingCourtModel", "threeLeaveNothing", "(III)Z"⟩, 50), (⟨"EndingCourtModel", "determinant", "(III)J"⟩, 50), (⟨"EndingCourtModel", "leaveNothing", "(JJJJIIII)Z"⟩, 50), (⟨"EndingCourtModel", "fourLeaveNothing", "(IIII)Z"⟩, 50)]
theorem lw_r3 : ∀ q ∈ lw_privs_3, lw_okq q := List.forall_mem_cons.mpr ⟨lw_p32, List.forall_mem_cons.mpr ⟨lw_p33, List.forall_mem_cons.mpr ⟨lw_p34, List.forall_mem_cons.mpr ⟨lw_p35, List.forall_mem_cons.mpr ⟨lw_p36, List.forall_mem_cons.mpr ⟨lw_p37, List.forall_mem_cons.mpr ⟨lw_p38, List.forall_mem_cons.mpr ⟨lw_p39, List.forall_mem_cons.mpr ⟨lw_p40, List.forall_mem_cons.mpr ⟨lw_p41, List.forall_mem_cons.mpr ⟨lw_p42, List.forall_mem_cons.mpr ⟨lw_p43, List.forall_mem_cons.mpr ⟨lw_p44, List.forall_mem_cons.mpr ⟨lw_p45, List.forall_mem_cons.mpr ⟨lw_p46, List.forall_mem_cons.mpr ⟨lw_p47, fun _ h => absurd h List.not_mem_nil⟩⟩⟩⟩⟩⟩⟩⟩⟩⟩⟩⟩⟩⟩⟩⟩
theorem lw_p48 : lw_okq (⟨"EndingCourtModel", "findLeast", "()V"⟩, 50) := ⟨⟨by decide +kernel, by decide +kernel⟩, List.mem_of_getElem? (i := 862) (by decide +kernel), List.mem_of_getElem? (i := 1164) (by decide +kernel), List.mem_of_getElem? (i := 1165) (by decide +kernel)⟩
theorem lw_p49 : lw_okq (⟨"EndingCourtModel", "byOne", "(I)V"⟩, 50) := ⟨⟨by decide +kernel, by decide +kernel⟩, List.mem_of_getElem? (i := 862) (by decide +kernel), List.mem_of_getElem? (i := 1168) (by decide +kernel), List.mem_of_getElem? (i := 1169) (by decide +kernel)⟩
theorem lw_p50 : lw_okq (⟨"EndingCourtModel", "crossWanted", "(II)J"⟩, 50) := ⟨⟨by decide +kernel, by decide +kernel⟩, List.mem_of_getElem? (i := 862) (by decide +kernel), List.mem_of_getElem? (i := 1172) (by decide +kernel), List.mem_of_getElem? (i := 1173) (by decide +kernel)⟩
theorem lw_p51 : lw_okq (⟨"EndingCourtModel", "offer", "(JJJJIII)V"⟩, 50) := ⟨⟨by decide +kernel, by decide +kernel⟩, List.mem_of_getElem? (i := 862) (by decide +kernel), List.mem_of_getElem? (i := 1176) (by decide +kernel), List.mem_of_getElem? (i := 1177) (by decide +kernel)⟩
theorem lw_p52 : lw_okq (⟨"EndingCourtModel", "byTwo", "(II)V"⟩, 50) := ⟨⟨by decide +kernel, by decide +kernel⟩, List.mem_of_getElem? (i := 862) (by decide +kernel), List.mem_of_getElem? (i := 1188) (by decide +kernel), List.mem_of_getElem? (i := 1189) (by decide +kernel)⟩
theorem lw_p53 : lw_okq (⟨"EndingCourtModel", "determinantWanted", "(II)J"⟩, 50) := ⟨⟨by decide +kernel, by decide +kernel⟩, List.mem_of_getElem? (i := 862) (by decide +kernel), List.mem_of_getElem? (i := 1192) (by decide +kernel), List.mem_of_getElem? (i := 1193) (by decide +kernel)⟩
theorem lw_p54 : lw_okq (⟨"EndingCourtModel", "isLeastAtLeast", "(J)Z"⟩, 50) := ⟨⟨by decide +kernel, by decide +kernel⟩, List.mem_of_getElem? (i := 862) (by decide +kernel), List.mem_of_getElem? (i := 1196) (by decide +kernel), List.mem_of_getElem? (i := 1197) (by decide +kernel)⟩
theorem lw_p55 : lw_okq (⟨"EndingCourtModel", "floorOf", "(III)J"⟩, 50) := ⟨⟨by decide +kernel, by decide +kernel⟩, List.mem_of_getElem? (i := 862) (by decide +kernel), List.mem_of_getElem? (i := 1208) (by decide +kernel), List.mem_of_getElem? (i := 1209) (by decide +kernel)⟩
theorem lw_p56 : lw_okq (⟨"EndingCourtModel", "firstSum", "(I)V"⟩, 50) := ⟨⟨by decide +kernel, by decide +kernel⟩, List.mem_of_getElem? (i := 862) (by decide +kernel), List.mem_of_getElem? (i := 1220) (by decide +kernel), List.mem_of_getElem? (i := 1221) (by decide +kernel)⟩
theorem lw_p57 : lw_okq (⟨"EndingCourtModel", "nextSum", "(I)Z"⟩, 50) := ⟨⟨by decide +kernel, by decide +kernel⟩, List.mem_of_getElem? (i := 862) (by decide +kernel), List.mem_of_getElem? (i := 1224) (by decide +kernel), List.mem_of_getElem? (i := 1225) (by decide +kernel)⟩
theorem lw_p58 : lw_okq (⟨"EndingCourtModel", "step", "(I)Z"⟩, 50) := ⟨⟨by decide +kernel, by decide +kernel⟩, List.mem_of_getElem? (i := 862) (by decide +kernel), List.mem_of_getElem? (i := 1229) (by decide +kernel), List.mem_of_getElem? (i := 1230) (by decide +kernel)⟩
theorem lw_p59 : lw_okq (⟨"EndingCourtModel", "takes", "()Z"⟩, 50) := ⟨⟨by decide +kernel, by decide +kernel⟩, List.mem_of_getElem? (i := 862) (by decide +kernel), List.mem_of_getElem? (i := 1237) (by decide +kernel), List.mem_of_getElem? (i := 1238) (by decide +kernel)⟩
theorem lw_p60 : lw_okq (⟨"EndingCourtModel", "goRound", "()Z"⟩, 50) := ⟨⟨by decide +kernel, by decide +kernel⟩, List.mem_of_getElem? (i := 862) (by decide +kernel), List.mem_of_getElem? (i := 1263) (by decide +kernel), List.mem_of_getElem? (i := 1264) (by decide +kernel)⟩
theorem lw_p61 : lw_okq (⟨"EndingCourtModel", "isPassed", "(I)Z"⟩, 50) := ⟨⟨by decide +kernel, by decide +kernel⟩, List.mem_of_getElem? (i := 862) (by decide +kernel), List.mem_of_getElem? (i := 1267) (by decide +kernel), List.mem_of_getElem? (i := 1268) (by decide +kernel)⟩
theorem lw_p62 : lw_okq (⟨"EndingCourtModel", "reach", "([III)V"⟩, 50) := ⟨⟨by decide +kernel, by decide +kernel⟩, List.mem_of_getElem? (i := 862) (by decide +kernel), List.mem_of_getElem? (i := 1271) (by decide +kernel), List.mem_of_getElem? (i := 1272) (by decide +kernel)⟩
theorem lw_p63 : lw_okq (⟨"EndingCourtModel", "isChanged", "(I)Z"⟩, 50) := ⟨⟨by decide +kernel, by decide +kernel⟩, List.mem_of_getElem? (i := 862) (by decide +kernel), List.mem_of_getElem? (i := 1275) (by decide +kernel), List.mem_of_getElem? (i := 1276) (by decide +kernel)⟩
def lw_privs_4 : List (MethodName × Nat) := [(⟨"EndingCourtModel", "findLeast", "()V"⟩, 50), (⟨"EndingCourtModel", "byOne", "(I)V"⟩, 50), (⟨"EndingCourtModel", "crossWanted", "(II)J"⟩, 50), (⟨"EndingCourtModel", "offer", "(JJJJIII)V"⟩, 50), (⟨"EndingCourtModel", "byTwo", "(II)V"⟩, 50), (⟨"EndingCourtModel", "determinantWanted", "(II)J"⟩, 50), (⟨"EndingCourtModel", "isLeastAtLeast", "(J)Z"⟩, 50), (⟨"EndingCourtModel", "floorOf", "(III)J"⟩, 50), (⟨"EndingCourtModel", "firstSum", "(I)V"⟩, 50), (⟨"EndingCourtModel", "nextSum", "(I)Z"⟩, 50), (⟨"EndingCourtModel", "step", "(I)Z"⟩, 50), (⟨"EndingCourtModel", "takes", "()Z"⟩, 50), (⟨"EndingCourtModel", "goRound", "()Z"⟩, 50), (⟨"EndingCourtModel", "isPassed", "(I)Z"⟩, 50), (⟨"EndingCourtModel", "reach", "([III)V"⟩, 50), (⟨"EndingCourtModel", "isChanged", "(I)Z"⟩, 50)]
theorem lw_r4 : ∀ q ∈ lw_privs_4, lw_okq q := List.forall_mem_cons.mpr ⟨lw_p48, List.forall_mem_cons.mpr ⟨lw_p49, List.forall_mem_cons.mpr ⟨lw_p50, List.forall_mem_cons.mpr ⟨lw_p51, List.forall_mem_cons.mpr ⟨lw_p52, List.forall_mem_cons.mpr ⟨lw_p53, List.forall_mem_cons.mpr ⟨lw_p54, List.forall_mem_cons.mpr ⟨lw_p55, List.forall_mem_cons.mpr ⟨lw_p56, List.forall_mem_cons.mpr ⟨lw_p57, List.forall_mem_cons.mpr ⟨lw_p58, List.forall_mem_cons.mpr ⟨lw_p59, List.forall_mem_cons.mpr ⟨lw_p60, List.forall_mem_cons.mpr ⟨lw_p61, List.forall_mem_cons.mpr ⟨lw_p62, List.forall_mem_cons.mpr ⟨lw_p63, fun _ h => absurd h List.not_mem_nil⟩⟩⟩⟩⟩⟩⟩⟩⟩⟩⟩⟩⟩⟩⟩⟩
theorem lw_p64 : lw_okq (⟨"EndingCourtModel", "makeAll", "()Z"⟩, 50) := ⟨⟨by decide +kernel, by decide +kernel⟩, List.mem_of_getElem? (i := 862) (by decide +kernel), List.mem_of_getElem? (i := 1303) (by decide +kernel), List.mem_of_getElem? (i := 1304) (by decide +kernel)⟩
theorem lw_p65 : lw_okq (⟨"EndingCourtModel", "make", "(III)Z"⟩, 50) := ⟨⟨by decide +kernel, by decide +kernel⟩, List.mem_of_getElem? (i := 862) (by decide +kernel), List.mem_of_getElem? (i := 1307) (by decide +kernel), List.mem_of_getElem? (i := 1308) (by decide +kernel)⟩
theorem lw_p66 : lw_okq (⟨"EndingCourtModel", "together", "(II)I"⟩, 50) := ⟨⟨by decide +kernel, by decide +kernel⟩, List.mem_of_getElem? (i := 862) (by decide +kernel), List.mem_of_getElem? (i := 1311) (by decide +kernel), List.mem_of_getElem? (i := 1312) (by decide +kernel)⟩
theorem lw_p67 : lw_okq (⟨"EndingCourtModel", "isAsked", "(I)Z"⟩, 50) := ⟨⟨by decide +kernel, by decide +kernel⟩, List.mem_of_getElem? (i := 862) (by decide +kernel), List.mem_of_getElem? (i := 1318) (by decide +kernel), List.mem_of_getElem? (i := 1319) (by decide +kernel)⟩
def lw_privs_5 : List (MethodName × Nat) := [(⟨"EndingCourtModel", "makeAll", "()Z"⟩, 50), (⟨"EndingCourtModel", "make", "(III)Z"⟩, 50), (⟨"EndingCourtModel", "together", "(II)I"⟩, 50), (⟨"EndingCourtModel", "isAsked", "(I)Z"⟩, 50)]
theorem lw_r5 : ∀ q ∈ lw_privs_5, lw_okq q := List.forall_mem_cons.mpr ⟨lw_p64, List.forall_mem_cons.mpr ⟨lw_p65, List.forall_mem_cons.mpr ⟨lw_p66, List.forall_mem_cons.mpr ⟨lw_p67, fun _ h => absurd h List.not_mem_nil⟩⟩⟩⟩
def lw_privs : List (MethodName × Nat) := lw_privs_1 ++ (lw_privs_2 ++ (lw_privs_3 ++ (lw_privs_4 ++ (lw_privs_5))))
def lw_tbl : List Cond := k2_sels lw_privs ++ tables_1
theorem lw_privs_ok : ∀ q ∈ lw_privs, lw_okq q := by
  show ∀ q ∈ lw_privs_1 ++ (lw_privs_2 ++ (lw_privs_3 ++ (lw_privs_4 ++ (lw_privs_5)))), lw_okq q
  exact List.forall_mem_append.mpr ⟨lw_r1, List.forall_mem_append.mpr ⟨lw_r2, List.forall_mem_append.mpr ⟨lw_r3, List.forall_mem_append.mpr ⟨lw_r4, lw_r5⟩⟩⟩⟩
end
section
/-! ===== BEGIN words of one list among another's, by their places ===== -/
theorem goodIn_r {big : List Cond} (ws : List Cond) (ps : List Nat) (hp : ws = ps.filterMap (fun i => big[i]?)) (h : ws.all goodWord = true) : GoodIn big ws := by
  intro w hw
  have h1 := List.all_eq_true.mp h w hw
  rw [hp] at hw
  obtain ⟨i, -, hi⟩ := List.mem_filterMap.mp hw
  have hm : w ∈ big := by first | exact List.mem_of_getElem? hi | exact List.getElem?_mem hi
  exact ⟨hm, good_of_word h1⟩
theorem goodIn_app {big a b : List Cond} (ha : GoodIn big a) (hb : GoodIn big b) : GoodIn big (a ++ b) := fun w h => (List.mem_append.mp h).elim (ha w) (hb w)
theorem goodIn_ca {big a b : List Cond} {c : Cond} (ha : GoodIn big (c :: a)) (hb : GoodIn big b) : GoodIn big (c :: (a ++ b)) := fun w h => (List.mem_cons.mp h).elim (fun e => ha w (List.mem_cons.mpr (Or.inl e))) (fun h => (List.mem_append.mp h).elim (fun h => ha w (List.mem_cons.mpr (Or.inr h))) (hb w))
theorem goodIn_sub {big ws : List Cond} (hm : ∀ w ∈ ws, w ∈ big) (h : ws.all goodWord = true) : GoodIn big ws := fun w hw => ⟨hm w hw, good_of_word (List.all_eq_true.mp h w hw)⟩
/-! ===== END ===== -/

/-! ===== BEGIN printed: names, fields, word lists, decode rows ===== -/
def RX0 : String := "EndingCourt$Affine"
def TX0 : u_T := fun k => match k with
  | 0 => ("EndingCourt$Affine", "weights", "[I", true)
  | _ => ("EndingCourt$Affine", "constant", "I", false)
def tyX0 : Nat → FieldType := fun k => match k with
  | 0 => .array .int
  | _ => .int
abbrev wsX00 : List Cond := u_ws RX0 TX0 2
theorem nmX0 : ∀ a, a < 2 → ∀ b, b < 2 → a ≠ b → (TX0 a).2.1 ≠ (TX0 b).2.1 := by decide +kernel
theorem tyX0_ok : ∀ k, k < 2 → parseFieldDescriptor (TX0 k).2.2.1 = some (tyX0 k) := by decide +kernel
abbrev cX0_init : ByteArray := prog_2_method_1_code
def yX0_init : MethodName := ⟨RX0, "<init>", "()V"⟩
abbrev cX0_put : ByteArray := prog_2_method_2_code
def yX0_put : MethodName := ⟨RX0, "put", "(III)V"⟩
abbrev cX0_putSame : ByteArray := prog_2_method_3_code
def yX0_putSame : MethodName := ⟨RX0, "putSame", "(I)V"⟩
abbrev cX0_valueAt : ByteArray := prog_2_method_4_code
def yX0_valueAt : MethodName := ⟨RX0, "valueAt", "([J)J"⟩
abbrev cX0_farthest : ByteArray := prog_2_method_5_code
def yX0_farthest : MethodName := ⟨RX0, "farthest", "(LEndingCourt$Box;I)J"⟩
def RX1 : String := "EndingCourt$Body"
def TX1 : u_T := fun k => match k with
  | 0 => ("EndingCourt$Body", "guards", "[LEndingCourt$Affine;", true)
  | 1 => ("EndingCourt$Body", "rules", "[LEndingCourt$Affine;", true)
  | 2 => ("EndingCourt$Body", "place", "LEndingCourt$Place;", true)
  | 3 => ("EndingCourt$Body", "change", "[J", true)
  | _ => ("EndingCourt$Body", "guardCount", "I", false)
def tyX1 : Nat → FieldType := fun k => match k with
  | 0 => .array (.object "EndingCourt$Affine")
  | 1 => .array (.object "EndingCourt$Affine")
  | 2 => .object "EndingCourt$Place"
  | 3 => .array .long
  | _ => .int
abbrev wsX10 : List Cond := u_ws RX1 TX1 5
theorem nmX1 : ∀ a, a < 5 → ∀ b, b < 5 → a ≠ b → (TX1 a).2.1 ≠ (TX1 b).2.1 := by decide +kernel
theorem tyX1_ok : ∀ k, k < 5 → parseFieldDescriptor (TX1 k).2.2.1 = some (tyX1 k) := by decide +kernel
abbrev cX1_init : ByteArray := prog_3_method_1_code
def yX1_init : MethodName := ⟨RX1, "<init>", "()V"⟩
abbrev cX1_startAnew : ByteArray := prog_3_method_2_code
def yX1_startAnew : MethodName := ⟨RX1, "startAnew", "()V"⟩
abbrev cX1_addGuard : ByteArray := prog_3_method_3_code
def yX1_addGuard : MethodName := ⟨RX1, "addGuard", "(III)V"⟩
abbrev cX1_holdsAt : ByteArray := prog_3_method_4_code
def yX1_holdsAt : MethodName := ⟨RX1, "holdsAt", "([J)Z"⟩
abbrev cX1_isPassedOver : ByteArray := prog_3_method_5_code
def yX1_isPassedOver : MethodName := ⟨RX1, "isPassedOver", "(LEndingCourt$Box;)Z"⟩
abbrev cX1_move : ByteArray := prog_3_method_6_code
def yX1_move : MethodName := ⟨RX1, "move", "([J)Z"⟩
abbrev cX1_binds : ByteArray := prog_3_method_7_code
def yX1_binds : MethodName := ⟨RX1, "binds", "([I)Z"⟩
abbrev cX1_changesAtMost : ByteArray := prog_3_method_8_code
def yX1_changesAtMost : MethodName := ⟨RX1, "changesAtMost", "([II)Z"⟩
abbrev cX1_ranksBy : ByteArray := prog_3_method_9_code
def yX1_ranksBy : MethodName := ⟨RX1, "ranksBy", "([I)Z"⟩
def RX2 : String := "EndingCourt$Box"
def TX2 : u_T := fun k => match k with
  | _ => ("EndingCourt$Box", "ends", "[J", true)
def tyX2 : Nat → FieldType := fun k => match k with
  | _ => .array .long
abbrev wsX20 : List Cond := u_ws RX2 TX2 1
theorem nmX2 : ∀ a, a < 1 → ∀ b, b < 1 → a ≠ b → (TX2 a).2.1 ≠ (TX2 b).2.1 := by decide +kernel
theorem tyX2_ok : ∀ k, k < 1 → parseFieldDescriptor (TX2 k).2.2.1 = some (tyX2 k) := by decide +kernel
abbrev cX2_init : ByteArray := prog_4_method_1_code
def yX2_init : MethodName := ⟨RX2, "<init>", "()V"⟩
abbrev cX2_end : ByteArray := prog_4_method_2_code
def yX2_end : MethodName := ⟨RX2, "end", "(II)J"⟩
abbrev cX2_put : ByteArray := prog_4_method_3_code
def yX2_put : MethodName := ⟨RX2, "put", "(IIJ)V"⟩
abbrev cX2_zeroAll : ByteArray := prog_4_method_4_code
def yX2_zeroAll : MethodName := ⟨RX2, "zeroAll", "()V"⟩
abbrev cX2_openAll : ByteArray := prog_4_method_5_code
def yX2_openAll : MethodName := ⟨RX2, "openAll", "(I)V"⟩
abbrev cX2_copyFrom : ByteArray := prog_4_method_6_code
def yX2_copyFrom : MethodName := ⟨RX2, "copyFrom", "(LEndingCourt$Box;)V"⟩
abbrev cX2_isCrossed : ByteArray := prog_4_method_7_code
def yX2_isCrossed : MethodName := ⟨RX2, "isCrossed", "()Z"⟩
abbrev cX2_encloses : ByteArray := prog_4_method_8_code
def yX2_encloses : MethodName := ⟨RX2, "encloses", "([J)Z"⟩
abbrev cX2_isOut : ByteArray := prog_4_method_9_code
def yX2_isOut : MethodName := ⟨RX2, "isOut", "()Z"⟩
abbrev cX2_widen : ByteArray := prog_4_method_10_code
def yX2_widen : MethodName := ⟨RX2, "widen", "(IIJ)V"⟩
def RX3 : String := "EndingCourt$Calls"
def TX3 : u_T := fun k => match k with
  | 0 => ("EndingCourt$Calls", "given", "[J", true)
  | 1 => ("EndingCourt$Calls", "count", "I", false)
  | 2 => ("EndingCourt$Calls", "all", "[J", true)
  | 3 => ("EndingCourt$Calls", "allCount", "I", false)
  | 4 => ("EndingCourt$Calls", "table", "[I", true)
  | 5 => ("EndingCourt$Calls", "latestMade", "I", false)
  | 6 => ("EndingCourt$Calls", "witnessFunction", "I", false)
  | _ => ("EndingCourt$Calls", "witnessTells", "I", false)
def tyX3 : Nat → FieldType := fun k => match k with
  | 0 => .array .long
  | 1 => .int
  | 2 => .array .long
  | 3 => .int
  | 4 => .array .int
  | 5 => .int
  | 6 => .int
  | _ => .int
abbrev wsX30 : List Cond := u_ws RX3 TX3 8
theorem nmX3 : ∀ a, a < 8 → ∀ b, b < 8 → a ≠ b → (TX3 a).2.1 ≠ (TX3 b).2.1 := by decide +kernel
theorem tyX3_ok : ∀ k, k < 8 → parseFieldDescriptor (TX3 k).2.2.1 = some (tyX3 k) := by decide +kernel
abbrev cX3_init : ByteArray := prog_5_method_1_code
def yX3_init : MethodName := ⟨RX3, "<init>", "()V"⟩
abbrev cX3_add : ByteArray := prog_5_method_2_code
def yX3_add : MethodName := ⟨RX3, "add", "(III)I"⟩
abbrev cX3_removeAll : ByteArray := prog_5_method_3_code
def yX3_removeAll : MethodName := ⟨RX3, "removeAll", "()I"⟩
abbrev cX3_judge : ByteArray := prog_5_method_4_code
def yX3_judge : MethodName := ⟨RX3, "judge", "()I"⟩
abbrev cX3_makeAll : ByteArray := prog_5_method_5_code
def yX3_makeAll : MethodName := ⟨RX3, "makeAll", "()Z"⟩
abbrev cX3_keep : ByteArray := prog_5_method_6_code
def yX3_keep : MethodName := ⟨RX3, "keep", "(J)Z"⟩
abbrev cX3_firstFault : ByteArray := prog_5_method_7_code
def yX3_firstFault : MethodName := ⟨RX3, "firstFault", "()I"⟩
abbrev cX3_isAhead : ByteArray := prog_5_method_8_code
def yX3_isAhead : MethodName := ⟨RX3, "isAhead", "(JJ)Z"⟩
abbrev cX3_isFault : ByteArray := prog_5_method_9_code
def yX3_isFault : MethodName := ⟨RX3, "isFault", "(J)Z"⟩
abbrev cX3_together : ByteArray := prog_5_method_10_code
def yX3_together : MethodName := ⟨RX3, "together", "(JJ)J"⟩
abbrev cX3_packed : ByteArray := prog_5_method_11_code
def yX3_packed : MethodName := ⟨RX3, "packed", "(III)J"⟩
abbrev cX3_fromOf : ByteArray := prog_5_method_12_code
def yX3_fromOf : MethodName := ⟨RX3, "fromOf", "(J)I"⟩
abbrev cX3_toOf : ByteArray := prog_5_method_13_code
def yX3_toOf : MethodName := ⟨RX3, "toOf", "(J)I"⟩
abbrev cX3_toldOf : ByteArray := prog_5_method_14_code
def yX3_toldOf : MethodName := ⟨RX3, "toldOf", "(J)I"⟩
abbrev cX3_lessOf : ByteArray := prog_5_method_15_code
def yX3_lessOf : MethodName := ⟨RX3, "lessOf", "(J)I"⟩
abbrev cX3_masksOf : ByteArray := prog_5_method_16_code
def yX3_masksOf : MethodName := ⟨RX3, "masksOf", "(I)I"⟩
abbrev cX3_numberOf : ByteArray := prog_5_method_17_code
def yX3_numberOf : MethodName := ⟨RX3, "numberOf", "(J)I"⟩
def RX4 : String := "EndingCourt$Course"
def TX4 : u_T := fun k => match k with
  | 0 => ("EndingCourt$Course", "far", "[J", true)
  | 1 => ("EndingCourt$Course", "near", "[J", true)
  | _ => ("EndingCourt$Course", "lead", "I", false)
def tyX4 : Nat → FieldType := fun k => match k with
  | 0 => .array .long
  | 1 => .array .long
  | _ => .int
abbrev wsX40 : List Cond := u_ws RX4 TX4 3
theorem nmX4 : ∀ a, a < 3 → ∀ b, b < 3 → a ≠ b → (TX4 a).2.1 ≠ (TX4 b).2.1 := by decide +kernel
theorem tyX4_ok : ∀ k, k < 3 → parseFieldDescriptor (TX4 k).2.2.1 = some (tyX4 k) := by decide +kernel
abbrev cX4_init : ByteArray := prog_6_method_1_code
def yX4_init : MethodName := ⟨RX4, "<init>", "()V"⟩
abbrev cX4_forgetRing : ByteArray := prog_6_method_2_code
def yX4_forgetRing : MethodName := ⟨RX4, "forgetRing", "()V"⟩
abbrev cX4_findRing : ByteArray := prog_6_method_3_code
def yX4_findRing : MethodName := ⟨RX4, "findRing", "(LEndingCourt$Program;[JI)I"⟩
abbrev cX4_lengthWithin : ByteArray := prog_6_method_4_code
def yX4_lengthWithin : MethodName := ⟨RX4, "lengthWithin", "(LEndingCourt$Program;[JI)I"⟩
abbrev cX4_leadOf : ByteArray := prog_6_method_5_code
def yX4_leadOf : MethodName := ⟨RX4, "leadOf", "(LEndingCourt$Program;[JII)I"⟩
abbrev cX4_isSame : ByteArray := prog_6_method_6_code
def yX4_isSame : MethodName := ⟨RX4, "isSame", "()Z"⟩
abbrev cX4_copy : ByteArray := prog_6_method_7_code
def yX4_copy : MethodName := ⟨RX4, "copy", "([J[J)V"⟩
def RX5 : String := "EndingCourt$Findings"
def TX5 : u_T := fun k => match k with
  | 0 => ("EndingCourt$Findings", "order", "LEndingCourt$SumOrder;", true)
  | 1 => ("EndingCourt$Findings", "sums", "[I", true)
  | 2 => ("EndingCourt$Findings", "count", "I", false)
  | 3 => ("EndingCourt$Findings", "rowOf", "[I", true)
  | 4 => ("EndingCourt$Findings", "ranking", "[I", true)
  | 5 => ("EndingCourt$Findings", "rankingFloor", "J", false)
  | _ => ("EndingCourt$Findings", "ranked", "Z", false)
def tyX5 : Nat → FieldType := fun k => match k with
  | 0 => .object "EndingCourt$SumOrder"
  | 1 => .array .int
  | 2 => .int
  | 3 => .array .int
  | 4 => .array .int
  | 5 => .long
  | _ => .boolean
abbrev wsX50 : List Cond := u_ws RX5 TX5 7
theorem nmX5 : ∀ a, a < 7 → ∀ b, b < 7 → a ≠ b → (TX5 a).2.1 ≠ (TX5 b).2.1 := by decide +kernel
theorem tyX5_ok : ∀ k, k < 7 → parseFieldDescriptor (TX5 k).2.2.1 = some (tyX5 k) := by decide +kernel
abbrev cX5_init : ByteArray := prog_7_method_1_code
def yX5_init : MethodName := ⟨RX5, "<init>", "()V"⟩
abbrev cX5_forgetAll : ByteArray := prog_7_method_2_code
def yX5_forgetAll : MethodName := ⟨RX5, "forgetAll", "()V"⟩
abbrev cX5_weightOf : ByteArray := prog_7_method_3_code
def yX5_weightOf : MethodName := ⟨RX5, "weightOf", "(II)I"⟩
abbrev cX5_seekRank : ByteArray := prog_7_method_4_code
def yX5_seekRank : MethodName := ⟨RX5, "seekRank", "(LEndingCourt$Program;I)Z"⟩
abbrev cX5_seekRows : ByteArray := prog_7_method_5_code
def yX5_seekRows : MethodName := ⟨RX5, "seekRows", "(LEndingCourt$Program;I)I"⟩
abbrev cX5_seekRow : ByteArray := prog_7_method_6_code
def yX5_seekRow : MethodName := ⟨RX5, "seekRow", "(LEndingCourt$Program;I)Z"⟩
abbrev cX5_isRow : ByteArray := prog_7_method_7_code
def yX5_isRow : MethodName := ⟨RX5, "isRow", "(LEndingCourt$Program;[I)Z"⟩
abbrev cX5_release : ByteArray := prog_7_method_8_code
def yX5_release : MethodName := ⟨RX5, "release", "(LEndingCourt$Program;I)I"⟩
abbrev cX5_keep : ByteArray := prog_7_method_9_code
def yX5_keep : MethodName := ⟨RX5, "keep", "(I)V"⟩
def RX6 : String := "EndingCourt$Place"
def TX6 : u_T := fun k => match k with
  | 0 => ("EndingCourt$Place", "points", "[J", true)
  | 1 => ("EndingCourt$Place", "count", "I", false)
  | 2 => ("EndingCourt$Place", "corners", "I", false)
  | _ => ("EndingCourt$Place", "known", "Z", false)
def tyX6 : Nat → FieldType := fun k => match k with
  | 0 => .array .long
  | 1 => .int
  | 2 => .int
  | _ => .boolean
abbrev wsX60 : List Cond := u_ws RX6 TX6 4
theorem nmX6 : ∀ a, a < 4 → ∀ b, b < 4 → a ≠ b → (TX6 a).2.1 ≠ (TX6 b).2.1 := by decide +kernel
theorem tyX6_ok : ∀ k, k < 4 → parseFieldDescriptor (TX6 k).2.2.1 = some (tyX6 k) := by decide +kernel
abbrev cX6_init : ByteArray := prog_8_method_1_code
def yX6_init : MethodName := ⟨RX6, "<init>", "()V"⟩
abbrev cX6_empty : ByteArray := prog_8_method_2_code
def yX6_empty : MethodName := ⟨RX6, "empty", "()V"⟩
abbrev cX6_isEmpty : ByteArray := prog_8_method_3_code
def yX6_isEmpty : MethodName := ⟨RX6, "isEmpty", "()Z"⟩
abbrev cX6_add : ByteArray := prog_8_method_4_code
def yX6_add : MethodName := ⟨RX6, "add", "([J)V"⟩
abbrev cX6_hasPoint : ByteArray := prog_8_method_5_code
def yX6_hasPoint : MethodName := ⟨RX6, "hasPoint", "([J)Z"⟩
abbrev cX6_valueAt : ByteArray := prog_8_method_6_code
def yX6_valueAt : MethodName := ⟨RX6, "valueAt", "([II)J"⟩
abbrev cX6_isBoundBelow : ByteArray := prog_8_method_7_code
def yX6_isBoundBelow : MethodName := ⟨RX6, "isBoundBelow", "([I)Z"⟩
abbrev cX6_isNowherePositive : ByteArray := prog_8_method_8_code
def yX6_isNowherePositive : MethodName := ⟨RX6, "isNowherePositive", "([JJ)Z"⟩
abbrev cX6_floorOf : ByteArray := prog_8_method_9_code
def yX6_floorOf : MethodName := ⟨RX6, "floorOf", "([I)J"⟩
def RX7 : String := "EndingCourt$Program"
def TX7 : u_T := fun k => match k with
  | 0 => ("EndingCourt$Program", "bodies", "[LEndingCourt$Body;", true)
  | 1 => ("EndingCourt$Program", "numbers", "I", false)
  | _ => ("EndingCourt$Program", "count", "I", false)
def tyX7 : Nat → FieldType := fun k => match k with
  | 0 => .array (.object "EndingCourt$Body")
  | 1 => .int
  | _ => .int
abbrev wsX70 : List Cond := u_ws RX7 TX7 3
theorem nmX7 : ∀ a, a < 3 → ∀ b, b < 3 → a ≠ b → (TX7 a).2.1 ≠ (TX7 b).2.1 := by decide +kernel
theorem tyX7_ok : ∀ k, k < 3 → parseFieldDescriptor (TX7 k).2.2.1 = some (tyX7 k) := by decide +kernel
abbrev cX7_init : ByteArray := prog_9_method_1_code
def yX7_init : MethodName := ⟨RX7, "<init>", "()V"⟩
abbrev cX7_startAnew : ByteArray := prog_9_method_2_code
def yX7_startAnew : MethodName := ⟨RX7, "startAnew", "(I)V"⟩
abbrev cX7_addBody : ByteArray := prog_9_method_3_code
def yX7_addBody : MethodName := ⟨RX7, "addBody", "()I"⟩
abbrev cX7_has : ByteArray := prog_9_method_4_code
def yX7_has : MethodName := ⟨RX7, "has", "(I)Z"⟩
abbrev cX7_hasNumber : ByteArray := prog_9_method_5_code
def yX7_hasNumber : MethodName := ⟨RX7, "hasNumber", "(I)Z"⟩
abbrev cX7_chosen : ByteArray := prog_9_method_6_code
def yX7_chosen : MethodName := ⟨RX7, "chosen", "([J)I"⟩
abbrev cX7_step : ByteArray := prog_9_method_7_code
def yX7_step : MethodName := ⟨RX7, "step", "([J)I"⟩
abbrev cX7_isRankedBy : ByteArray := prog_9_method_8_code
def yX7_isRankedBy : MethodName := ⟨RX7, "isRankedBy", "([I)Z"⟩
abbrev cX7_floorOf : ByteArray := prog_9_method_9_code
def yX7_floorOf : MethodName := ⟨RX7, "floorOf", "([I)J"⟩
def RX8 : String := "EndingCourt$Rounds"
def TX8 : u_T := fun k => match k with
  | 0 => ("EndingCourt$Rounds", "now", "LEndingCourt$Box;", true)
  | _ => ("EndingCourt$Rounds", "next", "LEndingCourt$Box;", true)
def tyX8 : Nat → FieldType := fun k => match k with
  | 0 => .object "EndingCourt$Box"
  | _ => .object "EndingCourt$Box"
abbrev wsX80 : List Cond := u_ws RX8 TX8 2
theorem nmX8 : ∀ a, a < 2 → ∀ b, b < 2 → a ≠ b → (TX8 a).2.1 ≠ (TX8 b).2.1 := by decide +kernel
theorem tyX8_ok : ∀ k, k < 2 → parseFieldDescriptor (TX8 k).2.2.1 = some (tyX8 k) := by decide +kernel
abbrev cX8_init : ByteArray := prog_10_method_1_code
def yX8_init : MethodName := ⟨RX8, "<init>", "()V"⟩
abbrev cX8_goRound : ByteArray := prog_10_method_2_code
def yX8_goRound : MethodName := ⟨RX8, "goRound", "(LEndingCourt$Program;LEndingCourt$Box;I)I"⟩
abbrev cX8_lookAtBodies : ByteArray := prog_10_method_3_code
def yX8_lookAtBodies : MethodName := ⟨RX8, "lookAtBodies", "(LEndingCourt$Program;)V"⟩
abbrev cX8_settle : ByteArray := prog_10_method_4_code
def yX8_settle : MethodName := ⟨RX8, "settle", "(Z)Z"⟩
def RX9 : String := "EndingCourt$Shaper"
def TX9 : u_T := fun k => match k with
  | 0 => ("EndingCourt$Shaper", "planes", "[J", true)
  | 1 => ("EndingCourt$Shaper", "count", "I", false)
  | 2 => ("EndingCourt$Shaper", "bounding", "I", false)
  | _ => ("EndingCourt$Shaper", "point", "[J", true)
def tyX9 : Nat → FieldType := fun k => match k with
  | 0 => .array .long
  | 1 => .int
  | 2 => .int
  | _ => .array .long
abbrev wsX90 : List Cond := u_ws RX9 TX9 4
theorem nmX9 : ∀ a, a < 4 → ∀ b, b < 4 → a ≠ b → (TX9 a).2.1 ≠ (TX9 b).2.1 := by decide +kernel
theorem tyX9_ok : ∀ k, k < 4 → parseFieldDescriptor (TX9 k).2.2.1 = some (tyX9 k) := by decide +kernel
abbrev cX9_init : ByteArray := prog_11_method_1_code
def yX9_init : MethodName := ⟨RX9, "<init>", "()V"⟩
abbrev cX9_shape : ByteArray := prog_11_method_2_code
def yX9_shape : MethodName := ⟨RX9, "shape", "(LEndingCourt$Body;LEndingCourt$Box;)V"⟩
abbrev cX9_gather : ByteArray := prog_11_method_3_code
def yX9_gather : MethodName := ⟨RX9, "gather", "(LEndingCourt$Body;LEndingCourt$Box;)V"⟩
abbrev cX9_addAxisPlane : ByteArray := prog_11_method_4_code
def yX9_addAxisPlane : MethodName := ⟨RX9, "addAxisPlane", "(IJJ)V"⟩
abbrev cX9_addPlane : ByteArray := prog_11_method_5_code
def yX9_addPlane : MethodName := ⟨RX9, "addPlane", "(JJJJ)V"⟩
abbrev cX9_findCorners : ByteArray := prog_11_method_6_code
def yX9_findCorners : MethodName := ⟨RX9, "findCorners", "(LEndingCourt$Place;)V"⟩
abbrev cX9_findDirections : ByteArray := prog_11_method_7_code
def yX9_findDirections : MethodName := ⟨RX9, "findDirections", "(LEndingCourt$Place;)V"⟩
abbrev cX9_cross : ByteArray := prog_11_method_8_code
def yX9_cross : MethodName := ⟨RX9, "cross", "(III)J"⟩
abbrev cX9_meet : ByteArray := prog_11_method_9_code
def yX9_meet : MethodName := ⟨RX9, "meet", "(III)Z"⟩
abbrev cX9_follow : ByteArray := prog_11_method_10_code
def yX9_follow : MethodName := ⟨RX9, "follow", "(III)Z"⟩
abbrev cX9_isInside : ByteArray := prog_11_method_11_code
def yX9_isInside : MethodName := ⟨RX9, "isInside", "()Z"⟩
abbrev cX9_shrink : ByteArray := prog_11_method_12_code
def yX9_shrink : MethodName := ⟨RX9, "shrink", "()V"⟩
abbrev cX9_commonPart : ByteArray := prog_11_method_13_code
def yX9_commonPart : MethodName := ⟨RX9, "commonPart", "(JJ)J"⟩
def RX10 : String := "EndingCourt$SumOrder"
def TX10 : u_T := fun k => match k with
  | 0 => ("EndingCourt$SumOrder", "weights", "[I", true)
  | 1 => ("EndingCourt$SumOrder", "size", "I", false)
  | 2 => ("EndingCourt$SumOrder", "reach1", "I", false)
  | 3 => ("EndingCourt$SumOrder", "reach2", "I", false)
  | 4 => ("EndingCourt$SumOrder", "total", "I", false)
  | _ => ("EndingCourt$SumOrder", "lastTotal", "I", false)
def tyX10 : Nat → FieldType := fun k => match k with
  | 0 => .array .int
  | 1 => .int
  | 2 => .int
  | 3 => .int
  | 4 => .int
  | _ => .int
abbrev wsX100 : List Cond := u_ws RX10 TX10 6
theorem nmX10 : ∀ a, a < 6 → ∀ b, b < 6 → a ≠ b → (TX10 a).2.1 ≠ (TX10 b).2.1 := by decide +kernel
theorem tyX10_ok : ∀ k, k < 6 → parseFieldDescriptor (TX10 k).2.2.1 = some (tyX10 k) := by decide +kernel
abbrev cX10_init : ByteArray := prog_12_method_1_code
def yX10_init : MethodName := ⟨RX10, "<init>", "()V"⟩
abbrev cX10_start : ByteArray := prog_12_method_2_code
def yX10_start : MethodName := ⟨RX10, "start", "(II)V"⟩
abbrev cX10_next : ByteArray := prog_12_method_3_code
def yX10_next : MethodName := ⟨RX10, "next", "()Z"⟩
abbrev cX10_nextPair : ByteArray := prog_12_method_4_code
def yX10_nextPair : MethodName := ⟨RX10, "nextPair", "()Z"⟩
def RX11 : String := "EndingCourt"
def TX11 : u_T := fun k => match k with
  | 0 => ("EndingCourt", "program", "LEndingCourt$Program;", true)
  | 1 => ("EndingCourt", "x", "[J", true)
  | 2 => ("EndingCourt", "course", "LEndingCourt$Course;", true)
  | 3 => ("EndingCourt", "theBox", "LEndingCourt$Box;", true)
  | 4 => ("EndingCourt", "beginning", "LEndingCourt$Box;", true)
  | 5 => ("EndingCourt", "rounds", "LEndingCourt$Rounds;", true)
  | 6 => ("EndingCourt", "shaper", "LEndingCourt$Shaper;", true)
  | 7 => ("EndingCourt", "findings", "LEndingCourt$Findings;", true)
  | 8 => ("EndingCourt", "asked", "[I", true)
  | _ => ("EndingCourt", "calls", "LEndingCourt$Calls;", true)
def tyX11 : Nat → FieldType := fun k => match k with
  | 0 => .object "EndingCourt$Program"
  | 1 => .array .long
  | 2 => .object "EndingCourt$Course"
  | 3 => .object "EndingCourt$Box"
  | 4 => .object "EndingCourt$Box"
  | 5 => .object "EndingCourt$Rounds"
  | 6 => .object "EndingCourt$Shaper"
  | 7 => .object "EndingCourt$Findings"
  | 8 => .array .int
  | _ => .object "EndingCourt$Calls"
abbrev wsX110 : List Cond := u_ws RX11 TX11 10
theorem nmX11 : ∀ a, a < 10 → ∀ b, b < 10 → a ≠ b → (TX11 a).2.1 ≠ (TX11 b).2.1 := by decide +kernel
theorem tyX11_ok : ∀ k, k < 10 → parseFieldDescriptor (TX11 k).2.2.1 = some (tyX11 k) := by decide +kernel
abbrev cX11_init : ByteArray := prog_1_method_1_code
def yX11_init : MethodName := ⟨RX11, "<init>", "()V"⟩
abbrev cX11_loop : ByteArray := prog_1_method_2_code
def yX11_loop : MethodName := ⟨RX11, "loop", "(I)I"⟩
abbrev cX11_body : ByteArray := prog_1_method_3_code
def yX11_body : MethodName := ⟨RX11, "body", "()I"⟩
abbrev cX11_guard : ByteArray := prog_1_method_4_code
def yX11_guard : MethodName := ⟨RX11, "guard", "(III)I"⟩
abbrev cX11_rule : ByteArray := prog_1_method_5_code
def yX11_rule : MethodName := ⟨RX11, "rule", "(IIII)I"⟩
abbrev cX11_many : ByteArray := prog_1_method_6_code
def yX11_many : MethodName := ⟨RX11, "many", "(I)I"⟩
abbrev cX11_set : ByteArray := prog_1_method_7_code
def yX11_set : MethodName := ⟨RX11, "set", "(II)I"⟩
abbrev cX11_at : ByteArray := prog_1_method_8_code
def yX11_at : MethodName := ⟨RX11, "at", "(I)J"⟩
abbrev cX11_run : ByteArray := prog_1_method_9_code
def yX11_run : MethodName := ⟨RX11, "run", "(I)I"⟩
abbrev cX11_turn : ByteArray := prog_1_method_10_code
def yX11_turn : MethodName := ⟨RX11, "turn", "()I"⟩
abbrev cX11_ring : ByteArray := prog_1_method_11_code
def yX11_ring : MethodName := ⟨RX11, "ring", "(I)I"⟩
abbrev cX11_ahead : ByteArray := prog_1_method_12_code
def yX11_ahead : MethodName := ⟨RX11, "ahead", "()I"⟩
abbrev cX11_ranks : ByteArray := prog_1_method_13_code
def yX11_ranks : MethodName := ⟨RX11, "ranks", "(III)I"⟩
abbrev cX11_tells : ByteArray := prog_1_method_14_code
def yX11_tells : MethodName := ⟨RX11, "tells", "(IIII)I"⟩
abbrev cX11_floor : ByteArray := prog_1_method_15_code
def yX11_floor : MethodName := ⟨RX11, "floor", "(III)J"⟩
abbrev cX11_rank : ByteArray := prog_1_method_16_code
def yX11_rank : MethodName := ⟨RX11, "rank", "(I)I"⟩
abbrev cX11_rows : ByteArray := prog_1_method_17_code
def yX11_rows : MethodName := ⟨RX11, "rows", "(I)I"⟩
abbrev cX11_found : ByteArray := prog_1_method_18_code
def yX11_found : MethodName := ⟨RX11, "found", "(II)I"⟩
abbrev cX11_by : ByteArray := prog_1_method_19_code
def yX11_by : MethodName := ⟨RX11, "by", "(I)I"⟩
abbrev cX11_bound : ByteArray := prog_1_method_20_code
def yX11_bound : MethodName := ⟨RX11, "bound", "()J"⟩
abbrev cX11_begin : ByteArray := prog_1_method_21_code
def yX11_begin : MethodName := ⟨RX11, "begin", "(III)I"⟩
abbrev cX11_round : ByteArray := prog_1_method_22_code
def yX11_round : MethodName := ⟨RX11, "round", "(I)I"⟩
abbrev cX11_box : ByteArray := prog_1_method_23_code
def yX11_box : MethodName := ⟨RX11, "box", "(II)J"⟩
abbrev cX11_open : ByteArray := prog_1_method_24_code
def yX11_open : MethodName := ⟨RX11, "open", "()I"⟩
abbrev cX11_call : ByteArray := prog_1_method_25_code
def yX11_call : MethodName := ⟨RX11, "call", "(III)I"⟩
abbrev cX11_clear : ByteArray := prog_1_method_26_code
def yX11_clear : MethodName := ⟨RX11, "clear", "()I"⟩
abbrev cX11_ending : ByteArray := prog_1_method_27_code
def yX11_ending : MethodName := ⟨RX11, "ending", "()I"⟩
abbrev cX11_made : ByteArray := prog_1_method_28_code
def yX11_made : MethodName := ⟨RX11, "made", "()I"⟩
abbrev cX11_witness : ByteArray := prog_1_method_29_code
def yX11_witness : MethodName := ⟨RX11, "witness", "(I)I"⟩
abbrev cX11_openTheBox : ByteArray := prog_1_method_30_code
def yX11_openTheBox : MethodName := ⟨RX11, "openTheBox", "()V"⟩
abbrev cX11_forgetPlaces : ByteArray := prog_1_method_31_code
def yX11_forgetPlaces : MethodName := ⟨RX11, "forgetPlaces", "()V"⟩
abbrev cX11_learnPlaces : ByteArray := prog_1_method_32_code
def yX11_learnPlaces : MethodName := ⟨RX11, "learnPlaces", "()V"⟩
abbrev cX11_ask : ByteArray := prog_1_method_33_code
def yX11_ask : MethodName := ⟨RX11, "ask", "(III)Z"⟩
abbrev cX11_isCode : ByteArray := prog_1_method_34_code
def yX11_isCode : MethodName := ⟨RX11, "isCode", "(I)Z"⟩
abbrev cX11_isConstant : ByteArray := prog_1_method_35_code
def yX11_isConstant : MethodName := ⟨RX11, "isConstant", "(I)Z"⟩
abbrev cX11_isGiven : ByteArray := prog_1_method_36_code
def yX11_isGiven : MethodName := ⟨RX11, "isGiven", "(I)Z"⟩
abbrev cX11_isTurns : ByteArray := prog_1_method_37_code
def yX11_isTurns : MethodName := ⟨RX11, "isTurns", "(I)Z"⟩
abbrev cX11_isSize : ByteArray := prog_1_method_38_code
def yX11_isSize : MethodName := ⟨RX11, "isSize", "(I)Z"⟩
abbrev cX11_isSide : ByteArray := prog_1_method_39_code
def yX11_isSide : MethodName := ⟨RX11, "isSide", "(I)Z"⟩
abbrev cX11_isFunction : ByteArray := prog_1_method_40_code
def yX11_isFunction : MethodName := ⟨RX11, "isFunction", "(I)Z"⟩
abbrev cX11_isBeyond : ByteArray := prog_1_method_41_code
def yX11_isBeyond : MethodName := ⟨RX11, "isBeyond", "(JJ)Z"⟩
abbrev cX11_valueOf : ByteArray := prog_1_method_42_code
def yX11_valueOf : MethodName := ⟨RX11, "valueOf", "([I[J)J"⟩
def RX12 : String := "EndingCourtModel"
def TX12 : u_T := fun k => match k with
  | 0 => ("EndingCourtModel", "numbers", "I", false)
  | 1 => ("EndingCourtModel", "bodies", "I", false)
  | 2 => ("EndingCourtModel", "guards", "[I", true)
  | 3 => ("EndingCourtModel", "guard", "[I", true)
  | 4 => ("EndingCourtModel", "rules", "[I", true)
  | 5 => ("EndingCourtModel", "x", "[J", true)
  | 6 => ("EndingCourtModel", "box", "[J", true)
  | 7 => ("EndingCourtModel", "boxOpen", "[Z", true)
  | 8 => ("EndingCourtModel", "first", "[J", true)
  | 9 => ("EndingCourtModel", "firstOpen", "[Z", true)
  | 10 => ("EndingCourtModel", "side", "[J", true)
  | 11 => ("EndingCourtModel", "sides", "I", false)
  | 12 => ("EndingCourtModel", "made", "[J", true)
  | 13 => ("EndingCourtModel", "leastUpper", "J", false)
  | 14 => ("EndingCourtModel", "leastLower", "J", false)
  | 15 => ("EndingCourtModel", "leastBy", "J", false)
  | 16 => ("EndingCourtModel", "hasLeast", "Z", false)
  | 17 => ("EndingCourtModel", "isEmpty", "Z", false)
  | 18 => ("EndingCourtModel", "found", "[I", true)
  | 19 => ("EndingCourtModel", "foundMany", "I", false)
  | 20 => ("EndingCourtModel", "ranked", "[I", true)
  | 21 => ("EndingCourtModel", "hasRanked", "Z", false)
  | 22 => ("EndingCourtModel", "leftBy", "[I", true)
  | 23 => ("EndingCourtModel", "isLeft", "[Z", true)
  | 24 => ("EndingCourtModel", "place", "[J", true)
  | 25 => ("EndingCourtModel", "table", "[I", true)
  | 26 => ("EndingCourtModel", "ahead", "I", false)
  | 27 => ("EndingCourtModel", "now", "[J", true)
  | 28 => ("EndingCourtModel", "then", "[J", true)
  | 29 => ("EndingCourtModel", "end", "[J", true)
  | 30 => ("EndingCourtModel", "isOpen", "[Z", true)
  | 31 => ("EndingCourtModel", "next", "[J", true)
  | 32 => ("EndingCourtModel", "nextOpen", "[Z", true)
  | 33 => ("EndingCourtModel", "callFrom", "[I", true)
  | 34 => ("EndingCourtModel", "callTo", "[I", true)
  | 35 => ("EndingCourtModel", "callTells", "[I", true)
  | 36 => ("EndingCourtModel", "calls", "I", false)
  | 37 => ("EndingCourtModel", "madeFrom", "[I", true)
  | 38 => ("EndingCourtModel", "madeTo", "[I", true)
  | 39 => ("EndingCourtModel", "madeTells", "[I", true)
  | 40 => ("EndingCourtModel", "madeMany", "I", false)
  | 41 => ("EndingCourtModel", "witnessAt", "I", false)
  | 42 => ("EndingCourtModel", "witnessFunction", "I", false)
  | 43 => ("EndingCourtModel", "witnessTells", "I", false)
  | 44 => ("EndingCourtModel", "digitsA", "[I", true)
  | 45 => ("EndingCourtModel", "digitsB", "[I", true)
  | 46 => ("EndingCourtModel", "want", "[J", true)
  | 47 => ("EndingCourtModel", "sum", "[I", true)
  | 48 => ("EndingCourtModel", "valueOpen", "Z", false)
  | _ => ("EndingCourtModel", "value", "J", false)
def tyX12 : Nat → FieldType := fun k => match k with
  | 0 => .int
  | 1 => .int
  | 2 => .array .int
  | 3 => .array .int
  | 4 => .array .int
  | 5 => .array .long
  | 6 => .array .long
  | 7 => .array .boolean
  | 8 => .array .long
  | 9 => .array .boolean
  | 10 => .array .long
  | 11 => .int
  | 12 => .array .long
  | 13 => .long
  | 14 => .long
  | 15 => .long
  | 16 => .boolean
  | 17 => .boolean
  | 18 => .array .int
  | 19 => .int
  | 20 => .array .int
  | 21 => .boolean
  | 22 => .array .int
  | 23 => .array .boolean
  | 24 => .array .long
  | 25 => .array .int
  | 26 => .int
  | 27 => .array .long
  | 28 => .array .long
  | 29 => .array .long
  | 30 => .array .boolean
  | 31 => .array .long
  | 32 => .array .boolean
  | 33 => .array .int
  | 34 => .array .int
  | 35 => .array .int
  | 36 => .int
  | 37 => .array .int
  | 38 => .array .int
  | 39 => .array .int
  | 40 => .int
  | 41 => .int
  | 42 => .int
  | 43 => .int
  | 44 => .array .int
  | 45 => .array .int
  | 46 => .array .long
  | 47 => .array .int
  | 48 => .boolean
  | _ => .long
abbrev wsX120 : List Cond := u_ws RX12 TX12 50
theorem nmX12 : ∀ a, a < 50 → ∀ b, b < 50 → a ≠ b → (TX12 a).2.1 ≠ (TX12 b).2.1 := by decide +kernel
theorem tyX12_ok : ∀ k, k < 50 → parseFieldDescriptor (TX12 k).2.2.1 = some (tyX12 k) := by decide +kernel
abbrev cX12_init : ByteArray := prog_14_method_1_code
def yX12_init : MethodName := ⟨RX12, "<init>", "()V"⟩
abbrev cX12_openAll : ByteArray := prog_14_method_2_code
def yX12_openAll : MethodName := ⟨RX12, "openAll", "()V"⟩
abbrev cX12_loop : ByteArray := prog_14_method_3_code
def yX12_loop : MethodName := ⟨RX12, "loop", "(I)I"⟩
abbrev cX12_body : ByteArray := prog_14_method_4_code
def yX12_body : MethodName := ⟨RX12, "body", "()I"⟩
abbrev cX12_areWeights : ByteArray := prog_14_method_5_code
def yX12_areWeights : MethodName := ⟨RX12, "areWeights", "(II)Z"⟩
abbrev cX12_lay : ByteArray := prog_14_method_6_code
def yX12_lay : MethodName := ⟨RX12, "lay", "([IIII)V"⟩
abbrev cX12_isBody : ByteArray := prog_14_method_7_code
def yX12_isBody : MethodName := ⟨RX12, "isBody", "(I)Z"⟩
abbrev cX12_guard : ByteArray := prog_14_method_8_code
def yX12_guard : MethodName := ⟨RX12, "guard", "(III)I"⟩
abbrev cX12_rule : ByteArray := prog_14_method_9_code
def yX12_rule : MethodName := ⟨RX12, "rule", "(IIII)I"⟩
abbrev cX12_many : ByteArray := prog_14_method_10_code
def yX12_many : MethodName := ⟨RX12, "many", "(I)I"⟩
abbrev cX12_set : ByteArray := prog_14_method_11_code
def yX12_set : MethodName := ⟨RX12, "set", "(II)I"⟩
abbrev cX12_at : ByteArray := prog_14_method_12_code
def yX12_at : MethodName := ⟨RX12, "at", "(I)J"⟩
abbrev cX12_of : ByteArray := prog_14_method_13_code
def yX12_of : MethodName := ⟨RX12, "of", "([II[J)J"⟩
abbrev cX12_turnAt : ByteArray := prog_14_method_14_code
def yX12_turnAt : MethodName := ⟨RX12, "turnAt", "([J)I"⟩
abbrev cX12_isFar : ByteArray := prog_14_method_15_code
def yX12_isFar : MethodName := ⟨RX12, "isFar", "(J)Z"⟩
abbrev cX12_turnFrom : ByteArray := prog_14_method_16_code
def yX12_turnFrom : MethodName := ⟨RX12, "turnFrom", "([J)I"⟩
abbrev cX12_run : ByteArray := prog_14_method_17_code
def yX12_run : MethodName := ⟨RX12, "run", "(I)I"⟩
abbrev cX12_turn : ByteArray := prog_14_method_18_code
def yX12_turn : MethodName := ⟨RX12, "turn", "()I"⟩
abbrev cX12_keep : ByteArray := prog_14_method_19_code
def yX12_keep : MethodName := ⟨RX12, "keep", "([JI)I"⟩
abbrev cX12_ring : ByteArray := prog_14_method_20_code
def yX12_ring : MethodName := ⟨RX12, "ring", "(I)I"⟩
abbrev cX12_ahead : ByteArray := prog_14_method_21_code
def yX12_ahead : MethodName := ⟨RX12, "ahead", "()I"⟩
abbrev cX12_addSide : ByteArray := prog_14_method_22_code
def yX12_addSide : MethodName := ⟨RX12, "addSide", "(JJJJ)V"⟩
abbrev cX12_laySides : ByteArray := prog_14_method_23_code
def yX12_laySides : MethodName := ⟨RX12, "laySides", "(I)V"⟩
abbrev cX12_isZero : ByteArray := prog_14_method_24_code
def yX12_isZero : MethodName := ⟨RX12, "isZero", "(I)Z"⟩
abbrev cX12_cross : ByteArray := prog_14_method_25_code
def yX12_cross : MethodName := ⟨RX12, "cross", "(III)J"⟩
abbrev cX12_determinant : ByteArray := prog_14_method_26_code
def yX12_determinant : MethodName := ⟨RX12, "determinant", "(III)J"⟩
abbrev cX12_areParallel : ByteArray := prog_14_method_27_code
def yX12_areParallel : MethodName := ⟨RX12, "areParallel", "(II)Z"⟩
abbrev cX12_twoLeaveNothing : ByteArray := prog_14_method_28_code
def yX12_twoLeaveNothing : MethodName := ⟨RX12, "twoLeaveNothing", "(II)Z"⟩
abbrev cX12_threeLeaveNothing : ByteArray := prog_14_method_29_code
def yX12_threeLeaveNothing : MethodName := ⟨RX12, "threeLeaveNothing", "(III)Z"⟩
abbrev cX12_fourLeaveNothing : ByteArray := prog_14_method_30_code
def yX12_fourLeaveNothing : MethodName := ⟨RX12, "fourLeaveNothing", "(IIII)Z"⟩
abbrev cX12_leaveNothing : ByteArray := prog_14_method_31_code
def yX12_leaveNothing : MethodName := ⟨RX12, "leaveNothing", "(JJJJIIII)Z"⟩
abbrev cX12_offer : ByteArray := prog_14_method_32_code
def yX12_offer : MethodName := ⟨RX12, "offer", "(JJJJIII)V"⟩
abbrev cX12_isAbove : ByteArray := prog_14_method_33_code
def yX12_isAbove : MethodName := ⟨RX12, "isAbove", "(JJJJJJ)Z"⟩
abbrev cX12_crossWanted : ByteArray := prog_14_method_34_code
def yX12_crossWanted : MethodName := ⟨RX12, "crossWanted", "(II)J"⟩
abbrev cX12_determinantWanted : ByteArray := prog_14_method_35_code
def yX12_determinantWanted : MethodName := ⟨RX12, "determinantWanted", "(II)J"⟩
abbrev cX12_findLeast : ByteArray := prog_14_method_36_code
def yX12_findLeast : MethodName := ⟨RX12, "findLeast", "()V"⟩
abbrev cX12_byOne : ByteArray := prog_14_method_37_code
def yX12_byOne : MethodName := ⟨RX12, "byOne", "(I)V"⟩
abbrev cX12_byTwo : ByteArray := prog_14_method_38_code
def yX12_byTwo : MethodName := ⟨RX12, "byTwo", "(II)V"⟩
abbrev cX12_isLeastAtLeast : ByteArray := prog_14_method_39_code
def yX12_isLeastAtLeast : MethodName := ⟨RX12, "isLeastAtLeast", "(J)Z"⟩
abbrev cX12_isSum : ByteArray := prog_14_method_40_code
def yX12_isSum : MethodName := ⟨RX12, "isSum", "(III)Z"⟩
abbrev cX12_tellsOf : ByteArray := prog_14_method_41_code
def yX12_tellsOf : MethodName := ⟨RX12, "tellsOf", "(IIII)I"⟩
abbrev cX12_doesRank : ByteArray := prog_14_method_42_code
def yX12_doesRank : MethodName := ⟨RX12, "doesRank", "(III)Z"⟩
abbrev cX12_ranks : ByteArray := prog_14_method_43_code
def yX12_ranks : MethodName := ⟨RX12, "ranks", "(III)I"⟩
abbrev cX12_tells : ByteArray := prog_14_method_44_code
def yX12_tells : MethodName := ⟨RX12, "tells", "(IIII)I"⟩
abbrev cX12_floorOf : ByteArray := prog_14_method_45_code
def yX12_floorOf : MethodName := ⟨RX12, "floorOf", "(III)J"⟩
abbrev cX12_floor : ByteArray := prog_14_method_46_code
def yX12_floor : MethodName := ⟨RX12, "floor", "(III)J"⟩
abbrev cX12_nextSum : ByteArray := prog_14_method_47_code
def yX12_nextSum : MethodName := ⟨RX12, "nextSum", "(I)Z"⟩
abbrev cX12_step : ByteArray := prog_14_method_48_code
def yX12_step : MethodName := ⟨RX12, "step", "(I)Z"⟩
abbrev cX12_firstSum : ByteArray := prog_14_method_49_code
def yX12_firstSum : MethodName := ⟨RX12, "firstSum", "(I)V"⟩
abbrev cX12_isSize : ByteArray := prog_14_method_50_code
def yX12_isSize : MethodName := ⟨RX12, "isSize", "(I)Z"⟩
abbrev cX12_rank : ByteArray := prog_14_method_51_code
def yX12_rank : MethodName := ⟨RX12, "rank", "(I)I"⟩
abbrev cX12_takes : ByteArray := prog_14_method_52_code
def yX12_takes : MethodName := ⟨RX12, "takes", "()Z"⟩
abbrev cX12_rows : ByteArray := prog_14_method_53_code
def yX12_rows : MethodName := ⟨RX12, "rows", "(I)I"⟩
abbrev cX12_found : ByteArray := prog_14_method_54_code
def yX12_found : MethodName := ⟨RX12, "found", "(II)I"⟩
abbrev cX12_by : ByteArray := prog_14_method_55_code
def yX12_by : MethodName := ⟨RX12, "by", "(I)I"⟩
abbrev cX12_bound : ByteArray := prog_14_method_56_code
def yX12_bound : MethodName := ⟨RX12, "bound", "()J"⟩
abbrev cX12_begin : ByteArray := prog_14_method_57_code
def yX12_begin : MethodName := ⟨RX12, "begin", "(III)I"⟩
abbrev cX12_reach : ByteArray := prog_14_method_58_code
def yX12_reach : MethodName := ⟨RX12, "reach", "([III)V"⟩
abbrev cX12_isPassed : ByteArray := prog_14_method_59_code
def yX12_isPassed : MethodName := ⟨RX12, "isPassed", "(I)Z"⟩
abbrev cX12_goRound : ByteArray := prog_14_method_60_code
def yX12_goRound : MethodName := ⟨RX12, "goRound", "()Z"⟩
abbrev cX12_isChanged : ByteArray := prog_14_method_61_code
def yX12_isChanged : MethodName := ⟨RX12, "isChanged", "(I)Z"⟩
abbrev cX12_round : ByteArray := prog_14_method_62_code
def yX12_round : MethodName := ⟨RX12, "round", "(I)I"⟩
abbrev cX12_box : ByteArray := prog_14_method_63_code
def yX12_box : MethodName := ⟨RX12, "box", "(II)J"⟩
abbrev cX12_open : ByteArray := prog_14_method_64_code
def yX12_open : MethodName := ⟨RX12, "open", "()I"⟩
abbrev cX12_call : ByteArray := prog_14_method_65_code
def yX12_call : MethodName := ⟨RX12, "call", "(III)I"⟩
abbrev cX12_clear : ByteArray := prog_14_method_66_code
def yX12_clear : MethodName := ⟨RX12, "clear", "()I"⟩
abbrev cX12_spread : ByteArray := prog_14_method_67_code
def yX12_spread : MethodName := ⟨RX12, "spread", "(I[I)V"⟩
abbrev cX12_together : ByteArray := prog_14_method_68_code
def yX12_together : MethodName := ⟨RX12, "together", "(II)I"⟩
abbrev cX12_make : ByteArray := prog_14_method_69_code
def yX12_make : MethodName := ⟨RX12, "make", "(III)Z"⟩
abbrev cX12_makeAll : ByteArray := prog_14_method_70_code
def yX12_makeAll : MethodName := ⟨RX12, "makeAll", "()Z"⟩
abbrev cX12_isAsked : ByteArray := prog_14_method_71_code
def yX12_isAsked : MethodName := ⟨RX12, "isAsked", "(I)Z"⟩
abbrev cX12_ending : ByteArray := prog_14_method_72_code
def yX12_ending : MethodName := ⟨RX12, "ending", "()I"⟩
abbrev cX12_made : ByteArray := prog_14_method_73_code
def yX12_made : MethodName := ⟨RX12, "made", "()I"⟩
abbrev cX12_witness : ByteArray := prog_14_method_74_code
def yX12_witness : MethodName := ⟨RX12, "witness", "(I)I"⟩
def RJ9 : String := "java/lang/Math"
def TJ9 : u_T := fun k => match k with
  | _ => ("", "", "", false)
def tyJ9 : Nat → FieldType := fun k => match k with
  | _ => .int
abbrev wsJ90 : List Cond := u_ws RJ9 TJ9 0
theorem nmJ9 : ∀ a, a < 0 → ∀ b, b < 0 → a ≠ b → (TJ9 a).2.1 ≠ (TJ9 b).2.1 := by decide +kernel
theorem tyJ9_ok : ∀ k, k < 0 → parseFieldDescriptor (TJ9 k).2.2.1 = some (tyJ9 k) := by decide +kernel
abbrev cJ9_floorDiv_f86c9 : ByteArray := prog_15_method_49_code
def yJ9_floorDiv_f86c9 : MethodName := ⟨RJ9, "floorDiv", "(JJ)J"⟩
abbrev cJ9_floorMod_f86c9 : ByteArray := prog_15_method_52_code
def yJ9_floorMod_f86c9 : MethodName := ⟨RJ9, "floorMod", "(JJ)J"⟩
abbrev cJ9_abs_0f7a4 : ByteArray := prog_15_method_59_code
def yJ9_abs_0f7a4 : MethodName := ⟨RJ9, "abs", "(I)I"⟩
abbrev cJ9_abs_067f4 : ByteArray := prog_15_method_61_code
def yJ9_abs_067f4 : MethodName := ⟨RJ9, "abs", "(J)J"⟩
abbrev cJ9_max_f86c9 : ByteArray := prog_15_method_66_code
def yJ9_max_f86c9 : MethodName := ⟨RJ9, "max", "(JJ)J"⟩
abbrev cJ9_min_f86c9 : ByteArray := prog_15_method_70_code
def yJ9_min_f86c9 : MethodName := ⟨RJ9, "min", "(JJ)J"⟩
def RJ10 : String := "java/lang/System"
def TJ10 : u_T := fun k => match k with
  | _ => ("", "", "", false)
def tyJ10 : Nat → FieldType := fun k => match k with
  | _ => .int
abbrev wsJ100 : List Cond := u_ws RJ10 TJ10 0
theorem nmJ10 : ∀ a, a < 0 → ∀ b, b < 0 → a ≠ b → (TJ10 a).2.1 ≠ (TJ10 b).2.1 := by decide +kernel
theorem tyJ10_ok : ∀ k, k < 0 → parseFieldDescriptor (TJ10 k).2.2.1 = some (tyJ10 k) := by decide +kernel
def RJ7 : String := "java/util/Arrays"
def TJ7 : u_T := fun k => match k with
  | _ => ("", "", "", false)
def tyJ7 : Nat → FieldType := fun k => match k with
  | _ => .int
abbrev wsJ70 : List Cond := u_ws RJ7 TJ7 0
theorem nmJ7 : ∀ a, a < 0 → ∀ b, b < 0 → a ≠ b → (TJ7 a).2.1 ≠ (TJ7 b).2.1 := by decide +kernel
theorem tyJ7_ok : ∀ k, k < 0 → parseFieldDescriptor (TJ7 k).2.2.1 = some (tyJ7 k) := by decide +kernel
abbrev cJ7_fill_d0a16 : ByteArray := prog_17_method_101_code
def yJ7_fill_d0a16 : MethodName := ⟨RJ7, "fill", "([JJ)V"⟩
abbrev cJ7_fill_53178 : ByteArray := prog_17_method_103_code
def yJ7_fill_53178 : MethodName := ⟨RJ7, "fill", "([II)V"⟩
def RL : String := "EndingCourtLaw"
abbrev cL_law : ByteArray := code
def yL_law : MethodName := ⟨RL, "law", "([I)Z"⟩
abbrev vwCl : List vw_C := [(RX0, TX0, 2), (RX1, TX1, 5), (RX2, TX2, 1), (RX3, TX3, 8), (RX4, TX4, 3), (RX5, TX5, 7), (RX6, TX6, 4), (RX7, TX7, 3), (RX8, TX8, 2), (RX9, TX9, 4), (RX10, TX10, 6), (RX11, TX11, 10), (RX12, TX12, 50)]
def xm_tb : List Cond := lw_tbl.filter goodWord
theorem ix_X0 : ∀ w ∈ wsX00, w ∈ xm_tb := by decide +kernel
theorem ix_X1 : ∀ w ∈ wsX10, w ∈ xm_tb := by decide +kernel
theorem ix_X2 : ∀ w ∈ wsX20, w ∈ xm_tb := by decide +kernel
theorem ix_X3 : ∀ w ∈ wsX30, w ∈ xm_tb := by decide +kernel
theorem ix_X4 : ∀ w ∈ wsX40, w ∈ xm_tb := by decide +kernel
theorem ix_X5 : ∀ w ∈ wsX50, w ∈ xm_tb := by decide +kernel
theorem ix_X6 : ∀ w ∈ wsX60, w ∈ xm_tb := by decide +kernel
theorem ix_X7 : ∀ w ∈ wsX70, w ∈ xm_tb := by decide +kernel
theorem ix_X8 : ∀ w ∈ wsX80, w ∈ xm_tb := by decide +kernel
theorem ix_X9 : ∀ w ∈ wsX90, w ∈ xm_tb := by decide +kernel
theorem ix_X10 : ∀ w ∈ wsX100, w ∈ xm_tb := by decide +kernel
theorem ix_X11 : ∀ w ∈ wsX110, w ∈ xm_tb := by decide +kernel
theorem ix_X12 : ∀ w ∈ wsX120, w ∈ xm_tb := by decide +kernel
theorem xm_goodin {w : Cond} (hw : w ∈ xm_tb) : GoodIn xm_tb (w :: xm_tb) := fun v hv => by
  have hm : v ∈ xm_tb := (List.mem_cons.mp hv).elim (fun e => e ▸ hw) id
  exact ⟨hm, good_of_word (List.mem_filter.mp hm).2⟩
end
section
/-! the pure machine: memory of numbered cells; a method's run against a pure function of its memory -/
abbrev xm_S : Type := Nat × (Nat → Nat × Nat) × (Nat → Nat → Option Nat) × (Nat → Nat → Int32) × (Nat → Nat → Int64)
abbrev xm_M : Type := MethodName × ByteArray × Nat × Option FieldType × Nat × Nat
abbrev xm_G : Type := va_G × ClassId × ClassId × ClassId × ClassId × ClassId
def xm_tys (G : xm_G) : List (ClassId × FieldType) := [(G.2.1, .int), (G.2.2.1, .long), (G.2.2.2.1, .boolean), (G.2.2.2.2.1, .object RX0), (G.2.2.2.2.2, .object RX1)]
/-- kinds of the slots of a class: 0 int, 1 long, 2 reference, 3 boolean -/
def xm_ft (ci : Nat) : List Nat := match ci with
  | 0 => [2, 0]
  | 1 => [2, 2, 2, 2, 0]
  | 2 => [2]
  | 3 => [2, 0, 2, 0, 2, 0, 0, 0]
  | 4 => [2, 2, 0]
  | 5 => [2, 2, 0, 2, 2, 1, 3]
  | 6 => [2, 0, 0, 3]
  | 7 => [2, 0, 0]
  | 8 => [2, 2]
  | 9 => [2, 0, 0, 2]
  | 10 => [2, 0, 0, 0, 0, 0]
  | 11 => [2, 2, 2, 2, 2, 2, 2, 2, 2, 2]
  | 12 => [0, 0, 2, 2, 2, 2, 2, 2, 2, 2, 2, 0, 2, 1, 1, 1, 3, 3, 2, 0, 2, 3, 2, 2, 2, 2, 0, 2, 2, 2, 2, 2, 2, 2, 2, 2, 0, 2, 2, 2, 0, 0, 0, 0, 2, 2, 2, 2, 3, 1]
  | _ => []
def xm_val (base : Nat) (σ : xm_S) (k j t : Nat) : Value := if t = 1 then .long (σ.2.2.2.2 k j) else if t = 2 then va_rf ((σ.2.2.1 k j).map (fun a => base + a)) else .int (σ.2.2.2.1 k j)
def xm_ent (G : xm_G) (base : Nat) (σ : xm_S) (k : Nat) : va_E :=
  if (σ.2.1 k).1 = 13 then .inl (G.2.1, (σ.2.1 k).2, .inl (σ.2.2.2.1 k))
  else if (σ.2.1 k).1 = 14 then .inl (G.2.2.1, (σ.2.1 k).2, .inr (.inl (σ.2.2.2.2 k)))
  else if (σ.2.1 k).1 = 15 then .inl (G.2.2.2.1, (σ.2.1 k).2, .inl (σ.2.2.2.1 k))
  else if (σ.2.1 k).1 = 16 then .inl (G.2.2.2.2.1, (σ.2.1 k).2, .inr (.inr (.inr (.inr (fun j => (σ.2.2.1 k j).map (fun a => base + a))))))
  else if (σ.2.1 k).1 = 17 then .inl (G.2.2.2.2.2, (σ.2.1 k).2, .inr (.inr (.inr (.inr (fun j => (σ.2.2.1 k j).map (fun a => base + a))))))
  else .inr ((σ.2.1 k).1, (xm_ft (σ.2.1 k).1).mapIdx (fun j t => xm_val base σ k j t))
def xm_ws (G : xm_G) (base : Nat) (σ : xm_S) : va_W := (List.range σ.1).map (fun k => (base + k, xm_ent G base σ k))
def xm_is (σ : xm_S) (k kd n : Nat) : Prop := k < σ.1 ∧ σ.2.1 k = (kd, n)
theorem xm_ws_at {G : xm_G} {base : Nat} {σ : xm_S} {k : Nat} (h : k < σ.1) : (xm_ws G base σ)[k]? = some (base + k, xm_ent G base σ k) := by
  simp [xm_ws, h]
theorem xm_ws_inv {G : xm_G} {base : Nat} {σ : xm_S} {k : Nat} {q : Nat × va_E} (h : (xm_ws G base σ)[k]? = some q) : k < σ.1 ∧ q = (base + k, xm_ent G base σ k) := by
  have hk : k < σ.1 := by
    have := (List.getElem?_eq_some_iff.mp h).1
    simpa [xm_ws] using this
  exact ⟨hk, (Option.some.inj ((xm_ws_at hk).symm.trans h)).symm⟩
theorem xm_D {G : xm_G} {base : Nat} {σ : xm_S} : va_D (fun q => base ≤ q) (xm_ws G base σ) := by
  refine ⟨fun i j p q hp hq he => ?_, fun k q hq => ?_⟩
  · obtain ⟨-, rfl⟩ := xm_ws_inv hp
    obtain ⟨-, rfl⟩ := xm_ws_inv hq
    dsimp only at he
    omega
  · obtain ⟨-, rfl⟩ := xm_ws_inv hq
    exact Nat.le_add_right _ _
theorem xm_set {G : xm_G} {base : Nat} {σ σ' : xm_S} {k : Nat} {e : va_E} (h1 : σ'.1 = σ.1) (hk : k < σ.1) (he : xm_ent G base σ' k = e) (hne : ∀ j, j ≠ k → xm_ent G base σ' j = xm_ent G base σ j) : (xm_ws G base σ).set k (base + k, e) = xm_ws G base σ' := by
  apply List.ext_getElem?
  intro i
  rw [List.getElem?_set]
  by_cases hi : k = i
  · subst hi
    rw [if_pos rfl, xm_ws_at (by rw [h1]; exact hk), if_pos (by simpa [xm_ws] using hk), he]
  · rw [if_neg hi]
    by_cases hl : i < σ.1
    · rw [xm_ws_at hl, xm_ws_at (by rw [h1]; exact hl), hne i (fun q => hi q.symm)]
    · rw [List.getElem?_eq_none (by simpa [xm_ws] using hl), List.getElem?_eq_none (by simpa [xm_ws, h1] using hl)]
def xm_W (G : xm_G) (base : Nat) (σ : xm_S) (H : Heap) : Prop := va_P G.1 vwCl (xm_ws G base σ) H
/-- words that a caller keeps by their own rows -/
def xm_N (s : State) : Prop := (∀ (a : String) (i : Nat) (x : MethodName) (h : String), Cond.methodLinkNest a i x h ∈ lw_tbl → va_Nw (.methodLinkNest a i x h) s) ∧ va_AO RX0 s ∧ va_AO RX1 s
def xm_C (G : xm_G) (base b L : Nat) (xs : Nat → Int32) (M : xm_M) (p : Program) (s : State) (m : MethodId) (args : Array Value) (meth : Method) (c : Code) : Prop :=
  p.tables.exec = Jvm.exec ∧ c.code = M.2.1 ∧ meth.sig.returnType = M.2.2.2.1 ∧ c.maxLocals = M.2.2.1 ∧ s.vm.findClass M.1.cls = some m.cls ∧ (∀ w ∈ xm_tb, w.before args s = true) ∧ meth.locks = false ∧ meth.name = M.1.name ∧ va_K G.1 vwCl (xm_tys G) s ∧ base ≤ s.heap.size ∧ va_X b L xs s s.heap ∧ b < base ∧ xm_N s
/-- a pure value, as the machine holds it: cells by their numbers from base on; a float stands for the law's own script -/
def xm_r (base b : Nat) (v : Value) : Value := match v with
  | .ref a => .ref (base + a)
  | .float _ => .ref b
  | v => v
theorem xm_r_cat (base b : Nat) (v : Value) : (xm_r base b v).category = v.category := by cases v <;> rfl
def xm_L (base b : Nat) (ls : Array Slot) (n : Nat) (lv : List (Option Value)) : Prop := ∃ l : List (Nat × Value), lv_has ls n l ∧ ∀ (i : Nat) (v : Value), lv[i]? = some (some v) → (i, xm_r base b v) ∈ l
theorem xm_L.at {base b : Nat} {ls : Array Slot} {n : Nat} {lv : List (Option Value)} (h : xm_L base b ls n lv) {i : Nat} {v : Value} (hi : lv[i]? = some (some v)) : ls[i]? = some (.val (xm_r base b v)) := by
  obtain ⟨l, h1, h2⟩ := h
  exact h1.2.2 _ (h2 i v hi)
theorem xm_L.size {base b : Nat} {ls : Array Slot} {n : Nat} {lv : List (Option Value)} (h : xm_L base b ls n lv) : ls.size = n := by
  obtain ⟨l, h1, -⟩ := h
  exact h1.1
/-- a return of the fitting kind at pc -/
def xm_rt (M : xm_M) (pc : Nat) (v : Option Value) : Prop := match v with
  | some (.int x) => decode M.2.1 pc = .ok (.ireturn, 1) ∧ (M.2.2.2.1 = some .int ∨ (M.2.2.2.1 = some .boolean ∧ (x = 0 ∨ x = 1)))
  | some (.long _) => decode M.2.1 pc = .ok (.lreturn, 1) ∧ M.2.2.2.1 = some .long
  | none => decode M.2.1 pc = .ok (.return_, 1) ∧ M.2.2.2.1 = none
  | _ => False
/-- from pc on, with locals lv, stack st and memory σ, the method comes to a return with what o says, if it says anything -/
def xs_ {α S : Type} (em : α → Option Value) (sg : S → xm_S) (M : xm_M) (pc : Nat) (lv : List (Option Value)) (st : List Value) (σ : S) (bc bs : Nat) (o : Option (α × S)) : Prop :=
  ∀ (r : α) (σ' : S), o = some (r, σ') → ∀ (G : xm_G) (base b L : Nat) (xs : Nat → Int32) (l : Launch) (p : Program) (e : Env) (R : Room) (s : State) (m : MethodId) (args : Array Value) (below : List Frame) (meth : Method) (c : Code) (H : Heap) (locs : List Loc) (cells slots : Nat) (ls : Array Slot) (Q : State → Prop),
    xm_C G base b L xs M p s m args meth c → M.2.2.2.2.1 ≤ R.frames → M.2.2.2.2.2 ≤ R.locals → cells + bc ≤ R.cells → slots + bs ≤ R.slots → xm_L base b ls M.2.2.1 lv → xm_W G base (sg σ) H → s.heap.size + cells = base + (sg σ).1 → va_S (fun q => base ≤ q) s.heap H locs →
    (∀ (H1 : Heap) (locs1 : List Loc) (cells1 slots1 pc1 : Nat) (ls1 : Array Slot), cells1 ≤ cells + bc → slots1 ≤ slots + bs → xm_W G base (sg σ') H1 → va_S (fun q => base ≤ q) s.heap H1 locs1 → xm_rt M pc1 (em r) → W p l e R s m args below meth c H1 locs1 cells1 slots1 Q (F0 m pc1 ls1 ((em r).map (xm_r base b)).toList)) →
    W p l e R s m args below meth c H locs cells slots Q (F0 m pc ls (st.map (xm_r base b)))
end
section
def xm_let {α β : Type} (e : α) (f : α → β) : β := f e
def xm_chk {β : Type} (c : Prop) [Decidable c] (a : Option β) : Option β := if c then a else none
abbrev xm_in (i : Int32) (n : Nat) : Prop := 0 ≤ i.toInt ∧ i.toInt < (n : Int)
theorem xm_in_vp {i : Int32} {n : Nat} (h : xm_in i n) : vp_in i n := by
  rintro (q | q)
  · have := Int32.lt_iff_toInt_lt.mp q
    have h0 : (0 : Int32).toInt = 0 := rfl
    rw [h0] at this
    exact absurd h.1 (by omega)
  · have h1 := h.1
    have h2 := h.2
    have e1 : i.toNatClampNeg = i.toInt.toNat := rfl
    rw [e1] at q
    omega
def xm_kl (lv : List (Option Value)) (i : Nat) : List (Option Value) := match i with
  | 0 => lv
  | j + 1 => match lv[j]? with
    | some (some w) => if w.category = 2 then lv.set j none else lv
    | _ => lv
def xm_s1 (lv : List (Option Value)) (i : Nat) (v : Value) : List (Option Value) := (xm_kl lv i).set i (some v)
def xm_s2 (lv : List (Option Value)) (i : Nat) (v : Value) : List (Option Value) := ((xm_kl lv i).set (i + 1) none).set i (some v)
theorem xm_kl_at {lv : List (Option Value)} {i j : Nat} {w : Value} (h : (xm_kl lv i)[j]? = some (some w)) : lv[j]? = some (some w) ∧ ¬ (j + 1 = i ∧ w.category = 2) := by
  cases i with
  | zero => exact ⟨h, fun q => by omega⟩
  | succ t =>
    dsimp only [xm_kl] at h
    split at h
    · rename_i w' hw'
      split at h
      · rename_i hc
        rw [List.getElem?_set] at h
        split at h
        · split at h <;> cases h
        · rename_i hne
          exact ⟨h, fun q => hne (by omega)⟩
      · rename_i hc
        refine ⟨h, fun q => ?_⟩
        have e : j = t := by omega
        subst e
        rw [hw'] at h
        cases h
        exact hc q.2
    · rename_i hno
      refine ⟨h, fun q => ?_⟩
      have e : j = t := by omega
      subst e
      exact hno w h
theorem xm_L.st1 {base b : Nat} {ls' : Array Slot} {nn i : Nat} {v : Value} {l : List (Nat × Value)} {lv lv' : List (Option Value)} (hm : ∀ (i : Nat) (v : Value), lv[i]? = some (some v) → (i, xm_r base b v) ∈ l) (he : lv' = xm_s1 lv i v) (h' : lv_has ls' nn ((i, xm_r base b v) :: l.filter (fun q => !(q.1 == i) && !(q.1 + 1 == i && q.2.category == 2)))) : xm_L base b ls' nn lv' := by
  refine ⟨_, h', fun j w hj => ?_⟩
  rw [he, xm_s1, List.getElem?_set] at hj
  split at hj
  · rename_i hij
    subst hij
    split at hj
    · cases hj
      exact List.mem_cons_self
    · cases hj
  · rename_i hij
    obtain ⟨h1, h2⟩ := xm_kl_at hj
    refine List.mem_cons_of_mem _ (List.mem_filter.mpr ⟨hm j w h1, ?_⟩)
    simp only [Bool.and_eq_true, Bool.not_eq_true', beq_eq_false_iff_ne, Bool.and_eq_false_imp, beq_iff_eq, xm_r_cat]
    exact ⟨fun q => hij q.symm, fun q1 q2 => h2 ⟨q1, q2⟩⟩
theorem xm_L.st2 {base b : Nat} {ls' : Array Slot} {nn i : Nat} {v : Value} {l : List (Nat × Value)} {lv lv' : List (Option Value)} (hm : ∀ (i : Nat) (v : Value), lv[i]? = some (some v) → (i, xm_r base b v) ∈ l) (he : lv' = xm_s2 lv i v) (h' : lv_has ls' nn ((i, xm_r base b v) :: l.filter (fun q => !(q.1 == i) && (!(q.1 == i + 1) && !(q.1 + 1 == i && q.2.category == 2))))) : xm_L base b ls' nn lv' := by
  refine ⟨_, h', fun j w hj => ?_⟩
  rw [he, xm_s2, List.getElem?_set] at hj
  split at hj
  · rename_i hij
    subst hij
    split at hj
    · cases hj
      exact List.mem_cons_self
    · cases hj
  · rename_i hij
    rw [List.getElem?_set] at hj
    split at hj
    · split at hj <;> cases hj
    · rename_i hij2
      obtain ⟨h1, h2⟩ := xm_kl_at hj
      refine List.mem_cons_of_mem _ (List.mem_filter.mpr ⟨hm j w h1, ?_⟩)
      simp only [Bool.and_eq_true, Bool.not_eq_true', beq_eq_false_iff_ne, Bool.and_eq_false_imp, beq_iff_eq, xm_r_cat]
      exact ⟨fun q => hij q.symm, fun q => hij2 q.symm, fun q1 q2 => h2 ⟨q1, q2⟩⟩
theorem xm_cmp_ge (x y : Int64) : (0 ≤ lg_cmp x y) ↔ y ≤ x := lg_cmp_ge x y
theorem xm_cmp_lt (x y : Int64) : (lg_cmp x y < 0) ↔ x < y := by
  rw [← Int32.not_le, lg_cmp_ge, Int64.not_le]
theorem xm_cmp_gt (x y : Int64) : (0 < lg_cmp x y) ↔ y < x := by
  unfold lg_cmp
  by_cases h : y < x
  · simp [h]
  · by_cases h2 : x = y
    · simp [h2]
    · simp [h, h2]
theorem xm_cmp_le (x y : Int64) : (lg_cmp x y ≤ 0) ↔ x ≤ y := by
  rw [← Int32.not_lt, xm_cmp_gt, Int64.not_lt]
theorem xm_cmp_eq (x y : Int64) : (lg_cmp x y = 0) ↔ x = y := by
  unfold lg_cmp
  by_cases h : y < x
  · simp [h]
    intro e
    subst e
    exact absurd h (fun z => Int64.lt_irrefl z)
  · by_cases h2 : x = y
    · simp [h2]
    · simp [h, h2]
section XR_
variable {α S : Type} {em : α → Option Value} {sg : S → xm_S} {M : xm_M} {pc n : Nat} {lv : List (Option Value)} {st : List Value} {σ : S} {bc bs : Nat} {o : Option (α × S)}
theorem xs_iadd {x y : Int32} (hd : decode M.2.1 pc = .ok (.iadd, 1)) (hn : pc + 1 = n) (k : xs_ em sg M n lv (.int (x + y) :: st) σ bc bs o) : xs_ em sg M pc lv (.int y :: .int x :: st) σ bc bs o := by
  subst hn
  intro r σ' ho G base b L xs l p e R s m args below meth c H locs cells slots ls Q hC hf hlo hc hs hL hW hz hS kret
  exact lv_iadd hC.1 hC.2.1 hd (k r σ' ho G base b L xs l p e R s m args below meth c H locs cells slots ls Q hC hf hlo hc hs hL hW hz hS kret)
theorem xs_isub {x y : Int32} (hd : decode M.2.1 pc = .ok (.isub, 1)) (hn : pc + 1 = n) (k : xs_ em sg M n lv (.int (x - y) :: st) σ bc bs o) : xs_ em sg M pc lv (.int y :: .int x :: st) σ bc bs o := by
  subst hn
  intro r σ' ho G base b L xs l p e R s m args below meth c H locs cells slots ls Q hC hf hlo hc hs hL hW hz hS kret
  exact lv_isub hC.1 hC.2.1 hd (k r σ' ho G base b L xs l p e R s m args below meth c H locs cells slots ls Q hC hf hlo hc hs hL hW hz hS kret)
theorem xs_imul {x y : Int32} (hd : decode M.2.1 pc = .ok (.imul, 1)) (hn : pc + 1 = n) (k : xs_ em sg M n lv (.int (x * y) :: st) σ bc bs o) : xs_ em sg M pc lv (.int y :: .int x :: st) σ bc bs o := by
  subst hn
  intro r σ' ho G base b L xs l p e R s m args below meth c H locs cells slots ls Q hC hf hlo hc hs hL hW hz hS kret
  exact lv_imul hC.1 hC.2.1 hd (k r σ' ho G base b L xs l p e R s m args below meth c H locs cells slots ls Q hC hf hlo hc hs hL hW hz hS kret)
theorem xs_iand {x y : Int32} (hd : decode M.2.1 pc = .ok (.iand, 1)) (hn : pc + 1 = n) (k : xs_ em sg M n lv (.int (x &&& y) :: st) σ bc bs o) : xs_ em sg M pc lv (.int y :: .int x :: st) σ bc bs o := by
  subst hn
  intro r σ' ho G base b L xs l p e R s m args below meth c H locs cells slots ls Q hC hf hlo hc hs hL hW hz hS kret
  exact lv_iand hC.1 hC.2.1 hd (k r σ' ho G base b L xs l p e R s m args below meth c H locs cells slots ls Q hC hf hlo hc hs hL hW hz hS kret)
theorem xs_ior {x y : Int32} (hd : decode M.2.1 pc = .ok (.ior, 1)) (hn : pc + 1 = n) (k : xs_ em sg M n lv (.int (x ||| y) :: st) σ bc bs o) : xs_ em sg M pc lv (.int y :: .int x :: st) σ bc bs o := by
  subst hn
  intro r σ' ho G base b L xs l p e R s m args below meth c H locs cells slots ls Q hC hf hlo hc hs hL hW hz hS kret
  exact lv_ior hC.1 hC.2.1 hd (k r σ' ho G base b L xs l p e R s m args below meth c H locs cells slots ls Q hC hf hlo hc hs hL hW hz hS kret)
theorem xs_ishl {x y : Int32} (hd : decode M.2.1 pc = .ok (.ishl, 1)) (hn : pc + 1 = n) (k : xs_ em sg M n lv (.int (x <<< (y &&& 31)) :: st) σ bc bs o) : xs_ em sg M pc lv (.int y :: .int x :: st) σ bc bs o := by
  subst hn
  intro r σ' ho G base b L xs l p e R s m args below meth c H locs cells slots ls Q hC hf hlo hc hs hL hW hz hS kret
  exact lv_ishl hC.1 hC.2.1 hd (k r σ' ho G base b L xs l p e R s m args below meth c H locs cells slots ls Q hC hf hlo hc hs hL hW hz hS kret)
theorem xs_ishr {x y : Int32} (hd : decode M.2.1 pc = .ok (.ishr, 1)) (hn : pc + 1 = n) (k : xs_ em sg M n lv (.int (x >>> (y &&& 31)) :: st) σ bc bs o) : xs_ em sg M pc lv (.int y :: .int x :: st) σ bc bs o := by
  subst hn
  intro r σ' ho G base b L xs l p e R s m args below meth c H locs cells slots ls Q hC hf hlo hc hs hL hW hz hS kret
  exact lv_ishr hC.1 hC.2.1 hd (k r σ' ho G base b L xs l p e R s m args below meth c H locs cells slots ls Q hC hf hlo hc hs hL hW hz hS kret)
theorem xs_ineg {x : Int32} (hd : decode M.2.1 pc = .ok (.ineg, 1)) (hn : pc + 1 = n) (k : xs_ em sg M n lv (.int (-x) :: st) σ bc bs o) : xs_ em sg M pc lv (.int x :: st) σ bc bs o := by
  subst hn
  intro r σ' ho G base b L xs l p e R s m args below meth c H locs cells slots ls Q hC hf hlo hc hs hL hW hz hS kret
  exact lv_ineg hC.1 hC.2.1 hd (k r σ' ho G base b L xs l p e R s m args below meth c H locs cells slots ls Q hC hf hlo hc hs hL hW hz hS kret)
theorem xs_ladd {x y : Int64} (hd : decode M.2.1 pc = .ok (.ladd, 1)) (hn : pc + 1 = n) (k : xs_ em sg M n lv (.long (x + y) :: st) σ bc bs o) : xs_ em sg M pc lv (.long y :: .long x :: st) σ bc bs o := by
  subst hn
  intro r σ' ho G base b L xs l p e R s m args below meth c H locs cells slots ls Q hC hf hlo hc hs hL hW hz hS kret
  exact lv_ladd hC.1 hC.2.1 hd (k r σ' ho G base b L xs l p e R s m args below meth c H locs cells slots ls Q hC hf hlo hc hs hL hW hz hS kret)
theorem xs_lsub {x y : Int64} (hd : decode M.2.1 pc = .ok (.lsub, 1)) (hn : pc + 1 = n) (k : xs_ em sg M n lv (.long (x - y) :: st) σ bc bs o) : xs_ em sg M pc lv (.long y :: .long x :: st) σ bc bs o := by
  subst hn
  intro r σ' ho G base b L xs l p e R s m args below meth c H locs cells slots ls Q hC hf hlo hc hs hL hW hz hS kret
  exact lv_lsub hC.1 hC.2.1 hd (k r σ' ho G base b L xs l p e R s m args below meth c H locs cells slots ls Q hC hf hlo hc hs hL hW hz hS kret)
theorem xs_lmul {x y : Int64} (hd : decode M.2.1 pc = .ok (.lmul, 1)) (hn : pc + 1 = n) (k : xs_ em sg M n lv (.long (x * y) :: st) σ bc bs o) : xs_ em sg M pc lv (.long y :: .long x :: st) σ bc bs o := by
  subst hn
  intro r σ' ho G base b L xs l p e R s m args below meth c H locs cells slots ls Q hC hf hlo hc hs hL hW hz hS kret
  exact lv_lmul hC.1 hC.2.1 hd (k r σ' ho G base b L xs l p e R s m args below meth c H locs cells slots ls Q hC hf hlo hc hs hL hW hz hS kret)
theorem xs_land {x y : Int64} (hd : decode M.2.1 pc = .ok (.land, 1)) (hn : pc + 1 = n) (k : xs_ em sg M n lv (.long (x &&& y) :: st) σ bc bs o) : xs_ em sg M pc lv (.long y :: .long x :: st) σ bc bs o := by
  subst hn
  intro r σ' ho G base b L xs l p e R s m args below meth c H locs cells slots ls Q hC hf hlo hc hs hL hW hz hS kret
  exact lv_land hC.1 hC.2.1 hd (k r σ' ho G base b L xs l p e R s m args below meth c H locs cells slots ls Q hC hf hlo hc hs hL hW hz hS kret)
theorem xs_lor {x y : Int64} (hd : decode M.2.1 pc = .ok (.lor, 1)) (hn : pc + 1 = n) (k : xs_ em sg M n lv (.long (x ||| y) :: st) σ bc bs o) : xs_ em sg M pc lv (.long y :: .long x :: st) σ bc bs o := by
  subst hn
  intro r σ' ho G base b L xs l p e R s m args below meth c H locs cells slots ls Q hC hf hlo hc hs hL hW hz hS kret
  exact lv_lor hC.1 hC.2.1 hd (k r σ' ho G base b L xs l p e R s m args below meth c H locs cells slots ls Q hC hf hlo hc hs hL hW hz hS kret)
theorem xs_lxor {x y : Int64} (hd : decode M.2.1 pc = .ok (.lxor, 1)) (hn : pc + 1 = n) (k : xs_ em sg M n lv (.long (x ^^^ y) :: st) σ bc bs o) : xs_ em sg M pc lv (.long y :: .long x :: st) σ bc bs o := by
  subst hn
  intro r σ' ho G base b L xs l p e R s m args below meth c H locs cells slots ls Q hC hf hlo hc hs hL hW hz hS kret
  exact lv_lxor hC.1 hC.2.1 hd (k r σ' ho G base b L xs l p e R s m args below meth c H locs cells slots ls Q hC hf hlo hc hs hL hW hz hS kret)
theorem xs_lneg {x : Int64} (hd : decode M.2.1 pc = .ok (.lneg, 1)) (hn : pc + 1 = n) (k : xs_ em sg M n lv (.long (-x) :: st) σ bc bs o) : xs_ em sg M pc lv (.long x :: st) σ bc bs o := by
  subst hn
  intro r σ' ho G base b L xs l p e R s m args below meth c H locs cells slots ls Q hC hf hlo hc hs hL hW hz hS kret
  exact lv_lneg hC.1 hC.2.1 hd (k r σ' ho G base b L xs l p e R s m args below meth c H locs cells slots ls Q hC hf hlo hc hs hL hW hz hS kret)
theorem xs_i2l {x : Int32} (hd : decode M.2.1 pc = .ok (.i2l, 1)) (hn : pc + 1 = n) (k : xs_ em sg M n lv (.long x.toInt64 :: st) σ bc bs o) : xs_ em sg M pc lv (.int x :: st) σ bc bs o := by
  subst hn
  intro r σ' ho G base b L xs l p e R s m args below meth c H locs cells slots ls Q hC hf hlo hc hs hL hW hz hS kret
  exact lv_i2l hC.1 hC.2.1 hd rfl (k r σ' ho G base b L xs l p e R s m args below meth c H locs cells slots ls Q hC hf hlo hc hs hL hW hz hS kret)
theorem xs_l2i {x : Int64} (hd : decode M.2.1 pc = .ok (.l2i, 1)) (hn : pc + 1 = n) (k : xs_ em sg M n lv (.int x.toInt32 :: st) σ bc bs o) : xs_ em sg M pc lv (.long x :: st) σ bc bs o := by
  subst hn
  intro r σ' ho G base b L xs l p e R s m args below meth c H locs cells slots ls Q hC hf hlo hc hs hL hW hz hS kret
  exact lv_l2i hC.1 hC.2.1 hd rfl (k r σ' ho G base b L xs l p e R s m args below meth c H locs cells slots ls Q hC hf hlo hc hs hL hW hz hS kret)
theorem xs_lushr {x : Int64} {y : Int32} (hd : decode M.2.1 pc = .ok (.lushr, 1)) (hn : pc + 1 = n) (k : xs_ em sg M n lv (.long (x.toUInt64 >>> (y.toInt64.toUInt64 &&& Int64.toUInt64 63)).toInt64 :: st) σ bc bs o) : xs_ em sg M pc lv (.int y :: .long x :: st) σ bc bs o := by
  subst hn
  intro r σ' ho G base b L xs l p e R s m args below meth c H locs cells slots ls Q hC hf hlo hc hs hL hW hz hS kret
  exact lv_lushr hC.1 hC.2.1 hd rfl (k r σ' ho G base b L xs l p e R s m args below meth c H locs cells slots ls Q hC hf hlo hc hs hL hW hz hS kret)
theorem xs_lshl {x : Int64} {y : Int32} (hd : decode M.2.1 pc = .ok (.lshl, 1)) (hn : pc + 1 = n) (k : xs_ em sg M n lv (.long (x <<< (y.toInt64 &&& 63)) :: st) σ bc bs o) : xs_ em sg M pc lv (.int y :: .long x :: st) σ bc bs o := by
  subst hn
  intro r σ' ho G base b L xs l p e R s m args below meth c H locs cells slots ls Q hC hf hlo hc hs hL hW hz hS kret
  exact lv_lshl hC.1 hC.2.1 hd rfl (k r σ' ho G base b L xs l p e R s m args below meth c H locs cells slots ls Q hC hf hlo hc hs hL hW hz hS kret)
theorem xs_iconst {i : Int} {v : Int32} (hd : decode M.2.1 pc = .ok (.iconst i, 1)) (hn : pc + 1 = n) (hv : Int32.ofInt i = v) (k : xs_ em sg M n lv (.int v :: st) σ bc bs o) : xs_ em sg M pc lv (st) σ bc bs o := by
  subst hn
  intro r σ' ho G base b L xs l p e R s m args below meth c H locs cells slots ls Q hC hf hlo hc hs hL hW hz hS kret
  exact lv_iconst hC.1 hC.2.1 hd hv (k r σ' ho G base b L xs l p e R s m args below meth c H locs cells slots ls Q hC hf hlo hc hs hL hW hz hS kret)
theorem xs_bipush {i : Int} {v : Int32} (hd : decode M.2.1 pc = .ok (.bipush i, 2)) (hn : pc + 2 = n) (hv : (Int8.ofInt i).toInt32 = v) (k : xs_ em sg M n lv (.int v :: st) σ bc bs o) : xs_ em sg M pc lv (st) σ bc bs o := by
  subst hn
  intro r σ' ho G base b L xs l p e R s m args below meth c H locs cells slots ls Q hC hf hlo hc hs hL hW hz hS kret
  exact lv_bipush hC.1 hC.2.1 hd hv (k r σ' ho G base b L xs l p e R s m args below meth c H locs cells slots ls Q hC hf hlo hc hs hL hW hz hS kret)
theorem xs_sipush {i : Int} {v : Int32} (hd : decode M.2.1 pc = .ok (.sipush i, 3)) (hn : pc + 3 = n) (hv : (Int16.ofInt i).toInt32 = v) (k : xs_ em sg M n lv (.int v :: st) σ bc bs o) : xs_ em sg M pc lv (st) σ bc bs o := by
  subst hn
  intro r σ' ho G base b L xs l p e R s m args below meth c H locs cells slots ls Q hC hf hlo hc hs hL hW hz hS kret
  exact lv_sipush hC.1 hC.2.1 hd hv (k r σ' ho G base b L xs l p e R s m args below meth c H locs cells slots ls Q hC hf hlo hc hs hL hW hz hS kret)
theorem xs_lconst {i : Fin 2} {v : Int64} (hd : decode M.2.1 pc = .ok (.lconst i, 1)) (hn : pc + 1 = n) (hv : Int64.ofNat (i : Nat) = v) (k : xs_ em sg M n lv (.long v :: st) σ bc bs o) : xs_ em sg M pc lv (st) σ bc bs o := by
  subst hn
  intro r σ' ho G base b L xs l p e R s m args below meth c H locs cells slots ls Q hC hf hlo hc hs hL hW hz hS kret
  exact lv_lconst hC.1 hC.2.1 hd hv (k r σ' ho G base b L xs l p e R s m args below meth c H locs cells slots ls Q hC hf hlo hc hs hL hW hz hS kret)
theorem xs_iload_n {i : Fin 4} {x : Int32} (hd : decode M.2.1 pc = .ok (.iload_n i, 1)) (hn : pc + 1 = n) (hl : lv[(i : Nat)]? = some (some (.int x))) (k : xs_ em sg M n lv (.int x :: st) σ bc bs o) : xs_ em sg M pc lv (st) σ bc bs o := by
  subst hn
  intro r σ' ho G base b L xs l p e R s m args below meth c H locs cells slots ls Q hC hf hlo hc hs hL hW hz hS kret
  exact lv_iload_n hC.1 hC.2.1 hd rfl (hL.at hl) (k r σ' ho G base b L xs l p e R s m args below meth c H locs cells slots ls Q hC hf hlo hc hs hL hW hz hS kret)
theorem xs_iload {i : Nat} {x : Int32} (hd : decode M.2.1 pc = .ok (.iload i, 2)) (hn : pc + 2 = n) (hl : lv[i]? = some (some (.int x))) (k : xs_ em sg M n lv (.int x :: st) σ bc bs o) : xs_ em sg M pc lv (st) σ bc bs o := by
  subst hn
  intro r σ' ho G base b L xs l p e R s m args below meth c H locs cells slots ls Q hC hf hlo hc hs hL hW hz hS kret
  exact lv_iload hC.1 hC.2.1 hd (hL.at hl) (k r σ' ho G base b L xs l p e R s m args below meth c H locs cells slots ls Q hC hf hlo hc hs hL hW hz hS kret)
theorem xs_lload_n {i : Fin 4} {x : Int64} (hd : decode M.2.1 pc = .ok (.lload_n i, 1)) (hn : pc + 1 = n) (hl : lv[(i : Nat)]? = some (some (.long x))) (k : xs_ em sg M n lv (.long x :: st) σ bc bs o) : xs_ em sg M pc lv (st) σ bc bs o := by
  subst hn
  intro r σ' ho G base b L xs l p e R s m args below meth c H locs cells slots ls Q hC hf hlo hc hs hL hW hz hS kret
  exact lv_lload_n hC.1 hC.2.1 hd rfl (hL.at hl) (k r σ' ho G base b L xs l p e R s m args below meth c H locs cells slots ls Q hC hf hlo hc hs hL hW hz hS kret)
theorem xs_lload {i : Nat} {x : Int64} (hd : decode M.2.1 pc = .ok (.lload i, 2)) (hn : pc + 2 = n) (hl : lv[i]? = some (some (.long x))) (k : xs_ em sg M n lv (.long x :: st) σ bc bs o) : xs_ em sg M pc lv (st) σ bc bs o := by
  subst hn
  intro r σ' ho G base b L xs l p e R s m args below meth c H locs cells slots ls Q hC hf hlo hc hs hL hW hz hS kret
  exact lv_lload hC.1 hC.2.1 hd (hL.at hl) (k r σ' ho G base b L xs l p e R s m args below meth c H locs cells slots ls Q hC hf hlo hc hs hL hW hz hS kret)
theorem xs_aload_n {i : Fin 4} {x : Nat} (hd : decode M.2.1 pc = .ok (.aload_n i, 1)) (hn : pc + 1 = n) (hl : lv[(i : Nat)]? = some (some (.ref x))) (k : xs_ em sg M n lv (.ref x :: st) σ bc bs o) : xs_ em sg M pc lv (st) σ bc bs o := by
  subst hn
  intro r σ' ho G base b L xs l p e R s m args below meth c H locs cells slots ls Q hC hf hlo hc hs hL hW hz hS kret
  exact lv_aload_n hC.1 hC.2.1 hd rfl (hL.at hl) (k r σ' ho G base b L xs l p e R s m args below meth c H locs cells slots ls Q hC hf hlo hc hs hL hW hz hS kret)
theorem xs_aload {i : Nat} {x : Nat} (hd : decode M.2.1 pc = .ok (.aload i, 2)) (hn : pc + 2 = n) (hl : lv[i]? = some (some (.ref x))) (k : xs_ em sg M n lv (.ref x :: st) σ bc bs o) : xs_ em sg M pc lv (st) σ bc bs o := by
  subst hn
  intro r σ' ho G base b L xs l p e R s m args below meth c H locs cells slots ls Q hC hf hlo hc hs hL hW hz hS kret
  exact lv_aload hC.1 hC.2.1 hd (hL.at hl) (k r σ' ho G base b L xs l p e R s m args below meth c H locs cells slots ls Q hC hf hlo hc hs hL hW hz hS kret)
theorem xs_sload_n {i : Fin 4} {x : UInt32} (hd : decode M.2.1 pc = .ok (.aload_n i, 1)) (hn : pc + 1 = n) (hl : lv[(i : Nat)]? = some (some (.float x))) (k : xs_ em sg M n lv (.float x :: st) σ bc bs o) : xs_ em sg M pc lv (st) σ bc bs o := by
  subst hn
  intro r σ' ho G base b L xs l p e R s m args below meth c H locs cells slots ls Q hC hf hlo hc hs hL hW hz hS kret
  exact lv_aload_n hC.1 hC.2.1 hd rfl (hL.at hl) (k r σ' ho G base b L xs l p e R s m args below meth c H locs cells slots ls Q hC hf hlo hc hs hL hW hz hS kret)
theorem xs_istore_n {i : Fin 4} {x : Int32} {lv' : List (Option Value)} (hd : decode M.2.1 pc = .ok (.istore_n i, 1)) (hn : pc + 1 = n) (hi : (i : Nat) < M.2.2.1) (he : xm_s1 lv (i : Nat) (.int x) = lv') (k : xs_ em sg M n lv' st σ bc bs o) : xs_ em sg M pc lv (.int x :: st) σ bc bs o := by
  subst hn
  intro r σ' ho G base b L xs l p e R s m args below meth c H locs cells slots ls Q hC hf hlo hc hs hL hW hz hS kret
  obtain ⟨l0, hl0, hm⟩ := hL
  exact lv_istore_n hC.1 hC.2.1 hd rfl hl0 hi rfl (fun ls' h' => k r σ' ho G base b L xs l p e R s m args below meth c H locs cells slots ls' Q hC hf hlo hc hs (xm_L.st1 hm he.symm h') hW hz hS kret)
theorem xs_istore {i : Nat} {x : Int32} {lv' : List (Option Value)} (hd : decode M.2.1 pc = .ok (.istore i, 2)) (hn : pc + 2 = n) (hi : i < M.2.2.1) (he : xm_s1 lv i (.int x) = lv') (k : xs_ em sg M n lv' st σ bc bs o) : xs_ em sg M pc lv (.int x :: st) σ bc bs o := by
  subst hn
  intro r σ' ho G base b L xs l p e R s m args below meth c H locs cells slots ls Q hC hf hlo hc hs hL hW hz hS kret
  obtain ⟨l0, hl0, hm⟩ := hL
  exact lv_istore hC.1 hC.2.1 hd hl0 hi rfl (fun ls' h' => k r σ' ho G base b L xs l p e R s m args below meth c H locs cells slots ls' Q hC hf hlo hc hs (xm_L.st1 hm he.symm h') hW hz hS kret)
theorem xs_lstore_n {i : Fin 4} {x : Int64} {lv' : List (Option Value)} (hd : decode M.2.1 pc = .ok (.lstore_n i, 1)) (hn : pc + 1 = n) (hi : (i : Nat) + 1 < M.2.2.1) (he : xm_s2 lv (i : Nat) (.long x) = lv') (k : xs_ em sg M n lv' st σ bc bs o) : xs_ em sg M pc lv (.long x :: st) σ bc bs o := by
  subst hn
  intro r σ' ho G base b L xs l p e R s m args below meth c H locs cells slots ls Q hC hf hlo hc hs hL hW hz hS kret
  obtain ⟨l0, hl0, hm⟩ := hL
  exact lv_lstore_n hC.1 hC.2.1 hd rfl hl0 hi rfl (fun ls' h' => k r σ' ho G base b L xs l p e R s m args below meth c H locs cells slots ls' Q hC hf hlo hc hs (xm_L.st2 hm he.symm h') hW hz hS kret)
theorem xs_lstore {i : Nat} {x : Int64} {lv' : List (Option Value)} (hd : decode M.2.1 pc = .ok (.lstore i, 2)) (hn : pc + 2 = n) (hi : i + 1 < M.2.2.1) (he : xm_s2 lv i (.long x) = lv') (k : xs_ em sg M n lv' st σ bc bs o) : xs_ em sg M pc lv (.long x :: st) σ bc bs o := by
  subst hn
  intro r σ' ho G base b L xs l p e R s m args below meth c H locs cells slots ls Q hC hf hlo hc hs hL hW hz hS kret
  obtain ⟨l0, hl0, hm⟩ := hL
  exact lv_lstore hC.1 hC.2.1 hd hl0 hi rfl (fun ls' h' => k r σ' ho G base b L xs l p e R s m args below meth c H locs cells slots ls' Q hC hf hlo hc hs (xm_L.st2 hm he.symm h') hW hz hS kret)
theorem xs_astore_n {i : Fin 4} {x : Nat} {lv' : List (Option Value)} (hd : decode M.2.1 pc = .ok (.astore_n i, 1)) (hn : pc + 1 = n) (hi : (i : Nat) < M.2.2.1) (he : xm_s1 lv (i : Nat) (.ref x) = lv') (k : xs_ em sg M n lv' st σ bc bs o) : xs_ em sg M pc lv (.ref x :: st) σ bc bs o := by
  subst hn
  intro r σ' ho G base b L xs l p e R s m args below meth c H locs cells slots ls Q hC hf hlo hc hs hL hW hz hS kret
  obtain ⟨l0, hl0, hm⟩ := hL
  exact lv_astore_n hC.1 hC.2.1 hd rfl hl0 hi rfl (fun ls' h' => k r σ' ho G base b L xs l p e R s m args below meth c H locs cells slots ls' Q hC hf hlo hc hs (xm_L.st1 hm he.symm h') hW hz hS kret)
theorem xs_astore {i : Nat} {x : Nat} {lv' : List (Option Value)} (hd : decode M.2.1 pc = .ok (.astore i, 2)) (hn : pc + 2 = n) (hi : i < M.2.2.1) (he : xm_s1 lv i (.ref x) = lv') (k : xs_ em sg M n lv' st σ bc bs o) : xs_ em sg M pc lv (.ref x :: st) σ bc bs o := by
  subst hn
  intro r σ' ho G base b L xs l p e R s m args below meth c H locs cells slots ls Q hC hf hlo hc hs hL hW hz hS kret
  obtain ⟨l0, hl0, hm⟩ := hL
  exact lv_astore hC.1 hC.2.1 hd hl0 hi rfl (fun ls' h' => k r σ' ho G base b L xs l p e R s m args below meth c H locs cells slots ls' Q hC hf hlo hc hs (xm_L.st1 hm he.symm h') hW hz hS kret)
theorem xs_iinc {i : Nat} {d : Int} {x v : Int32} {lv' : List (Option Value)} (hd : decode M.2.1 pc = .ok (.iinc i d, 3)) (hn : pc + 3 = n) (hl : lv[i]? = some (some (.int x))) (hv : x + Int32.ofInt d = v) (hi : i < M.2.2.1) (he : xm_s1 lv i (.int v) = lv') (k : xs_ em sg M n lv' st σ bc bs o) : xs_ em sg M pc lv st σ bc bs o := by
  subst hn
  intro r σ' ho G base b L xs l p e R s m args below meth c H locs cells slots ls Q hC hf hlo hc hs hL hW hz hS kret
  obtain ⟨l0, hl0, hm⟩ := hL
  obtain ⟨kk, hkk⟩ := List.getElem?_of_mem (hm i _ hl)
  exact lv_iinc hC.1 hC.2.1 hd hl0 hkk hv hi rfl (fun ls' h' => k r σ' ho G base b L xs l p e R s m args below meth c H locs cells slots ls' Q hC hf hlo hc hs (xm_L.st1 hm he.symm h') hW hz hS kret)
theorem xs_dup {v : Value} (hd : decode M.2.1 pc = .ok (.dup, 1)) (hn : pc + 1 = n) (hv : v.category = 1) (k : xs_ em sg M n lv (v :: v :: st) σ bc bs o) : xs_ em sg M pc lv (v :: st) σ bc bs o := by
  subst hn
  intro r σ' ho G base b L xs l p e R s m args below meth c H locs cells slots ls Q hC hf hlo hc hs hL hW hz hS kret
  exact lv_dup hC.1 hC.2.1 hd ((xm_r_cat base b v).trans hv) (k r σ' ho G base b L xs l p e R s m args below meth c H locs cells slots ls Q hC hf hlo hc hs hL hW hz hS kret)
theorem xs_pop {v : Value} (hd : decode M.2.1 pc = .ok (.pop, 1)) (hn : pc + 1 = n) (hv : v.category = 1) (k : xs_ em sg M n lv (st) σ bc bs o) : xs_ em sg M pc lv (v :: st) σ bc bs o := by
  subst hn
  intro r σ' ho G base b L xs l p e R s m args below meth c H locs cells slots ls Q hC hf hlo hc hs hL hW hz hS kret
  exact lv_pop hC.1 hC.2.1 hd ((xm_r_cat base b v).trans hv) (k r σ' ho G base b L xs l p e R s m args below meth c H locs cells slots ls Q hC hf hlo hc hs hL hW hz hS kret)
theorem xs_dup2_11 {v w : Value} (hd : decode M.2.1 pc = .ok (.dup2, 1)) (hn : pc + 1 = n) (hv : v.category = 1) (hw : w.category = 1) (k : xs_ em sg M n lv (v :: w :: v :: w :: st) σ bc bs o) : xs_ em sg M pc lv (v :: w :: st) σ bc bs o := by
  subst hn
  intro r σ' ho G base b L xs l p e R s m args below meth c H locs cells slots ls Q hC hf hlo hc hs hL hW hz hS kret
  exact lv_dup2_11 hC.1 hC.2.1 hd ((xm_r_cat base b v).trans hv) ((xm_r_cat base b w).trans hw) (k r σ' ho G base b L xs l p e R s m args below meth c H locs cells slots ls Q hC hf hlo hc hs hL hW hz hS kret)
theorem xs_dup2_2 {v : Value} (hd : decode M.2.1 pc = .ok (.dup2, 1)) (hn : pc + 1 = n) (hv : v.category = 2) (k : xs_ em sg M n lv (v :: v :: st) σ bc bs o) : xs_ em sg M pc lv (v :: st) σ bc bs o := by
  subst hn
  intro r σ' ho G base b L xs l p e R s m args below meth c H locs cells slots ls Q hC hf hlo hc hs hL hW hz hS kret
  exact lv_dup2_2 hC.1 hC.2.1 hd ((xm_r_cat base b v).trans hv) (k r σ' ho G base b L xs l p e R s m args below meth c H locs cells slots ls Q hC hf hlo hc hs hL hW hz hS kret)
theorem xs_goto {off : Int} (hd : decode M.2.1 pc = .ok (.goto off, 3)) (ht : (pc : Int) + off = (n : Int)) (k : xs_ em sg M n lv st σ bc bs o) : xs_ em sg M pc lv st σ bc bs o := by
  intro r σ' ho G base b L xs l p e R s m args below meth c H locs cells slots ls Q hC hf hlo hc hs hL hW hz hS kret
  exact lv_goto hC.1 hC.2.1 hd ht (k r σ' ho G base b L xs l p e R s m args below meth c H locs cells slots ls Q hC hf hlo hc hs hL hW hz hS kret)
theorem xs_idiv {β : Type} {x y : Int32} {a : Option β} {f : β → Option (α × S)} (hd : decode M.2.1 pc = .ok (.idiv, 1)) (hn : pc + 1 = n) (k : ¬ y = 0 → xs_ em sg M n lv (.int (x / y) :: st) σ bc bs (a.bind f)) : xs_ em sg M pc lv (.int y :: .int x :: st) σ bc bs ((xm_chk (¬ y = 0) a).bind f) := by
  subst hn
  intro r σ' ho G base b L xs l p e R s m args below meth c H locs cells slots ls Q hC hf hlo hc hs hL hW hz hS kret
  by_cases hch : ¬ y = 0
  · rw [xm_chk, if_pos hch] at ho
    exact lv_idiv hC.1 hC.2.1 hd hch (k hch r σ' ho G base b L xs l p e R s m args below meth c H locs cells slots ls Q hC hf hlo hc hs hL hW hz hS kret)
  · rw [xm_chk, if_neg hch] at ho
    cases ho
theorem xs_ldiv {β : Type} {x y : Int64} {a : Option β} {f : β → Option (α × S)} (hd : decode M.2.1 pc = .ok (.ldiv, 1)) (hn : pc + 1 = n) (k : ¬ y = 0 → xs_ em sg M n lv (.long (x / y) :: st) σ bc bs (a.bind f)) : xs_ em sg M pc lv (.long y :: .long x :: st) σ bc bs ((xm_chk (¬ y = 0) a).bind f) := by
  subst hn
  intro r σ' ho G base b L xs l p e R s m args below meth c H locs cells slots ls Q hC hf hlo hc hs hL hW hz hS kret
  by_cases hch : ¬ y = 0
  · rw [xm_chk, if_pos hch] at ho
    exact lv_ldiv hC.1 hC.2.1 hd hch (k hch r σ' ho G base b L xs l p e R s m args below meth c H locs cells slots ls Q hC hf hlo hc hs hL hW hz hS kret)
  · rw [xm_chk, if_neg hch] at ho
    cases ho
theorem xs_irem {β : Type} {x y : Int32} {a : Option β} {f : β → Option (α × S)} (hd : decode M.2.1 pc = .ok (.irem, 1)) (hn : pc + 1 = n) (k : ¬ y = 0 → xs_ em sg M n lv (.int (x - x / y * y) :: st) σ bc bs (a.bind f)) : xs_ em sg M pc lv (.int y :: .int x :: st) σ bc bs ((xm_chk (¬ y = 0) a).bind f) := by
  subst hn
  intro r σ' ho G base b L xs l p e R s m args below meth c H locs cells slots ls Q hC hf hlo hc hs hL hW hz hS kret
  by_cases hch : ¬ y = 0
  · rw [xm_chk, if_pos hch] at ho
    exact lv_irem hC.1 hC.2.1 hd hch (k hch r σ' ho G base b L xs l p e R s m args below meth c H locs cells slots ls Q hC hf hlo hc hs hL hW hz hS kret)
  · rw [xm_chk, if_neg hch] at ho
    cases ho
theorem xs_lrem {β : Type} {x y : Int64} {a : Option β} {f : β → Option (α × S)} (hd : decode M.2.1 pc = .ok (.lrem, 1)) (hn : pc + 1 = n) (k : ¬ y = 0 → xs_ em sg M n lv (.long (x - x / y * y) :: st) σ bc bs (a.bind f)) : xs_ em sg M pc lv (.long y :: .long x :: st) σ bc bs ((xm_chk (¬ y = 0) a).bind f) := by
  subst hn
  intro r σ' ho G base b L xs l p e R s m args below meth c H locs cells slots ls Q hC hf hlo hc hs hL hW hz hS kret
  by_cases hch : ¬ y = 0
  · rw [xm_chk, if_pos hch] at ho
    exact lv_lrem hC.1 hC.2.1 hd hch (k hch r σ' ho G base b L xs l p e R s m args below meth c H locs cells slots ls Q hC hf hlo hc hs hL hW hz hS kret)
  · rw [xm_chk, if_neg hch] at ho
    cases ho
theorem xs_icmp_eq {β : Type} {x y : Int32} {off : Int} {tgt : Nat} {a1 a2 : Option β} {f : β → Option (α × S)} (hd : decode M.2.1 pc = .ok (.if_icmp .eq off, 3)) (ht : (pc : Int) + off = (tgt : Int)) (hn : pc + 3 = n) (k1 : x = y → xs_ em sg M tgt lv st σ bc bs (a1.bind f)) (k2 : ¬ (x = y) → xs_ em sg M n lv st σ bc bs (a2.bind f)) : xs_ em sg M pc lv (.int y :: .int x :: st) σ bc bs ((if x = y then a1 else a2).bind f) := by
  subst hn
  intro r σ' ho G base b L xs l p e R s m args below meth c H locs cells slots ls Q hC hf hlo hc hs hL hW hz hS kret
  refine lv_icmp_eq hC.1 hC.2.1 hd ht (fun hcd => ?_) (fun hcd => ?_)
  · exact k1 hcd r σ' (by rw [if_pos hcd] at ho; exact ho) G base b L xs l p e R s m args below meth c H locs cells slots ls Q hC hf hlo hc hs hL hW hz hS kret
  · exact k2 hcd r σ' (by rw [if_neg hcd] at ho; exact ho) G base b L xs l p e R s m args below meth c H locs cells slots ls Q hC hf hlo hc hs hL hW hz hS kret
theorem xs_icmp_lt {β : Type} {x y : Int32} {off : Int} {tgt : Nat} {a1 a2 : Option β} {f : β → Option (α × S)} (hd : decode M.2.1 pc = .ok (.if_icmp .lt off, 3)) (ht : (pc : Int) + off = (tgt : Int)) (hn : pc + 3 = n) (k1 : x < y → xs_ em sg M tgt lv st σ bc bs (a1.bind f)) (k2 : ¬ (x < y) → xs_ em sg M n lv st σ bc bs (a2.bind f)) : xs_ em sg M pc lv (.int y :: .int x :: st) σ bc bs ((if x < y then a1 else a2).bind f) := by
  subst hn
  intro r σ' ho G base b L xs l p e R s m args below meth c H locs cells slots ls Q hC hf hlo hc hs hL hW hz hS kret
  refine lv_icmp_lt hC.1 hC.2.1 hd ht (fun hcd => ?_) (fun hcd => ?_)
  · exact k1 hcd r σ' (by rw [if_pos hcd] at ho; exact ho) G base b L xs l p e R s m args below meth c H locs cells slots ls Q hC hf hlo hc hs hL hW hz hS kret
  · exact k2 hcd r σ' (by rw [if_neg hcd] at ho; exact ho) G base b L xs l p e R s m args below meth c H locs cells slots ls Q hC hf hlo hc hs hL hW hz hS kret
theorem xs_icmp_ge {β : Type} {x y : Int32} {off : Int} {tgt : Nat} {a1 a2 : Option β} {f : β → Option (α × S)} (hd : decode M.2.1 pc = .ok (.if_icmp .ge off, 3)) (ht : (pc : Int) + off = (tgt : Int)) (hn : pc + 3 = n) (k1 : y ≤ x → xs_ em sg M tgt lv st σ bc bs (a1.bind f)) (k2 : ¬ (y ≤ x) → xs_ em sg M n lv st σ bc bs (a2.bind f)) : xs_ em sg M pc lv (.int y :: .int x :: st) σ bc bs ((if y ≤ x then a1 else a2).bind f) := by
  subst hn
  intro r σ' ho G base b L xs l p e R s m args below meth c H locs cells slots ls Q hC hf hlo hc hs hL hW hz hS kret
  refine lv_icmp_ge hC.1 hC.2.1 hd ht (fun hcd => ?_) (fun hcd => ?_)
  · exact k1 hcd r σ' (by rw [if_pos hcd] at ho; exact ho) G base b L xs l p e R s m args below meth c H locs cells slots ls Q hC hf hlo hc hs hL hW hz hS kret
  · exact k2 hcd r σ' (by rw [if_neg hcd] at ho; exact ho) G base b L xs l p e R s m args below meth c H locs cells slots ls Q hC hf hlo hc hs hL hW hz hS kret
theorem xs_icmp_gt {β : Type} {x y : Int32} {off : Int} {tgt : Nat} {a1 a2 : Option β} {f : β → Option (α × S)} (hd : decode M.2.1 pc = .ok (.if_icmp .gt off, 3)) (ht : (pc : Int) + off = (tgt : Int)) (hn : pc + 3 = n) (k1 : y < x → xs_ em sg M tgt lv st σ bc bs (a1.bind f)) (k2 : ¬ (y < x) → xs_ em sg M n lv st σ bc bs (a2.bind f)) : xs_ em sg M pc lv (.int y :: .int x :: st) σ bc bs ((if y < x then a1 else a2).bind f) := by
  subst hn
  intro r σ' ho G base b L xs l p e R s m args below meth c H locs cells slots ls Q hC hf hlo hc hs hL hW hz hS kret
  refine lv_icmp_gt hC.1 hC.2.1 hd ht (fun hcd => ?_) (fun hcd => ?_)
  · exact k1 hcd r σ' (by rw [if_pos hcd] at ho; exact ho) G base b L xs l p e R s m args below meth c H locs cells slots ls Q hC hf hlo hc hs hL hW hz hS kret
  · exact k2 hcd r σ' (by rw [if_neg hcd] at ho; exact ho) G base b L xs l p e R s m args below meth c H locs cells slots ls Q hC hf hlo hc hs hL hW hz hS kret
theorem xs_icmp_le {β : Type} {x y : Int32} {off : Int} {tgt : Nat} {a1 a2 : Option β} {f : β → Option (α × S)} (hd : decode M.2.1 pc = .ok (.if_icmp .le off, 3)) (ht : (pc : Int) + off = (tgt : Int)) (hn : pc + 3 = n) (k1 : x ≤ y → xs_ em sg M tgt lv st σ bc bs (a1.bind f)) (k2 : ¬ (x ≤ y) → xs_ em sg M n lv st σ bc bs (a2.bind f)) : xs_ em sg M pc lv (.int y :: .int x :: st) σ bc bs ((if x ≤ y then a1 else a2).bind f) := by
  subst hn
  intro r σ' ho G base b L xs l p e R s m args below meth c H locs cells slots ls Q hC hf hlo hc hs hL hW hz hS kret
  refine lv_icmp_le hC.1 hC.2.1 hd ht (fun hcd => ?_) (fun hcd => ?_)
  · exact k1 hcd r σ' (by rw [if_pos hcd] at ho; exact ho) G base b L xs l p e R s m args below meth c H locs cells slots ls Q hC hf hlo hc hs hL hW hz hS kret
  · exact k2 hcd r σ' (by rw [if_neg hcd] at ho; exact ho) G base b L xs l p e R s m args below meth c H locs cells slots ls Q hC hf hlo hc hs hL hW hz hS kret
theorem xs_if_eq {β : Type} {x : Int32} {off : Int} {tgt : Nat} {a1 a2 : Option β} {f : β → Option (α × S)} (hd : decode M.2.1 pc = .ok (.ifCond .eq off, 3)) (ht : (pc : Int) + off = (tgt : Int)) (hn : pc + 3 = n) (k1 : x = 0 → xs_ em sg M tgt lv st σ bc bs (a1.bind f)) (k2 : ¬ (x = 0) → xs_ em sg M n lv st σ bc bs (a2.bind f)) : xs_ em sg M pc lv (.int x :: st) σ bc bs ((if x = 0 then a1 else a2).bind f) := by
  subst hn
  intro r σ' ho G base b L xs l p e R s m args below meth c H locs cells slots ls Q hC hf hlo hc hs hL hW hz hS kret
  refine lv_if_eq hC.1 hC.2.1 hd ht (fun hcd => ?_) (fun hcd => ?_)
  · exact k1 hcd r σ' (by rw [if_pos hcd] at ho; exact ho) G base b L xs l p e R s m args below meth c H locs cells slots ls Q hC hf hlo hc hs hL hW hz hS kret
  · exact k2 hcd r σ' (by rw [if_neg hcd] at ho; exact ho) G base b L xs l p e R s m args below meth c H locs cells slots ls Q hC hf hlo hc hs hL hW hz hS kret
theorem xs_if_lt {β : Type} {x : Int32} {off : Int} {tgt : Nat} {a1 a2 : Option β} {f : β → Option (α × S)} (hd : decode M.2.1 pc = .ok (.ifCond .lt off, 3)) (ht : (pc : Int) + off = (tgt : Int)) (hn : pc + 3 = n) (k1 : x < 0 → xs_ em sg M tgt lv st σ bc bs (a1.bind f)) (k2 : ¬ (x < 0) → xs_ em sg M n lv st σ bc bs (a2.bind f)) : xs_ em sg M pc lv (.int x :: st) σ bc bs ((if x < 0 then a1 else a2).bind f) := by
  subst hn
  intro r σ' ho G base b L xs l p e R s m args below meth c H locs cells slots ls Q hC hf hlo hc hs hL hW hz hS kret
  refine lv_if_lt hC.1 hC.2.1 hd ht (fun hcd => ?_) (fun hcd => ?_)
  · exact k1 hcd r σ' (by rw [if_pos hcd] at ho; exact ho) G base b L xs l p e R s m args below meth c H locs cells slots ls Q hC hf hlo hc hs hL hW hz hS kret
  · exact k2 hcd r σ' (by rw [if_neg hcd] at ho; exact ho) G base b L xs l p e R s m args below meth c H locs cells slots ls Q hC hf hlo hc hs hL hW hz hS kret
theorem xs_if_ge {β : Type} {x : Int32} {off : Int} {tgt : Nat} {a1 a2 : Option β} {f : β → Option (α × S)} (hd : decode M.2.1 pc = .ok (.ifCond .ge off, 3)) (ht : (pc : Int) + off = (tgt : Int)) (hn : pc + 3 = n) (k1 : 0 ≤ x → xs_ em sg M tgt lv st σ bc bs (a1.bind f)) (k2 : ¬ (0 ≤ x) → xs_ em sg M n lv st σ bc bs (a2.bind f)) : xs_ em sg M pc lv (.int x :: st) σ bc bs ((if 0 ≤ x then a1 else a2).bind f) := by
  subst hn
  intro r σ' ho G base b L xs l p e R s m args below meth c H locs cells slots ls Q hC hf hlo hc hs hL hW hz hS kret
  refine lv_if_ge hC.1 hC.2.1 hd ht (fun hcd => ?_) (fun hcd => ?_)
  · exact k1 hcd r σ' (by rw [if_pos hcd] at ho; exact ho) G base b L xs l p e R s m args below meth c H locs cells slots ls Q hC hf hlo hc hs hL hW hz hS kret
  · exact k2 hcd r σ' (by rw [if_neg hcd] at ho; exact ho) G base b L xs l p e R s m args below meth c H locs cells slots ls Q hC hf hlo hc hs hL hW hz hS kret
theorem xs_if_gt {β : Type} {x : Int32} {off : Int} {tgt : Nat} {a1 a2 : Option β} {f : β → Option (α × S)} (hd : decode M.2.1 pc = .ok (.ifCond .gt off, 3)) (ht : (pc : Int) + off = (tgt : Int)) (hn : pc + 3 = n) (k1 : 0 < x → xs_ em sg M tgt lv st σ bc bs (a1.bind f)) (k2 : ¬ (0 < x) → xs_ em sg M n lv st σ bc bs (a2.bind f)) : xs_ em sg M pc lv (.int x :: st) σ bc bs ((if 0 < x then a1 else a2).bind f) := by
  subst hn
  intro r σ' ho G base b L xs l p e R s m args below meth c H locs cells slots ls Q hC hf hlo hc hs hL hW hz hS kret
  refine lv_if_gt hC.1 hC.2.1 hd ht (fun hcd => ?_) (fun hcd => ?_)
  · exact k1 hcd r σ' (by rw [if_pos hcd] at ho; exact ho) G base b L xs l p e R s m args below meth c H locs cells slots ls Q hC hf hlo hc hs hL hW hz hS kret
  · exact k2 hcd r σ' (by rw [if_neg hcd] at ho; exact ho) G base b L xs l p e R s m args below meth c H locs cells slots ls Q hC hf hlo hc hs hL hW hz hS kret
theorem xs_if_le {β : Type} {x : Int32} {off : Int} {tgt : Nat} {a1 a2 : Option β} {f : β → Option (α × S)} (hd : decode M.2.1 pc = .ok (.ifCond .le off, 3)) (ht : (pc : Int) + off = (tgt : Int)) (hn : pc + 3 = n) (k1 : x ≤ 0 → xs_ em sg M tgt lv st σ bc bs (a1.bind f)) (k2 : ¬ (x ≤ 0) → xs_ em sg M n lv st σ bc bs (a2.bind f)) : xs_ em sg M pc lv (.int x :: st) σ bc bs ((if x ≤ 0 then a1 else a2).bind f) := by
  subst hn
  intro r σ' ho G base b L xs l p e R s m args below meth c H locs cells slots ls Q hC hf hlo hc hs hL hW hz hS kret
  refine lv_if_le hC.1 hC.2.1 hd ht (fun hcd => ?_) (fun hcd => ?_)
  · exact k1 hcd r σ' (by rw [if_pos hcd] at ho; exact ho) G base b L xs l p e R s m args below meth c H locs cells slots ls Q hC hf hlo hc hs hL hW hz hS kret
  · exact k2 hcd r σ' (by rw [if_neg hcd] at ho; exact ho) G base b L xs l p e R s m args below meth c H locs cells slots ls Q hC hf hlo hc hs hL hW hz hS kret
theorem xs_icmp_ne {β : Type} {x y : Int32} {off : Int} {tgt : Nat} {a1 a2 : Option β} {f : β → Option (α × S)} (hd : decode M.2.1 pc = .ok (.if_icmp .ne off, 3)) (ht : (pc : Int) + off = (tgt : Int)) (hn : pc + 3 = n) (k1 : x = y → xs_ em sg M n lv st σ bc bs (a1.bind f)) (k2 : ¬ (x = y) → xs_ em sg M tgt lv st σ bc bs (a2.bind f)) : xs_ em sg M pc lv (.int y :: .int x :: st) σ bc bs ((if x = y then a1 else a2).bind f) := by
  subst hn
  intro r σ' ho G base b L xs l p e R s m args below meth c H locs cells slots ls Q hC hf hlo hc hs hL hW hz hS kret
  refine lv_icmp_ne hC.1 hC.2.1 hd ht (fun hcd => ?_) (fun hcd => ?_)
  · exact k2 hcd r σ' (by rw [if_neg hcd] at ho; exact ho) G base b L xs l p e R s m args below meth c H locs cells slots ls Q hC hf hlo hc hs hL hW hz hS kret
  · exact k1 hcd r σ' (by rw [if_pos hcd] at ho; exact ho) G base b L xs l p e R s m args below meth c H locs cells slots ls Q hC hf hlo hc hs hL hW hz hS kret
theorem xs_if_ne {β : Type} {x : Int32} {off : Int} {tgt : Nat} {a1 a2 : Option β} {f : β → Option (α × S)} (hd : decode M.2.1 pc = .ok (.ifCond .ne off, 3)) (ht : (pc : Int) + off = (tgt : Int)) (hn : pc + 3 = n) (k1 : x = 0 → xs_ em sg M n lv st σ bc bs (a1.bind f)) (k2 : ¬ (x = 0) → xs_ em sg M tgt lv st σ bc bs (a2.bind f)) : xs_ em sg M pc lv (.int x :: st) σ bc bs ((if x = 0 then a1 else a2).bind f) := by
  subst hn
  intro r σ' ho G base b L xs l p e R s m args below meth c H locs cells slots ls Q hC hf hlo hc hs hL hW hz hS kret
  refine lv_if_ne hC.1 hC.2.1 hd ht (fun hcd => ?_) (fun hcd => ?_)
  · exact k2 hcd r σ' (by rw [if_neg hcd] at ho; exact ho) G base b L xs l p e R s m args below meth c H locs cells slots ls Q hC hf hlo hc hs hL hW hz hS kret
  · exact k1 hcd r σ' (by rw [if_pos hcd] at ho; exact ho) G base b L xs l p e R s m args below meth c H locs cells slots ls Q hC hf hlo hc hs hL hW hz hS kret
theorem xs_lif_ge {β : Type} {x y : Int64} {pc1 : Nat} {off : Int} {tgt : Nat} {a1 a2 : Option β} {f : β → Option (α × S)} (hd : decode M.2.1 pc = .ok (.lcmp, 1)) (hp : pc + 1 = pc1) (hd1 : decode M.2.1 pc1 = .ok (.ifCond .ge off, 3)) (ht : (pc1 : Int) + off = (tgt : Int)) (hn : pc1 + 3 = n) (k1 : y ≤ x → xs_ em sg M tgt lv st σ bc bs (a1.bind f)) (k2 : ¬ (y ≤ x) → xs_ em sg M n lv st σ bc bs (a2.bind f)) : xs_ em sg M pc lv (.long y :: .long x :: st) σ bc bs ((if y ≤ x then a1 else a2).bind f) := by
  subst hn
  subst hp
  intro r σ' ho G base b L xs l p e R s m args below meth c H locs cells slots ls Q hC hf hlo hc hs hL hW hz hS kret
  refine W.lcmp hC.1 hC.2.1 hd (lv_if_ge hC.1 hC.2.1 hd1 ht (fun hcd => ?_) (fun hcd => ?_))
  · have hq : y ≤ x := (xm_cmp_ge x y).mp hcd
    exact k1 hq r σ' (by rw [if_pos hq] at ho; exact ho) G base b L xs l p e R s m args below meth c H locs cells slots ls Q hC hf hlo hc hs hL hW hz hS kret
  · have hq : ¬ (y ≤ x) := fun z => hcd ((xm_cmp_ge x y).mpr z)
    exact k2 hq r σ' (by rw [if_neg hq] at ho; exact ho) G base b L xs l p e R s m args below meth c H locs cells slots ls Q hC hf hlo hc hs hL hW hz hS kret
theorem xs_lif_lt {β : Type} {x y : Int64} {pc1 : Nat} {off : Int} {tgt : Nat} {a1 a2 : Option β} {f : β → Option (α × S)} (hd : decode M.2.1 pc = .ok (.lcmp, 1)) (hp : pc + 1 = pc1) (hd1 : decode M.2.1 pc1 = .ok (.ifCond .lt off, 3)) (ht : (pc1 : Int) + off = (tgt : Int)) (hn : pc1 + 3 = n) (k1 : x < y → xs_ em sg M tgt lv st σ bc bs (a1.bind f)) (k2 : ¬ (x < y) → xs_ em sg M n lv st σ bc bs (a2.bind f)) : xs_ em sg M pc lv (.long y :: .long x :: st) σ bc bs ((if x < y then a1 else a2).bind f) := by
  subst hn
  subst hp
  intro r σ' ho G base b L xs l p e R s m args below meth c H locs cells slots ls Q hC hf hlo hc hs hL hW hz hS kret
  refine W.lcmp hC.1 hC.2.1 hd (lv_if_lt hC.1 hC.2.1 hd1 ht (fun hcd => ?_) (fun hcd => ?_))
  · have hq : x < y := (xm_cmp_lt x y).mp hcd
    exact k1 hq r σ' (by rw [if_pos hq] at ho; exact ho) G base b L xs l p e R s m args below meth c H locs cells slots ls Q hC hf hlo hc hs hL hW hz hS kret
  · have hq : ¬ (x < y) := fun z => hcd ((xm_cmp_lt x y).mpr z)
    exact k2 hq r σ' (by rw [if_neg hq] at ho; exact ho) G base b L xs l p e R s m args below meth c H locs cells slots ls Q hC hf hlo hc hs hL hW hz hS kret
theorem xs_lif_gt {β : Type} {x y : Int64} {pc1 : Nat} {off : Int} {tgt : Nat} {a1 a2 : Option β} {f : β → Option (α × S)} (hd : decode M.2.1 pc = .ok (.lcmp, 1)) (hp : pc + 1 = pc1) (hd1 : decode M.2.1 pc1 = .ok (.ifCond .gt off, 3)) (ht : (pc1 : Int) + off = (tgt : Int)) (hn : pc1 + 3 = n) (k1 : y < x → xs_ em sg M tgt lv st σ bc bs (a1.bind f)) (k2 : ¬ (y < x) → xs_ em sg M n lv st σ bc bs (a2.bind f)) : xs_ em sg M pc lv (.long y :: .long x :: st) σ bc bs ((if y < x then a1 else a2).bind f) := by
  subst hn
  subst hp
  intro r σ' ho G base b L xs l p e R s m args below meth c H locs cells slots ls Q hC hf hlo hc hs hL hW hz hS kret
  refine W.lcmp hC.1 hC.2.1 hd (lv_if_gt hC.1 hC.2.1 hd1 ht (fun hcd => ?_) (fun hcd => ?_))
  · have hq : y < x := (xm_cmp_gt x y).mp hcd
    exact k1 hq r σ' (by rw [if_pos hq] at ho; exact ho) G base b L xs l p e R s m args below meth c H locs cells slots ls Q hC hf hlo hc hs hL hW hz hS kret
  · have hq : ¬ (y < x) := fun z => hcd ((xm_cmp_gt x y).mpr z)
    exact k2 hq r σ' (by rw [if_neg hq] at ho; exact ho) G base b L xs l p e R s m args below meth c H locs cells slots ls Q hC hf hlo hc hs hL hW hz hS kret
theorem xs_lif_le {β : Type} {x y : Int64} {pc1 : Nat} {off : Int} {tgt : Nat} {a1 a2 : Option β} {f : β → Option (α × S)} (hd : decode M.2.1 pc = .ok (.lcmp, 1)) (hp : pc + 1 = pc1) (hd1 : decode M.2.1 pc1 = .ok (.ifCond .le off, 3)) (ht : (pc1 : Int) + off = (tgt : Int)) (hn : pc1 + 3 = n) (k1 : x ≤ y → xs_ em sg M tgt lv st σ bc bs (a1.bind f)) (k2 : ¬ (x ≤ y) → xs_ em sg M n lv st σ bc bs (a2.bind f)) : xs_ em sg M pc lv (.long y :: .long x :: st) σ bc bs ((if x ≤ y then a1 else a2).bind f) := by
  subst hn
  subst hp
  intro r σ' ho G base b L xs l p e R s m args below meth c H locs cells slots ls Q hC hf hlo hc hs hL hW hz hS kret
  refine W.lcmp hC.1 hC.2.1 hd (lv_if_le hC.1 hC.2.1 hd1 ht (fun hcd => ?_) (fun hcd => ?_))
  · have hq : x ≤ y := (xm_cmp_le x y).mp hcd
    exact k1 hq r σ' (by rw [if_pos hq] at ho; exact ho) G base b L xs l p e R s m args below meth c H locs cells slots ls Q hC hf hlo hc hs hL hW hz hS kret
  · have hq : ¬ (x ≤ y) := fun z => hcd ((xm_cmp_le x y).mpr z)
    exact k2 hq r σ' (by rw [if_neg hq] at ho; exact ho) G base b L xs l p e R s m args below meth c H locs cells slots ls Q hC hf hlo hc hs hL hW hz hS kret
theorem xs_lif_eq {β : Type} {x y : Int64} {pc1 : Nat} {off : Int} {tgt : Nat} {a1 a2 : Option β} {f : β → Option (α × S)} (hd : decode M.2.1 pc = .ok (.lcmp, 1)) (hp : pc + 1 = pc1) (hd1 : decode M.2.1 pc1 = .ok (.ifCond .eq off, 3)) (ht : (pc1 : Int) + off = (tgt : Int)) (hn : pc1 + 3 = n) (k1 : x = y → xs_ em sg M tgt lv st σ bc bs (a1.bind f)) (k2 : ¬ (x = y) → xs_ em sg M n lv st σ bc bs (a2.bind f)) : xs_ em sg M pc lv (.long y :: .long x :: st) σ bc bs ((if x = y then a1 else a2).bind f) := by
  subst hn
  subst hp
  intro r σ' ho G base b L xs l p e R s m args below meth c H locs cells slots ls Q hC hf hlo hc hs hL hW hz hS kret
  refine W.lcmp hC.1 hC.2.1 hd (lv_if_eq hC.1 hC.2.1 hd1 ht (fun hcd => ?_) (fun hcd => ?_))
  · have hq : x = y := (xm_cmp_eq x y).mp hcd
    exact k1 hq r σ' (by rw [if_pos hq] at ho; exact ho) G base b L xs l p e R s m args below meth c H locs cells slots ls Q hC hf hlo hc hs hL hW hz hS kret
  · have hq : ¬ (x = y) := fun z => hcd ((xm_cmp_eq x y).mpr z)
    exact k2 hq r σ' (by rw [if_neg hq] at ho; exact ho) G base b L xs l p e R s m args below meth c H locs cells slots ls Q hC hf hlo hc hs hL hW hz hS kret
theorem xs_lif_ne {β : Type} {x y : Int64} {pc1 : Nat} {off : Int} {tgt : Nat} {a1 a2 : Option β} {f : β → Option (α × S)} (hd : decode M.2.1 pc = .ok (.lcmp, 1)) (hp : pc + 1 = pc1) (hd1 : decode M.2.1 pc1 = .ok (.ifCond .ne off, 3)) (ht : (pc1 : Int) + off = (tgt : Int)) (hn : pc1 + 3 = n) (k1 : x = y → xs_ em sg M n lv st σ bc bs (a1.bind f)) (k2 : ¬ (x = y) → xs_ em sg M tgt lv st σ bc bs (a2.bind f)) : xs_ em sg M pc lv (.long y :: .long x :: st) σ bc bs ((if x = y then a1 else a2).bind f) := by
  subst hn
  subst hp
  intro r σ' ho G base b L xs l p e R s m args below meth c H locs cells slots ls Q hC hf hlo hc hs hL hW hz hS kret
  refine W.lcmp hC.1 hC.2.1 hd (lv_if_ne hC.1 hC.2.1 hd1 ht (fun hcd => ?_) (fun hcd => ?_))
  · have hq : ¬ (x = y) := fun z => hcd ((xm_cmp_eq x y).mpr z)
    exact k2 hq r σ' (by rw [if_neg hq] at ho; exact ho) G base b L xs l p e R s m args below meth c H locs cells slots ls Q hC hf hlo hc hs hL hW hz hS kret
  · have hq : x = y := (xm_cmp_eq x y).mp hcd
    exact k1 hq r σ' (by rw [if_pos hq] at ho; exact ho) G base b L xs l p e R s m args below meth c H locs cells slots ls Q hC hf hlo hc hs hL hW hz hS kret
theorem xs_none {β : Type} {f : β → Option (α × S)} : xs_ em sg M pc lv st σ bc bs ((none : Option β).bind f) := by
  intro r σ' ho
  cases ho
theorem xs_top (k : xs_ em sg M pc lv st σ bc bs (o.bind some)) : xs_ em sg M pc lv st σ bc bs o := by
  cases o <;> exact k
theorem xs_reg {β γ : Type} {B : Option β} {g : β → Option γ} {f : γ → Option (α × S)} (k : xs_ em sg M pc lv st σ bc bs (B.bind (fun v => (g v).bind f))) : xs_ em sg M pc lv st σ bc bs ((B.bind g).bind f) := by
  rwa [Option.bind_assoc]
theorem xs_end {β : Type} {v : β} {f : β → Option (α × S)} (k : xs_ em sg M pc lv st σ bc bs (f v)) : xs_ em sg M pc lv st σ bc bs ((some v).bind f) := k
theorem xs_leti {β : Type} {e : Int32} {g : Int32 → Option β} {f : β → Option (α × S)} (k : ∀ v : Int32, xs_ em sg M pc lv (.int v :: st) σ bc bs ((g v).bind f)) : xs_ em sg M pc lv (.int e :: st) σ bc bs ((xm_let e g).bind f) := k e
theorem xs_letl {β : Type} {e : Int64} {g : Int64 → Option β} {f : β → Option (α × S)} (k : ∀ v : Int64, xs_ em sg M pc lv (.long v :: st) σ bc bs ((g v).bind f)) : xs_ em sg M pc lv (.long e :: st) σ bc bs ((xm_let e g).bind f) := k e
theorem xs_lets {β : Type} {e : S} {g : S → Option β} {f : β → Option (α × S)} (k : ∀ v : S, xs_ em sg M pc lv st v bc bs ((g v).bind f)) : xs_ em sg M pc lv st e bc bs ((xm_let e g).bind f) := k e
/-- returns -/
theorem xs_iret {S : Type} {sg : S → xm_S} {σ : S} {x : Int32} {β : Type} {v : β} {f : β → Option (Int32 × S)} (hd : decode M.2.1 pc = .ok (.ireturn, 1)) (hr : M.2.2.2.1 = some .int) (hf : f v = some (x, σ)) : xs_ (fun x : Int32 => some (.int x)) sg M pc lv [.int x] σ bc bs ((some v).bind f) := by
  intro r σ' ho G base b L xs l p e R s m args below meth c H locs cells slots ls Q hC hfr hlo hc hs hL hW hz hS kret
  have ho2 : f v = some (r, σ') := ho
  rw [hf] at ho2
  cases ho2
  exact kret H locs cells slots pc ls (Nat.le_add_right _ _) (Nat.le_add_right _ _) hW hS ⟨hd, Or.inl hr⟩
theorem xs_zret {S : Type} {sg : S → xm_S} {σ : S} {x : Int32} {β : Type} {v : β} {f : β → Option (Int32 × S)} (hd : decode M.2.1 pc = .ok (.ireturn, 1)) (hr : M.2.2.2.1 = some .boolean) (hf : f v = some (x, σ)) : xs_ (fun x : Int32 => some (.int x)) sg M pc lv [.int x] σ bc bs ((xm_chk (x = 0 ∨ x = 1) (some v)).bind f) := by
  intro r σ' ho G base b L xs l p e R s m args below meth c H locs cells slots ls Q hC hfr hlo hc hs hL hW hz hS kret
  by_cases hch : x = 0 ∨ x = 1
  · rw [xm_chk, if_pos hch] at ho
    have ho2 : f v = some (r, σ') := ho
    rw [hf] at ho2
    cases ho2
    exact kret H locs cells slots pc ls (Nat.le_add_right _ _) (Nat.le_add_right _ _) hW hS ⟨hd, Or.inr ⟨hr, hch⟩⟩
  · rw [xm_chk, if_neg hch] at ho
    cases ho
theorem xs_lret {S : Type} {sg : S → xm_S} {σ : S} {x : Int64} {β : Type} {v : β} {f : β → Option (Int64 × S)} (hd : decode M.2.1 pc = .ok (.lreturn, 1)) (hr : M.2.2.2.1 = some .long) (hf : f v = some (x, σ)) : xs_ (fun x : Int64 => some (.long x)) sg M pc lv [.long x] σ bc bs ((some v).bind f) := by
  intro r σ' ho G base b L xs l p e R s m args below meth c H locs cells slots ls Q hC hfr hlo hc hs hL hW hz hS kret
  have ho2 : f v = some (r, σ') := ho
  rw [hf] at ho2
  cases ho2
  exact kret H locs cells slots pc ls (Nat.le_add_right _ _) (Nat.le_add_right _ _) hW hS ⟨hd, hr⟩
theorem xs_vret {S : Type} {sg : S → xm_S} {σ : S} {β : Type} {v : β} {f : β → Option (Unit × S)} (hd : decode M.2.1 pc = .ok (.return_, 1)) (hr : M.2.2.2.1 = none) (hf : f v = some ((), σ)) : xs_ (fun _ : Unit => none) sg M pc lv [] σ bc bs ((some v).bind f) := by
  intro r σ' ho G base b L xs l p e R s m args below meth c H locs cells slots ls Q hC hfr hlo hc hs hL hW hz hS kret
  have ho2 : f v = some (r, σ') := ho
  rw [hf] at ho2
  cases ho2
  exact kret H locs cells slots pc ls (Nat.le_add_right _ _) (Nat.le_add_right _ _) hW hS ⟨hd, hr⟩
end XR_
end
section
def xm_u2 {α : Type} (f : Nat → Nat → α) (k j : Nat) (v : α) : Nat → Nat → α := fun a b => if a = k then (if b = j then v else f a b) else f a b
def xm_u1 {α : Type} (f : Nat → α) (k : Nat) (v : α) : Nat → α := fun a => if a = k then v else f a
theorem xm_u2_ne {α : Type} {f : Nat → Nat → α} {k j : Nat} {v : α} {a : Nat} (h : a ≠ k) : xm_u2 f k j v a = f a := by
  funext b
  simp [xm_u2, h]
theorem xm_u1_ne {α : Type} {f : Nat → α} {k : Nat} {v : α} {a : Nat} (h : a ≠ k) : xm_u1 f k v a = f a := by
  simp [xm_u1, h]
theorem xm_u1_eq {α : Type} {f : Nat → α} {k : Nat} {v : α} : xm_u1 f k v k = v := by
  simp [xm_u1]
theorem xm_u2_i {f : Nat → Nat → Int32} {k j : Nat} {v : Int32} : xm_u2 f k j v k = upd (f k) j v := by
  funext b
  simp [xm_u2, upd]
theorem xm_u2_l {f : Nat → Nat → Int64} {k j : Nat} {v : Int64} : xm_u2 f k j v k = vp_updL (f k) j v := by
  funext b
  simp [xm_u2, vp_updL]
theorem xm_ent_congr {G : xm_G} {base : Nat} {σ σ' : xm_S} {k : Nat} (h1 : σ'.2.1 k = σ.2.1 k) (h2 : σ'.2.2.1 k = σ.2.2.1 k) (h3 : σ'.2.2.2.1 k = σ.2.2.2.1 k) (h4 : σ'.2.2.2.2 k = σ.2.2.2.2 k) : xm_ent G base σ' k = xm_ent G base σ k := by
  unfold xm_ent xm_val
  rw [h1, h2, h3, h4]
section XA_
variable {G : xm_G} {base : Nat} {σ : xm_S} {k n : Nat}
theorem xm_at13 (h : xm_is σ k 13 n) : (xm_ws G base σ)[k]? = some (base + k, .inl (G.2.1, n, .inl (σ.2.2.2.1 k))) := by
  rw [xm_ws_at h.1, xm_ent, h.2]; rfl
theorem xm_at14 (h : xm_is σ k 14 n) : (xm_ws G base σ)[k]? = some (base + k, .inl (G.2.2.1, n, .inr (.inl (σ.2.2.2.2 k)))) := by
  rw [xm_ws_at h.1, xm_ent, h.2]; rfl
theorem xm_at15 (h : xm_is σ k 15 n) : (xm_ws G base σ)[k]? = some (base + k, .inl (G.2.2.2.1, n, .inl (σ.2.2.2.1 k))) := by
  rw [xm_ws_at h.1, xm_ent, h.2]; rfl
theorem xm_at16 (h : xm_is σ k 16 n) : (xm_ws G base σ)[k]? = some (base + k, .inl (G.2.2.2.2.1, n, .inr (.inr (.inr (.inr (fun j => (σ.2.2.1 k j).map (fun a => base + a))))))) := by
  rw [xm_ws_at h.1, xm_ent, h.2]; rfl
theorem xm_at17 (h : xm_is σ k 17 n) : (xm_ws G base σ)[k]? = some (base + k, .inl (G.2.2.2.2.2, n, .inr (.inr (.inr (.inr (fun j => (σ.2.2.1 k j).map (fun a => base + a))))))) := by
  rw [xm_ws_at h.1, xm_ent, h.2]; rfl
theorem xm_ent_ob {ci : Nat} (hc : ci < 13) (h : σ.2.1 k = (ci, n)) : xm_ent G base σ k = .inr (ci, (xm_ft ci).mapIdx (fun j t => xm_val base σ k j t)) := by
  unfold xm_ent
  rw [h]
  dsimp only
  rw [if_neg (by omega), if_neg (by omega), if_neg (by omega), if_neg (by omega), if_neg (by omega)]
theorem xm_atob {ci : Nat} (hc : ci < 13) (h : xm_is σ k ci n) : (xm_ws G base σ)[k]? = some (base + k, .inr (ci, (xm_ft ci).mapIdx (fun j t => xm_val base σ k j t))) := by
  rw [xm_ws_at h.1, xm_ent_ob hc h.2]
end XA_
/-- a class's rows -/
def xm_cl (ci : Nat) (C : String) (T : u_T) (N : Nat) (ty : Nat → FieldType) : Prop := vwCl[ci]? = some (C, T, N) ∧ (∀ w ∈ u_ws C T N, w ∈ xm_tb) ∧ ci < 13 ∧ (∀ k, k < N → parseFieldDescriptor (T k).2.2.1 = some (ty k)) ∧ (∀ a, a < N → ∀ b, b < N → a ≠ b → (T a).2.1 ≠ (T b).2.1) ∧ (xm_ft ci).length = N
theorem xc_0 : xm_cl 0 RX0 TX0 2 tyX0 := ⟨rfl, ix_X0, by decide, tyX0_ok, nmX0, rfl⟩
theorem xc_1 : xm_cl 1 RX1 TX1 5 tyX1 := ⟨rfl, ix_X1, by decide, tyX1_ok, nmX1, rfl⟩
theorem xc_2 : xm_cl 2 RX2 TX2 1 tyX2 := ⟨rfl, ix_X2, by decide, tyX2_ok, nmX2, rfl⟩
theorem xc_3 : xm_cl 3 RX3 TX3 8 tyX3 := ⟨rfl, ix_X3, by decide, tyX3_ok, nmX3, rfl⟩
theorem xc_4 : xm_cl 4 RX4 TX4 3 tyX4 := ⟨rfl, ix_X4, by decide, tyX4_ok, nmX4, rfl⟩
theorem xc_5 : xm_cl 5 RX5 TX5 7 tyX5 := ⟨rfl, ix_X5, by decide, tyX5_ok, nmX5, rfl⟩
theorem xc_6 : xm_cl 6 RX6 TX6 4 tyX6 := ⟨rfl, ix_X6, by decide, tyX6_ok, nmX6, rfl⟩
theorem xc_7 : xm_cl 7 RX7 TX7 3 tyX7 := ⟨rfl, ix_X7, by decide, tyX7_ok, nmX7, rfl⟩
theorem xc_8 : xm_cl 8 RX8 TX8 2 tyX8 := ⟨rfl, ix_X8, by decide, tyX8_ok, nmX8, rfl⟩
theorem xc_9 : xm_cl 9 RX9 TX9 4 tyX9 := ⟨rfl, ix_X9, by decide, tyX9_ok, nmX9, rfl⟩
theorem xc_10 : xm_cl 10 RX10 TX10 6 tyX10 := ⟨rfl, ix_X10, by decide, tyX10_ok, nmX10, rfl⟩
theorem xc_11 : xm_cl 11 RX11 TX11 10 tyX11 := ⟨rfl, ix_X11, by decide, tyX11_ok, nmX11, rfl⟩
theorem xc_12 : xm_cl 12 RX12 TX12 50 tyX12 := ⟨rfl, ix_X12, by decide, tyX12_ok, nmX12, rfl⟩
def xm_tk (t : FieldType) : Nat := match t with
  | .int => 0
  | .long => 1
  | .boolean => 3
  | .object _ => 2
  | .array _ => 2
  | _ => 9
/-- a field's link: own class and entry, class number, slot and its kind -/
def xm_fl (own : String) (idx ci j t : Nat) (C : String) (T : u_T) (N : Nat) (ty : Nat → FieldType) : Prop := xm_cl ci C T N ty ∧ j < N ∧ Cond.fieldLink own idx (T j).1 (T j).2.1 (T j).2.2.1 ∈ xm_tb ∧ (xm_ft ci)[j]? = some t ∧ xm_tk (ty j) = t
theorem xm_fs_at {base : Nat} {σ : xm_S} {k ci j t : Nat} (h : (xm_ft ci)[j]? = some t) : ((xm_ft ci).mapIdx (fun j t => xm_val base σ k j t))[j]? = some (xm_val base σ k j t) := by
  rw [List.getElem?_mapIdx, h]; rfl
theorem xm_fs_set {base : Nat} {σ σ' : xm_S} {k ci j t : Nat} {v : Value} (h : (xm_ft ci)[j]? = some t) (hv : xm_val base σ' k j t = v) (hne : ∀ j' t', j' ≠ j → xm_val base σ' k j' t' = xm_val base σ k j' t') : ((xm_ft ci).mapIdx (fun j t => xm_val base σ k j t)).set j v = (xm_ft ci).mapIdx (fun j t => xm_val base σ' k j t) := by
  apply List.ext_getElem?
  intro i
  rw [List.getElem?_set, List.getElem?_mapIdx, List.getElem?_mapIdx]
  by_cases hi : j = i
  · subst hi
    have hl : j < (xm_ft ci).length := (List.getElem?_eq_some_iff.mp h).1
    rw [if_pos rfl, if_pos (by simpa using hl), h]
    simp [hv]
  · rw [if_neg hi]
    cases (xm_ft ci)[i]? with
    | none => rfl
    | some t' => simp [hne i t' (fun q => hi q.symm)]
section XR_
variable {α S : Type} {em : α → Option Value} {sg : S → xm_S} {M : xm_M} {pc n : Nat} {lv : List (Option Value)} {st : List Value} {σ : S} {bc bs : Nat} {o : Option (α × S)}
theorem xs_ldc {idx : Nat} {v : Int32} (hd : decode M.2.1 pc = .ok (.ldc idx, 2)) (hn : pc + 2 = n) (hw : Cond.constant M.1.cls idx v ∈ xm_tb) (k : xs_ em sg M n lv (.int v :: st) σ bc bs o) : xs_ em sg M pc lv st σ bc bs o := by
  subst hn
  intro r σ' ho G base b L xs l p e R s m args below meth c H locs cells slots ls Q hC hf hlo hc hs hL hW hz hS kret
  exact lv_ldc hC.1 hC.2.1 hC.2.2.2.2.1 (hC.2.2.2.2.2.1 _ hw) hd (k r σ' ho G base b L xs l p e R s m args below meth c H locs cells slots ls Q hC hf hlo hc hs hL hW hz hS kret)
theorem xs_ldc_w {idx : Nat} {v : Int32} (hd : decode M.2.1 pc = .ok (.ldc_w idx, 3)) (hn : pc + 3 = n) (hw : Cond.constant M.1.cls idx v ∈ xm_tb) (k : xs_ em sg M n lv (.int v :: st) σ bc bs o) : xs_ em sg M pc lv st σ bc bs o := by
  subst hn
  intro r σ' ho G base b L xs l p e R s m args below meth c H locs cells slots ls Q hC hf hlo hc hs hL hW hz hS kret
  exact lv_ldcw hC.1 hC.2.1 hC.2.2.2.2.1 (hC.2.2.2.2.2.1 _ hw) hd (k r σ' ho G base b L xs l p e R s m args below meth c H locs cells slots ls Q hC hf hlo hc hs hL hW hz hS kret)
theorem xs_ldc2 {idx : Nat} {v : Int64} (hd : decode M.2.1 pc = .ok (.ldc2_w idx, 3)) (hn : pc + 3 = n) (hw : Cond.constantLong M.1.cls idx v ∈ xm_tb) (k : xs_ em sg M n lv (.long v :: st) σ bc bs o) : xs_ em sg M pc lv st σ bc bs o := by
  subst hn
  intro r σ' ho G base b L xs l p e R s m args below meth c H locs cells slots ls Q hC hf hlo hc hs hL hW hz hS kret
  exact lv_ldc2 hC.1 hC.2.1 hC.2.2.2.2.1 (hC.2.2.2.2.2.1 _ hw) hd (k r σ' ho G base b L xs l p e R s m args below meth c H locs cells slots ls Q hC hf hlo hc hs hL hW hz hS kret)
theorem xs_getv {idx ci j t kk nn : Nat} {C : String} {T : u_T} {N : Nat} {ty : Nat → FieldType} {w : Value} (hd : decode M.2.1 pc = .ok (.getfield idx, 3)) (hn : pc + 3 = n) (hl : xm_fl M.1.cls idx ci j t C T N ty) (hk : xm_is (sg σ) kk ci nn) (hv : ∀ base b : Nat, xm_val base (sg σ) kk j t = xm_r base b w) (k : xs_ em sg M n lv (w :: st) σ bc bs o) : xs_ em sg M pc lv (.ref kk :: st) σ bc bs o := by
  subst hn
  intro r σ' ho G base b L xs l p e R s m args below meth c H locs cells slots ls Q hC hf hlo hc hs hL hW hz hS kret
  obtain ⟨⟨h1, h2, h3, h4, h5, h6⟩, h7, h8, h9, h10⟩ := hl
  exact va_get (ref := (T j).1) hC.1 hC.2.1 hC.2.2.2.2.2.1 h2 hC.2.2.2.2.1 hC.2.2.2.2.2.2.2.2.1 hW kk (xm_atob h3 hk) h1 j h7 (hC.2.2.2.2.2.1 _ h8) (fun _ q => q) ((xm_fs_at h9).trans (congrArg some (hv base b))) hd (k r σ' ho G base b L xs l p e R s m args below meth c H locs cells slots ls Q hC hf hlo hc hs hL hW hz hS kret)
theorem xs_geti {idx ci j t kk nn : Nat} {C : String} {T : u_T} {N : Nat} {ty : Nat → FieldType} (hd : decode M.2.1 pc = .ok (.getfield idx, 3)) (hn : pc + 3 = n) (hl : xm_fl M.1.cls idx ci j t C T N ty) (ht : t = 0 ∨ t = 3) (hk : xm_is (sg σ) kk ci nn) (k : xs_ em sg M n lv (.int ((sg σ).2.2.2.1 kk j) :: st) σ bc bs o) : xs_ em sg M pc lv (.ref kk :: st) σ bc bs o :=
  xs_getv hd hn hl hk (fun base b => by rcases ht with rfl | rfl <;> rfl) k
theorem xs_getl {idx ci j kk nn : Nat} {C : String} {T : u_T} {N : Nat} {ty : Nat → FieldType} (hd : decode M.2.1 pc = .ok (.getfield idx, 3)) (hn : pc + 3 = n) (hl : xm_fl M.1.cls idx ci j 1 C T N ty) (hk : xm_is (sg σ) kk ci nn) (k : xs_ em sg M n lv (.long ((sg σ).2.2.2.2 kk j) :: st) σ bc bs o) : xs_ em sg M pc lv (.ref kk :: st) σ bc bs o :=
  xs_getv hd hn hl hk (fun base b => rfl) k
theorem xs_getr {idx ci j kk nn a : Nat} {C : String} {T : u_T} {N : Nat} {ty : Nat → FieldType} (hd : decode M.2.1 pc = .ok (.getfield idx, 3)) (hn : pc + 3 = n) (hl : xm_fl M.1.cls idx ci j 2 C T N ty) (hk : xm_is (sg σ) kk ci nn) (hr : (sg σ).2.2.1 kk j = some a) (k : xs_ em sg M n lv (.ref a :: st) σ bc bs o) : xs_ em sg M pc lv (.ref kk :: st) σ bc bs o :=
  xs_getv hd hn hl hk (fun base b => by unfold xm_val; rw [hr]; rfl) k
theorem xs_putv {idx ci j t kk nn : Nat} {C : String} {T : u_T} {N : Nat} {ty : Nat → FieldType} {w : Value} {σ1 : S} (hd : decode M.2.1 pc = .ok (.putfield idx, 3)) (hn : pc + 3 = n) (hl : xm_fl M.1.cls idx ci j t C T N ty) (hfin : (T j).2.2.2 = false ∨ ((T j).2.2.2 = true ∧ M.1.name = "<init>" ∧ (T j).1 = M.1.cls)) (hk : xm_is (sg σ) kk ci nn) (hnar : ∀ base b : Nat, narrow (ty j) (xm_r base b w) = xm_r base b w) (hfit : ∀ base b : Nat, fits (ty j) (xm_r base b w) = true)
    (hK : (sg σ1).1 = (sg σ).1) (hsh : (sg σ1).2.1 = (sg σ).2.1) (hv : ∀ base b : Nat, xm_val base (sg σ1) kk j t = xm_r base b w) (hoth : ∀ (base j' t' : Nat), j' ≠ j → xm_val base (sg σ1) kk j' t' = xm_val base (sg σ) kk j' t') (hcell : ∀ k', k' ≠ kk → (sg σ1).2.2.1 k' = (sg σ).2.2.1 k' ∧ (sg σ1).2.2.2.1 k' = (sg σ).2.2.2.1 k' ∧ (sg σ1).2.2.2.2 k' = (sg σ).2.2.2.2 k')
    (k : xs_ em sg M n lv st σ1 bc bs o) : xs_ em sg M pc lv (w :: .ref kk :: st) σ bc bs o := by
  subst hn
  intro r σ' ho G base b L xs l p e R s m args below meth c H locs cells slots ls Q hC hf hlo hc hs hL hW hz hS kret
  obtain ⟨⟨h1, h2, h3, h4, h5, h6⟩, h7, h8, h9, h10⟩ := hl
  have hset : (xm_ws G base (sg σ)).set kk (base + kk, .inr (ci, ((xm_ft ci).mapIdx (fun j t => xm_val base (sg σ) kk j t)).set j (xm_r base b w))) = xm_ws G base (sg σ1) := by
    refine xm_set hK hk.1 ?_ (fun k' hk' => xm_ent_congr (by rw [hsh]) (hcell k' hk').1 (hcell k' hk').2.1 (hcell k' hk').2.2)
    rw [xm_ent_ob h3 (by rw [hsh]; exact hk.2), xm_fs_set h9 (hv base b) (fun j' t' => hoth base j' t')]
  have cont : ∀ (H1 : Heap) (locs1 : List Loc), va_P G.1 vwCl ((xm_ws G base (sg σ)).set kk (base + kk, .inr (ci, ((xm_ft ci).mapIdx (fun j t => xm_val base (sg σ) kk j t)).set j (xm_r base b w)))) H1 → va_D (fun q => base ≤ q) ((xm_ws G base (sg σ)).set kk (base + kk, .inr (ci, ((xm_ft ci).mapIdx (fun j t => xm_val base (sg σ) kk j t)).set j (xm_r base b w)))) → va_S (fun q => base ≤ q) s.heap H1 locs1 → W p l e R s m args below meth c H1 locs1 cells slots Q (F0 m (pc + 3) ls (st.map (xm_r base b))) := by
    intro H1 locs1 hP1 _ hS1
    rw [hset] at hP1
    exact k r σ' ho G base b L xs l p e R s m args below meth c H1 locs1 cells slots ls Q hC hf hlo hc hs hL hP1 (by rw [hz, hK]) hS1 kret
  have hjl : j < ((xm_ft ci).mapIdx (fun j t => xm_val base (sg σ) kk j t)).length := by
    rw [List.length_mapIdx]
    exact (List.getElem?_eq_some_iff.mp h9).1
  rcases hfin with hfin | ⟨hfin, hnm, hdc⟩
  · exact va_put (ref := (T j).1) hC.1 hC.2.1 hC.2.2.2.2.2.1 h2 ty h4 h5 hC.2.2.2.2.1 hC.2.2.2.2.2.2.2.2.1 hW xm_D hS kk (xm_atob h3 hk) h1 j h7 (hC.2.2.2.2.2.1 _ h8) (fun _ q => q) hfin (h4 j h7) (hnar base b) (hfit base b) hjl hd cont
  · exact va_putF (ref := (T j).1) hC.1 hC.2.1 hC.2.2.2.2.2.1 h2 ty h4 h5 hC.2.2.2.2.1 hC.2.2.2.2.2.2.2.2.1 hW xm_D hS kk (xm_atob h3 hk) h1 j h7 (hC.2.2.2.2.2.1 _ h8) (fun _ q => q) hfin (hC.2.2.2.2.2.2.2.1.trans hnm) hdc (h4 j h7) (hnar base b) (hfit base b) hjl hd cont
theorem xm_val_u2i {base : Nat} {σ σ1 : xm_S} {kk j : Nat} {v : Int32} (h : σ1 = (σ.1, σ.2.1, σ.2.2.1, xm_u2 σ.2.2.2.1 kk j v, σ.2.2.2.2)) (j' t' : Nat) (hj : j' ≠ j) : xm_val base σ1 kk j' t' = xm_val base σ kk j' t' := by
  subst h
  simp [xm_val, xm_u2, hj]
theorem xm_val_u2l {base : Nat} {σ σ1 : xm_S} {kk j : Nat} {v : Int64} (h : σ1 = (σ.1, σ.2.1, σ.2.2.1, σ.2.2.2.1, xm_u2 σ.2.2.2.2 kk j v)) (j' t' : Nat) (hj : j' ≠ j) : xm_val base σ1 kk j' t' = xm_val base σ kk j' t' := by
  subst h
  simp [xm_val, xm_u2, hj]
theorem xm_val_u2r {base : Nat} {σ σ1 : xm_S} {kk j : Nat} {v : Option Nat} (h : σ1 = (σ.1, σ.2.1, xm_u2 σ.2.2.1 kk j v, σ.2.2.2.1, σ.2.2.2.2)) (j' t' : Nat) (hj : j' ≠ j) : xm_val base σ1 kk j' t' = xm_val base σ kk j' t' := by
  subst h
  simp [xm_val, xm_u2, hj]
theorem xs_puti {idx ci j kk nn : Nat} {C : String} {T : u_T} {N : Nat} {ty : Nat → FieldType} {v : Int32} {σ1 : S} (hd : decode M.2.1 pc = .ok (.putfield idx, 3)) (hn : pc + 3 = n) (hl : xm_fl M.1.cls idx ci j 0 C T N ty) (hfin : (T j).2.2.2 = false) (hk : xm_is (sg σ) kk ci nn) (h1 : sg σ1 = ((sg σ).1, (sg σ).2.1, (sg σ).2.2.1, xm_u2 (sg σ).2.2.2.1 kk j v, (sg σ).2.2.2.2))
    (k : xs_ em sg M n lv st σ1 bc bs o) : xs_ em sg M pc lv (.int v :: .ref kk :: st) σ bc bs o := by
  have hty : ty j = .int := by
    have := hl.2.2.2.2
    cases hq : ty j <;> rw [hq] at this <;> simp [xm_tk] at this
  refine xs_putv hd hn hl (Or.inl hfin) hk (fun _ _ => by rw [hty]; rfl) (fun _ _ => by rw [hty]; rfl) (by rw [h1]) (by rw [h1]) (fun base b => ?_) (fun base j' t' hj => xm_val_u2i h1 j' t' hj) (fun k' hk' => ?_) k
  · rw [h1]; simp [xm_val, xm_u2, xm_r]
  · rw [h1]; exact ⟨rfl, xm_u2_ne hk', rfl⟩
theorem xs_putz {β : Type} {idx ci j kk nn : Nat} {C : String} {T : u_T} {N : Nat} {ty : Nat → FieldType} {v : Int32} {σ1 : S} {a : Option β} {f : β → Option (α × S)} (hd : decode M.2.1 pc = .ok (.putfield idx, 3)) (hn : pc + 3 = n) (hl : xm_fl M.1.cls idx ci j 3 C T N ty) (hfin : (T j).2.2.2 = false) (hk : xm_is (sg σ) kk ci nn) (h1 : sg σ1 = ((sg σ).1, (sg σ).2.1, (sg σ).2.2.1, xm_u2 (sg σ).2.2.2.1 kk j v, (sg σ).2.2.2.2))
    (k : xs_ em sg M n lv st σ1 bc bs (a.bind f)) : xs_ em sg M pc lv (.int v :: .ref kk :: st) σ bc bs ((xm_chk (v = 0 ∨ v = 1) a).bind f) := by
  have hty : ty j = .boolean := by
    have := hl.2.2.2.2
    cases hq : ty j <;> rw [hq] at this <;> simp [xm_tk] at this
  by_cases hch : v = 0 ∨ v = 1
  · rw [xm_chk, if_pos hch]
    refine xs_putv hd hn hl (Or.inl hfin) hk (fun _ _ => by rw [hty]; rcases hch with rfl | rfl <;> rfl) (fun _ _ => by rw [hty]; rcases hch with rfl | rfl <;> rfl) (by rw [h1]) (by rw [h1]) (fun base b => ?_) (fun base j' t' hj => xm_val_u2i h1 j' t' hj) (fun k' hk' => ?_) k
    · rw [h1]; simp [xm_val, xm_u2, xm_r]
    · rw [h1]; exact ⟨rfl, xm_u2_ne hk', rfl⟩
  · rw [xm_chk, if_neg hch]
    exact xs_none
theorem xs_putl {idx ci j kk nn : Nat} {C : String} {T : u_T} {N : Nat} {ty : Nat → FieldType} {v : Int64} {σ1 : S} (hd : decode M.2.1 pc = .ok (.putfield idx, 3)) (hn : pc + 3 = n) (hl : xm_fl M.1.cls idx ci j 1 C T N ty) (hfin : (T j).2.2.2 = false) (hk : xm_is (sg σ) kk ci nn) (h1 : sg σ1 = ((sg σ).1, (sg σ).2.1, (sg σ).2.2.1, (sg σ).2.2.2.1, xm_u2 (sg σ).2.2.2.2 kk j v))
    (k : xs_ em sg M n lv st σ1 bc bs o) : xs_ em sg M pc lv (.long v :: .ref kk :: st) σ bc bs o := by
  have hty : ty j = .long := by
    have := hl.2.2.2.2
    cases hq : ty j <;> rw [hq] at this <;> simp [xm_tk] at this
  refine xs_putv hd hn hl (Or.inl hfin) hk (fun _ _ => by rw [hty]; rfl) (fun _ _ => by rw [hty]; rfl) (by rw [h1]) (by rw [h1]) (fun base b => ?_) (fun base j' t' hj => xm_val_u2l h1 j' t' hj) (fun k' hk' => ?_) k
  · rw [h1]; simp [xm_val, xm_u2, xm_r]
  · rw [h1]; exact ⟨rfl, rfl, xm_u2_ne hk'⟩
theorem xs_putr {idx ci j kk nn a : Nat} {C : String} {T : u_T} {N : Nat} {ty : Nat → FieldType} {σ1 : S} (hd : decode M.2.1 pc = .ok (.putfield idx, 3)) (hn : pc + 3 = n) (hl : xm_fl M.1.cls idx ci j 2 C T N ty) (hfin : (T j).2.2.2 = true ∧ M.1.name = "<init>" ∧ (T j).1 = M.1.cls) (hk : xm_is (sg σ) kk ci nn) (h1 : sg σ1 = ((sg σ).1, (sg σ).2.1, xm_u2 (sg σ).2.2.1 kk j (some a), (sg σ).2.2.2.1, (sg σ).2.2.2.2))
    (k : xs_ em sg M n lv st σ1 bc bs o) : xs_ em sg M pc lv (.ref a :: .ref kk :: st) σ bc bs o := by
  have hty : (∃ q, ty j = .object q) ∨ ∃ q, ty j = .array q := by
    have := hl.2.2.2.2
    cases hq : ty j <;> rw [hq] at this <;> simp [xm_tk] at this
    · exact Or.inl ⟨_, rfl⟩
    · exact Or.inr ⟨_, rfl⟩
  refine xs_putv hd hn hl (Or.inr hfin) hk (fun _ _ => ?_) (fun _ _ => ?_) (by rw [h1]) (by rw [h1]) (fun base b => ?_) (fun base j' t' hj => xm_val_u2r h1 j' t' hj) (fun k' hk' => ?_) k
  · rcases hty with ⟨q, hq⟩ | ⟨q, hq⟩ <;> rw [hq] <;> rfl
  · rcases hty with ⟨q, hq⟩ | ⟨q, hq⟩ <;> rw [hq] <;> rfl
  · rw [h1]; simp [xm_val, xm_u2, xm_r, va_rf]
  · rw [h1]; exact ⟨xm_u2_ne hk', rfl, rfl⟩
end XR_
end
section
theorem tb_nat : Cond.native arraycopyName ∈ xm_tb := by decide +kernel
theorem tb_sta : Cond.static arraycopyName ∈ xm_tb := by decide +kernel
theorem tb_sys : Cond.initialized "java/lang/System" ∈ xm_tb := by decide +kernel
/-! arrays -/
section XR_
variable {α S β : Type} {em : α → Option Value} {sg : S → xm_S} {M : xm_M} {pc n : Nat} {lv : List (Option Value)} {st : List Value} {σ : S} {bc bs : Nat} {a : Option β} {f : β → Option (α × S)}
theorem xs_iaload {kk nn : Nat} {i : Int32} (hd : decode M.2.1 pc = .ok (.iaload, 1)) (hn : pc + 1 = n) (hk : xm_is (sg σ) kk 13 nn) (k : xs_ em sg M n lv (.int ((sg σ).2.2.2.1 kk i.toNatClampNeg) :: st) σ bc bs (a.bind f)) : xs_ em sg M pc lv (.int i :: .ref kk :: st) σ bc bs ((xm_chk (xm_in i nn) a).bind f) := by
  subst hn
  intro r σ' ho G base b L xs l p e R s m args below meth c H locs cells slots ls Q hC hf hlo hc hs hL hW hz hS kret
  by_cases hch : xm_in i nn
  · rw [xm_chk, if_pos hch] at ho
    exact va_iald hC.1 hC.2.1 hC.2.2.2.2.2.2.2.2.1 hW kk 0 (xm_at13 hk) rfl (xm_in_vp hch) hd (k r σ' ho G base b L xs l p e R s m args below meth c H locs cells slots ls Q hC hf hlo hc hs hL hW hz hS kret)
  · rw [xm_chk, if_neg hch] at ho
    cases ho
theorem xs_baload {kk nn : Nat} {i : Int32} (hd : decode M.2.1 pc = .ok (.baload, 1)) (hn : pc + 1 = n) (hk : xm_is (sg σ) kk 15 nn) (k : xs_ em sg M n lv (.int ((sg σ).2.2.2.1 kk i.toNatClampNeg) :: st) σ bc bs (a.bind f)) : xs_ em sg M pc lv (.int i :: .ref kk :: st) σ bc bs ((xm_chk (xm_in i nn) a).bind f) := by
  subst hn
  intro r σ' ho G base b L xs l p e R s m args below meth c H locs cells slots ls Q hC hf hlo hc hs hL hW hz hS kret
  by_cases hch : xm_in i nn
  · rw [xm_chk, if_pos hch] at ho
    exact va_zald hC.1 hC.2.1 hC.2.2.2.2.2.2.2.2.1 hW kk 2 (xm_at15 hk) rfl (xm_in_vp hch) hd (k r σ' ho G base b L xs l p e R s m args below meth c H locs cells slots ls Q hC hf hlo hc hs hL hW hz hS kret)
  · rw [xm_chk, if_neg hch] at ho
    cases ho
theorem xs_laload {kk nn : Nat} {i : Int32} (hd : decode M.2.1 pc = .ok (.laload, 1)) (hn : pc + 1 = n) (hk : xm_is (sg σ) kk 14 nn) (k : xs_ em sg M n lv (.long ((sg σ).2.2.2.2 kk i.toNatClampNeg) :: st) σ bc bs (a.bind f)) : xs_ em sg M pc lv (.int i :: .ref kk :: st) σ bc bs ((xm_chk (xm_in i nn) a).bind f) := by
  subst hn
  intro r σ' ho G base b L xs l p e R s m args below meth c H locs cells slots ls Q hC hf hlo hc hs hL hW hz hS kret
  by_cases hch : xm_in i nn
  · rw [xm_chk, if_pos hch] at ho
    exact va_lald hC.1 hC.2.1 hC.2.2.2.2.2.2.2.2.1 hW kk 1 (xm_at14 hk) rfl (xm_in_vp hch) hd (k r σ' ho G base b L xs l p e R s m args below meth c H locs cells slots ls Q hC hf hlo hc hs hL hW hz hS kret)
  · rw [xm_chk, if_neg hch] at ho
    cases ho
theorem xs_aaload16 {kk nn aa : Nat} {i : Int32} (hd : decode M.2.1 pc = .ok (.aaload, 1)) (hn : pc + 1 = n) (hk : xm_is (sg σ) kk 16 nn) (hr : xm_in i nn → (sg σ).2.2.1 kk i.toNatClampNeg = some aa) (k : xm_in i nn → xs_ em sg M n lv (.ref aa :: st) σ bc bs (a.bind f)) : xs_ em sg M pc lv (.int i :: .ref kk :: st) σ bc bs ((xm_chk (xm_in i nn) a).bind f) := by
  subst hn
  intro r σ' ho G base b L xs l p e R s m args below meth c H locs cells slots ls Q hC hf hlo hc hs hL hW hz hS kret
  by_cases hch : xm_in i nn
  · rw [xm_chk, if_pos hch] at ho
    refine va_aldq hC.1 hC.2.1 hC.2.2.2.2.2.2.2.2.1 hW kk 3 (xm_at16 hk) rfl (xm_in_vp hch) hd ?_
    have hq := k hch r σ' ho G base b L xs l p e R s m args below meth c H locs cells slots ls Q hC hf hlo hc hs hL hW hz hS kret
    rw [hr hch]
    exact hq
  · rw [xm_chk, if_neg hch] at ho
    cases ho
theorem xs_aaload17 {kk nn aa : Nat} {i : Int32} (hd : decode M.2.1 pc = .ok (.aaload, 1)) (hn : pc + 1 = n) (hk : xm_is (sg σ) kk 17 nn) (hr : xm_in i nn → (sg σ).2.2.1 kk i.toNatClampNeg = some aa) (k : xm_in i nn → xs_ em sg M n lv (.ref aa :: st) σ bc bs (a.bind f)) : xs_ em sg M pc lv (.int i :: .ref kk :: st) σ bc bs ((xm_chk (xm_in i nn) a).bind f) := by
  subst hn
  intro r σ' ho G base b L xs l p e R s m args below meth c H locs cells slots ls Q hC hf hlo hc hs hL hW hz hS kret
  by_cases hch : xm_in i nn
  · rw [xm_chk, if_pos hch] at ho
    refine va_aldq hC.1 hC.2.1 hC.2.2.2.2.2.2.2.2.1 hW kk 4 (xm_at17 hk) rfl (xm_in_vp hch) hd ?_
    have hq := k hch r σ' ho G base b L xs l p e R s m args below meth c H locs cells slots ls Q hC hf hlo hc hs hL hW hz hS kret
    rw [hr hch]
    exact hq
  · rw [xm_chk, if_neg hch] at ho
    cases ho
theorem xs_iastore {kk nn : Nat} {i : Int32} {v : Int32} {σ1 : S} (hd : decode M.2.1 pc = .ok (.iastore, 1)) (hn : pc + 1 = n) (hk : xm_is (sg σ) kk 13 nn) (h1 : sg σ1 = ((sg σ).1, (sg σ).2.1, (sg σ).2.2.1, xm_u2 (sg σ).2.2.2.1 kk i.toNatClampNeg (v), (sg σ).2.2.2.2)) (k : xs_ em sg M n lv st σ1 bc bs (a.bind f)) : xs_ em sg M pc lv (.int v :: .int i :: .ref kk :: st) σ bc bs ((xm_chk (xm_in i nn) a).bind f) := by
  subst hn
  intro r σ' ho G base b L xs l p e R s m args below meth c H locs cells slots ls Q hC hf hlo hc hs hL hW hz hS kret
  by_cases hch : xm_in i nn
  · rw [xm_chk, if_pos hch] at ho
    have hset : (xm_ws G base (sg σ)).set kk (base + kk, .inl (G.2.1, nn, .inl (upd ((sg σ).2.2.2.1 kk) i.toNatClampNeg (v)))) = xm_ws G base (sg σ1) := by
      refine xm_set (by rw [h1]) hk.1 ?_ (fun k' hk' => ?_)
      · rw [h1]
        unfold xm_ent
        dsimp only
        rw [hk.2, xm_u2_i]
        rfl
      · have hq : (sg σ1).2.2.1 k' = (sg σ).2.2.1 k' ∧ (sg σ1).2.2.2.1 k' = (sg σ).2.2.2.1 k' ∧ (sg σ1).2.2.2.2 k' = (sg σ).2.2.2.2 k' := by
          rw [h1]; exact ⟨rfl, xm_u2_ne hk', rfl⟩
        exact xm_ent_congr (by rw [h1]) hq.1 hq.2.1 hq.2.2
    refine va_iast hC.1 hC.2.1 hC.2.2.2.2.2.2.2.2.1 hW xm_D hS kk 0 (xm_at13 hk) rfl (xm_in_vp hch) hd (fun H1 locs1 hP1 _ hS1 => ?_)
    rw [hset] at hP1
    exact k r σ' ho G base b L xs l p e R s m args below meth c H1 locs1 cells slots ls Q hC hf hlo hc hs hL hP1 (by rw [hz, h1]) hS1 kret
  · rw [xm_chk, if_neg hch] at ho
    cases ho
theorem xs_bastore {kk nn : Nat} {i : Int32} {v : Int32} {σ1 : S} (hd : decode M.2.1 pc = .ok (.bastore, 1)) (hn : pc + 1 = n) (hk : xm_is (sg σ) kk 15 nn) (h1 : sg σ1 = ((sg σ).1, (sg σ).2.1, (sg σ).2.2.1, xm_u2 (sg σ).2.2.2.1 kk i.toNatClampNeg (vp_nar .boolean v), (sg σ).2.2.2.2)) (k : xs_ em sg M n lv st σ1 bc bs (a.bind f)) : xs_ em sg M pc lv (.int v :: .int i :: .ref kk :: st) σ bc bs ((xm_chk (xm_in i nn) a).bind f) := by
  subst hn
  intro r σ' ho G base b L xs l p e R s m args below meth c H locs cells slots ls Q hC hf hlo hc hs hL hW hz hS kret
  by_cases hch : xm_in i nn
  · rw [xm_chk, if_pos hch] at ho
    have hset : (xm_ws G base (sg σ)).set kk (base + kk, .inl (G.2.2.2.1, nn, .inl (upd ((sg σ).2.2.2.1 kk) i.toNatClampNeg (vp_nar .boolean v)))) = xm_ws G base (sg σ1) := by
      refine xm_set (by rw [h1]) hk.1 ?_ (fun k' hk' => ?_)
      · rw [h1]
        unfold xm_ent
        dsimp only
        rw [hk.2, xm_u2_i]
        rfl
      · have hq : (sg σ1).2.2.1 k' = (sg σ).2.2.1 k' ∧ (sg σ1).2.2.2.1 k' = (sg σ).2.2.2.1 k' ∧ (sg σ1).2.2.2.2 k' = (sg σ).2.2.2.2 k' := by
          rw [h1]; exact ⟨rfl, xm_u2_ne hk', rfl⟩
        exact xm_ent_congr (by rw [h1]) hq.1 hq.2.1 hq.2.2
    refine va_zast hC.1 hC.2.1 hC.2.2.2.2.2.2.2.2.1 hW xm_D hS kk 2 (xm_at15 hk) rfl (xm_in_vp hch) hd (fun H1 locs1 hP1 _ hS1 => ?_)
    rw [hset] at hP1
    exact k r σ' ho G base b L xs l p e R s m args below meth c H1 locs1 cells slots ls Q hC hf hlo hc hs hL hP1 (by rw [hz, h1]) hS1 kret
  · rw [xm_chk, if_neg hch] at ho
    cases ho
theorem xs_lastore {kk nn : Nat} {i : Int32} {v : Int64} {σ1 : S} (hd : decode M.2.1 pc = .ok (.lastore, 1)) (hn : pc + 1 = n) (hk : xm_is (sg σ) kk 14 nn) (h1 : sg σ1 = ((sg σ).1, (sg σ).2.1, (sg σ).2.2.1, (sg σ).2.2.2.1, xm_u2 (sg σ).2.2.2.2 kk i.toNatClampNeg v)) (k : xs_ em sg M n lv st σ1 bc bs (a.bind f)) : xs_ em sg M pc lv (.long v :: .int i :: .ref kk :: st) σ bc bs ((xm_chk (xm_in i nn) a).bind f) := by
  subst hn
  intro r σ' ho G base b L xs l p e R s m args below meth c H locs cells slots ls Q hC hf hlo hc hs hL hW hz hS kret
  by_cases hch : xm_in i nn
  · rw [xm_chk, if_pos hch] at ho
    have hset : (xm_ws G base (sg σ)).set kk (base + kk, .inl (G.2.2.1, nn, .inr (.inl (vp_updL ((sg σ).2.2.2.2 kk) i.toNatClampNeg v)))) = xm_ws G base (sg σ1) := by
      refine xm_set (by rw [h1]) hk.1 ?_ (fun k' hk' => ?_)
      · rw [h1]
        unfold xm_ent
        dsimp only
        rw [hk.2, xm_u2_l]
        rfl
      · have hq : (sg σ1).2.2.1 k' = (sg σ).2.2.1 k' ∧ (sg σ1).2.2.2.1 k' = (sg σ).2.2.2.1 k' ∧ (sg σ1).2.2.2.2 k' = (sg σ).2.2.2.2 k' := by
          rw [h1]; exact ⟨rfl, rfl, xm_u2_ne hk'⟩
        exact xm_ent_congr (by rw [h1]) hq.1 hq.2.1 hq.2.2
    refine va_last hC.1 hC.2.1 hC.2.2.2.2.2.2.2.2.1 hW xm_D hS kk 1 (xm_at14 hk) rfl (xm_in_vp hch) hd (fun H1 locs1 hP1 _ hS1 => ?_)
    rw [hset] at hP1
    exact k r σ' ho G base b L xs l p e R s m args below meth c H1 locs1 cells slots ls Q hC hf hlo hc hs hL hP1 (by rw [hz, h1]) hS1 kret
  · rw [xm_chk, if_neg hch] at ho
    cases ho
theorem xs_aastore16 {kk nn v n2 : Nat} {i : Int32} {σ1 : S} (hd : decode M.2.1 pc = .ok (.aastore, 1)) (hn : pc + 1 = n) (hk : xm_is (sg σ) kk 16 nn) (hv : xm_is (sg σ) v 0 n2) (h1 : sg σ1 = ((sg σ).1, (sg σ).2.1, xm_u2 (sg σ).2.2.1 kk i.toNatClampNeg (some v), (sg σ).2.2.2.1, (sg σ).2.2.2.2)) (k : xs_ em sg M n lv st σ1 bc bs (a.bind f)) : xs_ em sg M pc lv (.ref v :: .int i :: .ref kk :: st) σ bc bs ((xm_chk (xm_in i nn) a).bind f) := by
  subst hn
  intro r σ' ho G base b L xs l p e R s m args below meth c H locs cells slots ls Q hC hf hlo hc hs hL hW hz hS kret
  by_cases hch : xm_in i nn
  · rw [xm_chk, if_pos hch] at ho
    have hset : (xm_ws G base (sg σ)).set kk (base + kk, .inl (G.2.2.2.2.1, nn, .inr (.inr (.inr (.inr (va_up (fun j => ((sg σ).2.2.1 kk j).map (fun a => base + a)) i.toNatClampNeg (some (base + v)))))))) = xm_ws G base (sg σ1) := by
      refine xm_set (by rw [h1]) hk.1 ?_ (fun k' hk' => ?_)
      · rw [h1]
        unfold xm_ent
        dsimp only
        rw [hk.2]
        have e1 : (fun j => (xm_u2 (sg σ).2.2.1 kk i.toNatClampNeg (some v) kk j).map (fun a => base + a)) = va_up (fun j => ((sg σ).2.2.1 kk j).map (fun a => base + a)) i.toNatClampNeg (some (base + v)) := by
          funext j
          by_cases hj : j = i.toNatClampNeg <;> simp [xm_u2, va_up, hj]
        rw [e1]
        rfl
      · have hq : (sg σ1).2.2.1 k' = (sg σ).2.2.1 k' ∧ (sg σ1).2.2.2.1 k' = (sg σ).2.2.2.1 k' ∧ (sg σ1).2.2.2.2 k' = (sg σ).2.2.2.2 k' := by
          rw [h1]; exact ⟨xm_u2_ne hk', rfl, rfl⟩
        exact xm_ent_congr (by rw [h1]) hq.1 hq.2.1 hq.2.2
    refine va_astq hC.1 hC.2.1 hC.2.2.2.2.2.2.2.2.1 hW xm_D hS kk 3 v 0 (xm_at16 hk) rfl (xm_atob (by decide) hv) rfl (xm_in_vp hch) hd (fun H1 locs1 hP1 _ hS1 => ?_)
    rw [hset] at hP1
    exact k r σ' ho G base b L xs l p e R s m args below meth c H1 locs1 cells slots ls Q hC hf hlo hc hs hL hP1 (by rw [hz, h1]) hS1 kret
  · rw [xm_chk, if_neg hch] at ho
    cases ho
theorem xs_aastore17 {kk nn v n2 : Nat} {i : Int32} {σ1 : S} (hd : decode M.2.1 pc = .ok (.aastore, 1)) (hn : pc + 1 = n) (hk : xm_is (sg σ) kk 17 nn) (hv : xm_is (sg σ) v 1 n2) (h1 : sg σ1 = ((sg σ).1, (sg σ).2.1, xm_u2 (sg σ).2.2.1 kk i.toNatClampNeg (some v), (sg σ).2.2.2.1, (sg σ).2.2.2.2)) (k : xs_ em sg M n lv st σ1 bc bs (a.bind f)) : xs_ em sg M pc lv (.ref v :: .int i :: .ref kk :: st) σ bc bs ((xm_chk (xm_in i nn) a).bind f) := by
  subst hn
  intro r σ' ho G base b L xs l p e R s m args below meth c H locs cells slots ls Q hC hf hlo hc hs hL hW hz hS kret
  by_cases hch : xm_in i nn
  · rw [xm_chk, if_pos hch] at ho
    have hset : (xm_ws G base (sg σ)).set kk (base + kk, .inl (G.2.2.2.2.2, nn, .inr (.inr (.inr (.inr (va_up (fun j => ((sg σ).2.2.1 kk j).map (fun a => base + a)) i.toNatClampNeg (some (base + v)))))))) = xm_ws G base (sg σ1) := by
      refine xm_set (by rw [h1]) hk.1 ?_ (fun k' hk' => ?_)
      · rw [h1]
        unfold xm_ent
        dsimp only
        rw [hk.2]
        have e1 : (fun j => (xm_u2 (sg σ).2.2.1 kk i.toNatClampNeg (some v) kk j).map (fun a => base + a)) = va_up (fun j => ((sg σ).2.2.1 kk j).map (fun a => base + a)) i.toNatClampNeg (some (base + v)) := by
          funext j
          by_cases hj : j = i.toNatClampNeg <;> simp [xm_u2, va_up, hj]
        rw [e1]
        rfl
      · have hq : (sg σ1).2.2.1 k' = (sg σ).2.2.1 k' ∧ (sg σ1).2.2.2.1 k' = (sg σ).2.2.2.1 k' ∧ (sg σ1).2.2.2.2 k' = (sg σ).2.2.2.2 k' := by
          rw [h1]; exact ⟨xm_u2_ne hk', rfl, rfl⟩
        exact xm_ent_congr (by rw [h1]) hq.1 hq.2.1 hq.2.2
    refine va_astq hC.1 hC.2.1 hC.2.2.2.2.2.2.2.2.1 hW xm_D hS kk 4 v 1 (xm_at17 hk) rfl (xm_atob (by decide) hv) rfl (xm_in_vp hch) hd (fun H1 locs1 hP1 _ hS1 => ?_)
    rw [hset] at hP1
    exact k r σ' ho G base b L xs l p e R s m args below meth c H1 locs1 cells slots ls Q hC hf hlo hc hs hL hP1 (by rw [hz, h1]) hS1 kret
  · rw [xm_chk, if_neg hch] at ho
    cases ho
theorem xs_alen13 {kk nn : Nat} {v : Int32} {o : Option (α × S)} (hd : decode M.2.1 pc = .ok (.arraylength, 1)) (hn : pc + 1 = n) (hk : xm_is (sg σ) kk 13 nn) (hv : Int32.ofNat nn = v) (k : xs_ em sg M n lv (.int v :: st) σ bc bs o) : xs_ em sg M pc lv (.ref kk :: st) σ bc bs o := by
  subst hn
  intro r σ' ho G base b L xs l p e R s m args below meth c H locs cells slots ls Q hC hf hlo hc hs hL hW hz hS kret
  exact va_alen hC.1 hC.2.1 hC.2.2.2.2.2.2.2.2.1 hW kk 0 (xm_at13 hk) rfl hv hd (k r σ' ho G base b L xs l p e R s m args below meth c H locs cells slots ls Q hC hf hlo hc hs hL hW hz hS kret)
theorem xs_alen14 {kk nn : Nat} {v : Int32} {o : Option (α × S)} (hd : decode M.2.1 pc = .ok (.arraylength, 1)) (hn : pc + 1 = n) (hk : xm_is (sg σ) kk 14 nn) (hv : Int32.ofNat nn = v) (k : xs_ em sg M n lv (.int v :: st) σ bc bs o) : xs_ em sg M pc lv (.ref kk :: st) σ bc bs o := by
  subst hn
  intro r σ' ho G base b L xs l p e R s m args below meth c H locs cells slots ls Q hC hf hlo hc hs hL hW hz hS kret
  exact va_alen hC.1 hC.2.1 hC.2.2.2.2.2.2.2.2.1 hW kk 1 (xm_at14 hk) rfl hv hd (k r σ' ho G base b L xs l p e R s m args below meth c H locs cells slots ls Q hC hf hlo hc hs hL hW hz hS kret)
theorem xs_copyl {k0 k1 n0 n1 idx : Nat} {sp dp nn : Int32} {σ1 : S} (hd : decode M.2.1 pc = .ok (.invokestatic idx, 3)) (hn : pc + 3 = n) (hw : Cond.methodLink M.1.cls idx arraycopyName ∈ xm_tb) (h0 : xm_is (sg σ) k0 14 n0) (hk1 : xm_is (sg σ) k1 14 n1) (hfr : 1 ≤ M.2.2.2.2.1) (hlc : (st.map fun v => v.category).sum + 18 ≤ M.2.2.2.2.2) (h1 : sg σ1 = ((sg σ).1, (sg σ).2.1, (sg σ).2.2.1, (sg σ).2.2.2.1, xm_u1 (sg σ).2.2.2.2 k1 (va_cpy ((sg σ).2.2.2.2 k0) ((sg σ).2.2.2.2 k1) sp.toNatClampNeg dp.toNatClampNeg nn.toNatClampNeg)))
    (k : xs_ em sg M n lv st σ1 bc bs (a.bind f)) : xs_ em sg M pc lv (.int nn :: .int dp :: .ref k1 :: .int sp :: .ref k0 :: st) σ bc bs ((xm_chk (0 ≤ sp ∧ 0 ≤ dp ∧ 0 ≤ nn ∧ sp.toNatClampNeg + nn.toNatClampNeg ≤ n0 ∧ dp.toNatClampNeg + nn.toNatClampNeg ≤ n1) a).bind f) := by
  subst hn
  intro r σ' ho G base b L xs l p e R s m args below meth c H locs cells slots ls Q hC hf hlo hc hs hL hW hz hS kret
  by_cases hch : 0 ≤ sp ∧ 0 ≤ dp ∧ 0 ≤ nn ∧ sp.toNatClampNeg + nn.toNatClampNeg ≤ n0 ∧ dp.toNatClampNeg + nn.toNatClampNeg ≤ n1
  · rw [xm_chk, if_pos hch] at ho
    have hset : (xm_ws G base (sg σ)).set k1 (base + k1, .inl (G.2.2.1, n1, .inr (.inl (va_cpy ((sg σ).2.2.2.2 k0) ((sg σ).2.2.2.2 k1) sp.toNatClampNeg dp.toNatClampNeg nn.toNatClampNeg)))) = xm_ws G base (sg σ1) := by
      refine xm_set (by rw [h1]) hk1.1 ?_ (fun k' hk' => ?_)
      · rw [h1]
        unfold xm_ent
        dsimp only
        rw [hk1.2, xm_u1_eq]
        rfl
      · have hq : (sg σ1).2.2.1 k' = (sg σ).2.2.1 k' ∧ (sg σ1).2.2.2.1 k' = (sg σ).2.2.2.1 k' ∧ (sg σ1).2.2.2.2 k' = (sg σ).2.2.2.2 k' := by
          rw [h1]; exact ⟨rfl, rfl, xm_u1_ne hk'⟩
        exact xm_ent_congr (by rw [h1]) hq.1 hq.2.1 hq.2.2
    have hcat : ((st.map (xm_r base b)).map fun v => v.category).sum = (st.map fun v => v.category).sum := by
      rw [List.map_map]
      congr 1
      exact List.map_congr_left (fun v _ => xm_r_cat base b v)
    refine va_copyl hC.1 hC.2.1 (by rw [hL.size]; exact hC.2.2.2.1) hC.2.2.2.2.1 (hC.2.2.2.2.2.1 _ hw) (hC.2.2.2.2.2.1 _ tb_nat) (hC.2.2.2.2.2.1 _ tb_sta) (hC.2.2.2.2.2.1 _ tb_sys) hC.2.2.2.2.2.2.2.2.1 hW xm_D hS k0 k1 1 1 (xm_at14 h0) (xm_at14 hk1) rfl rfl rfl (Int32.not_lt.mpr hch.1) (Int32.not_lt.mpr hch.2.1) (Int32.not_lt.mpr hch.2.2.1) hch.2.2.2.1 hch.2.2.2.2 (fun _ _ => rfl) (Nat.le_trans hfr hf) (by rw [hcat]; exact Nat.le_trans hlc hlo) hd (fun H1 locs1 hP1 _ hS1 => ?_)
    rw [hset] at hP1
    exact k r σ' ho G base b L xs l p e R s m args below meth c H1 locs1 cells slots ls Q hC hf hlo hc hs hL hP1 (by rw [hz, h1]) hS1 kret
  · rw [xm_chk, if_neg hch] at ho
    cases ho
theorem xs_copyi {k0 k1 n0 n1 idx : Nat} {sp dp nn : Int32} {σ1 : S} (hd : decode M.2.1 pc = .ok (.invokestatic idx, 3)) (hn : pc + 3 = n) (hw : Cond.methodLink M.1.cls idx arraycopyName ∈ xm_tb) (h0 : xm_is (sg σ) k0 13 n0) (hk1 : xm_is (sg σ) k1 13 n1) (hfr : 1 ≤ M.2.2.2.2.1) (hlc : (st.map fun v => v.category).sum + 18 ≤ M.2.2.2.2.2) (h1 : sg σ1 = ((sg σ).1, (sg σ).2.1, (sg σ).2.2.1, xm_u1 (sg σ).2.2.2.1 k1 (va_cpy ((sg σ).2.2.2.1 k0) ((sg σ).2.2.2.1 k1) sp.toNatClampNeg dp.toNatClampNeg nn.toNatClampNeg), (sg σ).2.2.2.2))
    (k : xs_ em sg M n lv st σ1 bc bs (a.bind f)) : xs_ em sg M pc lv (.int nn :: .int dp :: .ref k1 :: .int sp :: .ref k0 :: st) σ bc bs ((xm_chk (0 ≤ sp ∧ 0 ≤ dp ∧ 0 ≤ nn ∧ sp.toNatClampNeg + nn.toNatClampNeg ≤ n0 ∧ dp.toNatClampNeg + nn.toNatClampNeg ≤ n1) a).bind f) := by
  subst hn
  intro r σ' ho G base b L xs l p e R s m args below meth c H locs cells slots ls Q hC hf hlo hc hs hL hW hz hS kret
  by_cases hch : 0 ≤ sp ∧ 0 ≤ dp ∧ 0 ≤ nn ∧ sp.toNatClampNeg + nn.toNatClampNeg ≤ n0 ∧ dp.toNatClampNeg + nn.toNatClampNeg ≤ n1
  · rw [xm_chk, if_pos hch] at ho
    have hset : (xm_ws G base (sg σ)).set k1 (base + k1, .inl (G.2.1, n1, .inl (va_cpy ((sg σ).2.2.2.1 k0) ((sg σ).2.2.2.1 k1) sp.toNatClampNeg dp.toNatClampNeg nn.toNatClampNeg))) = xm_ws G base (sg σ1) := by
      refine xm_set (by rw [h1]) hk1.1 ?_ (fun k' hk' => ?_)
      · rw [h1]
        unfold xm_ent
        dsimp only
        rw [hk1.2, xm_u1_eq]
        rfl
      · have hq : (sg σ1).2.2.1 k' = (sg σ).2.2.1 k' ∧ (sg σ1).2.2.2.1 k' = (sg σ).2.2.2.1 k' ∧ (sg σ1).2.2.2.2 k' = (sg σ).2.2.2.2 k' := by
          rw [h1]; exact ⟨rfl, xm_u1_ne hk', rfl⟩
        exact xm_ent_congr (by rw [h1]) hq.1 hq.2.1 hq.2.2
    have hcat : ((st.map (xm_r base b)).map fun v => v.category).sum = (st.map fun v => v.category).sum := by
      rw [List.map_map]
      congr 1
      exact List.map_congr_left (fun v _ => xm_r_cat base b v)
    refine va_copyi hC.1 hC.2.1 (by rw [hL.size]; exact hC.2.2.2.1) hC.2.2.2.2.1 (hC.2.2.2.2.2.1 _ hw) (hC.2.2.2.2.2.1 _ tb_nat) (hC.2.2.2.2.2.1 _ tb_sta) (hC.2.2.2.2.2.1 _ tb_sys) hC.2.2.2.2.2.2.2.2.1 hW xm_D hS k0 k1 0 0 (xm_at13 h0) (xm_at13 hk1) rfl rfl rfl (Int32.not_lt.mpr hch.1) (Int32.not_lt.mpr hch.2.1) (Int32.not_lt.mpr hch.2.2.1) hch.2.2.2.1 hch.2.2.2.2 (fun _ _ => rfl) (Nat.le_trans hfr hf) (by rw [hcat]; exact Nat.le_trans hlc hlo) hd (fun H1 locs1 hP1 _ hS1 => ?_)
    rw [hset] at hP1
    exact k r σ' ho G base b L xs l p e R s m args below meth c H1 locs1 cells slots ls Q hC hf hlo hc hs hL hP1 (by rw [hz, h1]) hS1 kret
  · rw [xm_chk, if_neg hch] at ho
    cases ho
end XR_
end
section
/-! calls -/
def xm_ok (N : xm_M) (na : Nat) : Prop := plainName N.1.cls = true ∧ Cond.code N.1 N.2.1 N.2.2.1 N.2.2.2.1 ∈ xm_tb ∧ Cond.initialized N.1.cls ∈ xm_tb ∧ (N.1.cls ≠ "java/lang/invoke/MethodHandle" ∧ N.1.cls ≠ "java/lang/invoke/VarHandle" ∧ (parseMethodDescriptor N.1.desc).map (fun d => d.parameters.length) = some na)
def xm_wsM (N : xm_M) : List Cond := Cond.code N.1 N.2.1 N.2.2.1 N.2.2.2.1 :: xm_tb
def xm_rm (N : xm_M) (mc ms : Nat) : Room := { frames := N.2.2.2.2.1, cells := mc, slots := ms, locals := N.2.2.2.2.2 }
def xm_fm (vs : List Value) : List (Option Value) := match vs with
  | [] => []
  | v :: vs => if v.category = 2 then some v :: none :: xm_fm vs else some v :: xm_fm vs
def xm_en (n : Nat) (vs : List Value) : List (Option Value) := xm_fm vs ++ List.replicate (n - (xm_fm vs).length) none
theorem xm_fm_mem (base b : Nat) (vs : List Value) (c : Nat) : ∀ (t i : Nat) (v : Value), (xm_fm vs ++ List.replicate c none)[i]? = some (some v) → (t + i, xm_r base b v) ∈ lv_args t (vs.map (xm_r base b)) := by
  induction vs with
  | nil =>
    intro t i v h
    rw [xm_fm, List.nil_append, List.getElem?_replicate] at h
    split at h <;> cases h
  | cons w vs ih =>
    intro t i v h
    unfold xm_fm at h
    simp only [List.map_cons, lv_args, xm_r_cat]
    by_cases hw : w.category = 2
    · rw [if_pos hw] at h
      rw [if_pos hw]
      match i, h with
      | 0, h => cases h; exact List.mem_cons_self
      | 1, h => cases h
      | i + 2, h =>
        have := ih (t + 2) i v h
        rw [show t + (i + 2) = t + 2 + i by omega]
        exact List.mem_cons_of_mem _ this
    · rw [if_neg hw] at h
      rw [if_neg hw]
      match i, h with
      | 0, h => cases h; exact List.mem_cons_self
      | i + 1, h =>
        have := ih (t + 1) i v h
        rw [show t + (i + 1) = t + 1 + i by omega]
        exact List.mem_cons_of_mem _ this
theorem xm_sl_len (base b : Nat) (vs : List Value) : (lg_sl (vs.map (xm_r base b))).length = (lg_sl vs).length := by
  unfold lg_sl
  induction vs with
  | nil => rfl
  | cons w vs ih =>
    simp only [List.map_cons, List.flatMap_cons, List.length_append, xm_r_cat, ih]
    split <;> rfl
def xm_Pc (G : xm_G) (base b L : Nat) (xs : Nat → Int32) (As : List Value) (σ : xm_S) : Array Value → State → Prop := fun v U => v = (As.map (xm_r base b)).toArray ∧ U.heap.size = base + σ.1 ∧ xm_W G base σ U.heap ∧ va_K G.1 vwCl (xm_tys G) U ∧ va_X b L xs U U.heap ∧ b < base ∧ xm_N U
def xm_Qc (G : xm_G) (base b : Nat) (r : Option Value) (σ : xm_S) : Array Value → State → Outcome → State → Prop := fun _ st oc t => oc = .returned (r.map (xm_r base b)) ∧ xm_W G base σ t.heap ∧ va_F (fun q => base ≤ q) st t
theorem xm_N.moved {s U : State} (hW : s.WarmedH U.vm) (h : xm_N s) : xm_N U := ⟨fun a i x hh hm => va_Nw.warmM hW (h.1 a i x hh hm), va_AO.moved hW.alike h.2.1, va_AO.moved hW.alike h.2.2⟩
theorem xm_blind {G : xm_G} {base b L : Nat} {xs : Nat → Int32} {As : List Value} {σ : xm_S} : FrameBlind (xm_Pc G base b L xs As σ) := by
  intro a U g mk q
  obtain ⟨h1, h2, h3, h4, h5, h6, h7⟩ := q
  exact ⟨h1, h2, h3, va_K.moved (u := U) (U := U.calling g mk a) (Vm.Alike.refl U.vm) h4, va_X.moved (u := U) (U := U.calling g mk a) (Vm.Alike.refl U.vm) h5, h6, fun a i x hh hm => va_Nw.same rfl rfl (h7.1 a i x hh hm), va_AO.moved (u := U) (U := U.calling g mk a) (Vm.Alike.refl U.vm) h7.2.1, va_AO.moved (u := U) (U := U.calling g mk a) (Vm.Alike.refl U.vm) h7.2.2⟩
set_option maxHeartbeats 1000000 in
theorem xm_met {α S : Type} {em : α → Option Value} {sg : S → xm_S} {N : xm_M} {na : Nat} (hok : xm_ok N na) {lv0 : List (Option Value)} {As : List Value} {σ : S} {mc ms : Nat} {o : Option (α × S)} {r : α} {σ' : S} (hN : xs_ em sg N 0 lv0 [] σ mc ms o) (he : xm_en N.2.2.1 As = lv0) (hlen : (lg_sl As).length ≤ N.2.2.1) (ho : o = some (r, σ')) (G : xm_G) (base b L : Nat) (xs : Nat → Int32) (l : Launch) : Met l N.1 (xm_wsM N) (xm_rm N mc ms) (xm_Pc G base b L xs As (sg σ)) (xm_Qc G base b (em r) (sg σ')) mc ms (fun q => base ≤ q) := by
  refine Met.ofW (cc := N.2.1) (maxL := N.2.2.1) (ret := N.2.2.2.1) hok.1 rfl ?_
  intro p e s m args below meth c s₁ B hml hv
  obtain ⟨rfl, hsz, hW, hK, hX, hb, hNw⟩ := hv
  have hts := atoms_spec (ws := xm_wsM N) B.pre
  have hin : meth.name = N.1.name := (name_of_methodNamed B.named B.method).1
  rw [lg_entry_eq]
  have hl := lv_entry (As.map (xm_r base b)) (n := N.2.2.1) (by rw [xm_sl_len]; exact hlen)
  refine hN r σ' ho G base b L xs l p e _ s m _ below meth c s.heap [] 0 0 _ _ ⟨B.exec, B.bytes, B.returns, hml, findClass_of_methodNamed B.named, fun w hw => hts w (List.mem_cons_of_mem _ hw), B.notSynchronized, hin, hK, by omega, hX, hb, hNw⟩ (Nat.le_refl _) (Nat.le_refl _) (by simp only [Nat.zero_add]; exact Nat.le_refl _) (by simp only [Nat.zero_add]; exact Nat.le_refl _) ⟨_, hl, fun i v hi => ?_⟩ hW (by omega) va_S.rf (fun H1 locs1 cells1 slots1 pc1 ls1 hc1 hs1 hW1 hS1 hrt => ?_)
  · rw [← he, xm_en] at hi
    have := xm_fm_mem base b As _ 0 i v hi
    rwa [Nat.zero_add] at this
  · have key : ∀ v : Option Value, xm_rt N pc1 v → W p l e (headSpec (xm_wsM N) (xm_rm N mc ms)).room s m (As.map (xm_r base b)).toArray below meth c H1 locs1 mc ms (MQ below (xm_Qc G base b v (sg σ')) (As.map (xm_r base b)).toArray s mc ms (fun q => base ≤ q)) (F0 m pc1 ls1 (v.map (xm_r base b)).toList) := by
      intro v hv
      match v, hv with
      | none, hv => exact W.vret B.exec B.bytes (B.returns.trans hv.2) (fun t ht _ => ⟨rfl, by rw [ht]; exact hW1, hS1.F ht⟩) (fun q hq => hS1.2.2 q hq) hv.1
      | some (.long x), hv => exact W.lret B.exec B.bytes (B.returns.trans hv.2) (fun t ht _ => ⟨rfl, by rw [ht]; exact hW1, hS1.F ht⟩) (fun q hq => hS1.2.2 q hq) hv.1
      | some (.int x), hv =>
        rcases hv.2 with hr | ⟨hr, hx⟩
        · exact W.iret B.exec B.bytes (B.returns.trans hr) (fun t ht _ => ⟨rfl, by rw [ht]; exact hW1, hS1.F ht⟩) (fun q hq => hS1.2.2 q hq) hv.1
        · exact W.zret B.exec B.bytes (B.returns.trans hr) (by rcases hx with rfl | rfl <;> rfl) (fun t ht _ => ⟨rfl, by rw [ht]; exact hW1, hS1.F ht⟩) (fun q hq => hS1.2.2 q hq) hv.1
    exact W.widen (by simpa using hc1) (by simpa using hs1) (key _ hrt)
end
section
section XQ_
variable {p : Program} {l : Launch} {e : Env} {R : Room} {s : State} {m : MethodId} {args : Array Value} {below : List Frame} {meth : Method} {c : Code} {H : Heap} {locs : List Loc} {cells slots : Nat} {Q : State → Prop}
theorem xm_size {G : xm_G} {base : Nat} {σ : xm_S} {T : State} (X : Stand p l e R s m args below meth c T locs cells slots) (hT : T.heap = H) (hW : xm_W G base σ H) (hz : s.heap.size + cells = base + σ.1) (hb : base ≤ s.heap.size) : H.size = base + σ.1 := by
  have h1 : s.heap.size ≤ T.heap.size := X.same.2.1
  have h2 : T.heap.size ≤ s.heap.size + cells := X.same.2.2.1
  rw [hT] at h1 h2
  by_cases hK : σ.1 = 0
  · omega
  · have := (hW (σ.1 - 1) _ (xm_ws_at (by omega))).lt
    dsimp only at this
    omega
theorem xm_after {G : xm_G} {base b : Nat} {σ' : xm_S} {v : Option Value} {mc ms pc : Nat} {ls : Array Slot} {st0 rest : List Value} {a : Array Value} (hr : va_Run p l e R s m args below meth c H locs cells slots mc ms (F0 m pc ls st0) rest (xm_Qc G base b v σ' a) (fun q => base ≤ q)) (hS : va_S (fun q => base ≤ q) s.heap H locs)
    (k : ∀ (H1 : Heap) (locs1 : List Loc), xm_W G base σ' H1 → va_S (fun q => base ≤ q) s.heap H1 locs1 → W p l e R s m args below meth c H1 locs1 (cells + mc) (slots + ms) Q (F0 m (pc + 3) ls ((v.map (xm_r base b)).toList ++ rest))) : W p l e R s m args below meth c H locs cells slots Q (F0 m pc ls st0) := by
  intro T hT X
  obtain ⟨v', st₀, t, T', L, h0, X', hL, e1, e2, ⟨hv, hW1, hF⟩, st⟩ := hr T hT X
  cases hv
  have hS1 : va_S (fun q => base ≤ q) s.heap t.heap (locs ++ L) := by
    refine ⟨Nat.le_trans hS.1 (by rw [← h0]; exact hF.1), fun q h1 h2 => ?_, fun q hq => ?_⟩
    · rw [hF.2 q (by rw [h0]; exact Nat.lt_of_lt_of_le h1 hS.1) h2, h0]
      exact hS.2.1 q h1 h2
    · rcases List.mem_append.mp hq with hq | hq
      · exact hS.2.2 q hq
      · exact hL q hq
  obtain ⟨t2, a1, b1⟩ := k t.heap (locs ++ L) hW1 hS1 T' e1 X'
  exact ⟨t2, st t2 a1, b1⟩
end XQ_
theorem xm_cats (base b : Nat) (st : List Value) : ((st.map (xm_r base b)).map fun v => v.category).sum = (st.map fun v => v.category).sum := by
  rw [List.map_map]
  congr 1
  exact List.map_congr_left (fun v _ => xm_r_cat base b v)
section XR_
variable {α β S αN : Type} {em : α → Option Value} {emN : αN → Option Value} {sg : S → xm_S} {M N : xm_M} {pc n na idx mc ms bc bs bc' bs' : Nat} {lv lv0 : List (Option Value)} {stk rest As : List Value} {σ : S} {oN : Option (αN × S)} {F : αN × S → Option β} {f : β → Option (α × S)}
theorem xs_calls (hd : decode M.2.1 pc = .ok (.invokestatic idx, 3)) (hn : pc + 3 = n) (hok : xm_ok N na) (hw : Cond.methodLink M.1.cls idx N.1 ∈ xm_tb) (hst : Cond.static N.1 ∈ xm_tb) (hR : N.2.2.2.2.1 + 1 ≤ M.2.2.2.2.1 ∧ 8 + (N.2.2.1 + 11) + N.2.2.2.2.2 ≤ M.2.2.2.2.2) (As : List Value) (rest : List Value) (hstk : stk = As.reverse ++ rest) (hla : As.length = na) (hlen : (lg_sl As).length ≤ N.2.2.1) (he : xm_en N.2.2.1 As = lv0) (hrest : (rest.map fun v => v.category).sum ≤ 8) (hb : bc' + mc ≤ bc ∧ bs' + ms ≤ bs) (hKm : ∀ q, oN = some q → (sg q.2).1 = (sg σ).1 + mc) (hN : xs_ emN sg N 0 lv0 [] σ mc ms oN) (k : ∀ (v : αN) (σ1 : S), xs_ em sg M n lv ((emN v).toList ++ rest) σ1 bc' bs' ((F (v, σ1)).bind f)) : xs_ em sg M pc lv stk σ bc bs ((oN.bind F).bind f) := by
  subst hn
  intro r σ' ho G base b L xs l p e R s m args below meth c H locs cells slots ls Q hC hf hlo hc hs hL hW hz hS kret
  cases hoN : oN with
  | none => rw [hoN] at ho; cases ho
  | some q =>
    obtain ⟨v, σ1⟩ := q
    rw [hoN] at ho
    have hM := xm_met hok hN he hlen hoN G base b L xs l
    have hKv := hKm _ hoN
    obtain ⟨hx, hbb, hrt, hml, hown, hts, hlk, hnm, hK, hbs, hX, hbl, hNw⟩ := id hC
    intro T0 hT0 X0
    have hsz := xm_size X0 hT0 hW hz hbs
    refine (?_ : W p l e R s m args below meth c H locs cells slots Q (F0 m pc ls (stk.map (xm_r base b)))) T0 hT0 X0
    refine xm_after (G := G) (base := base) (b := b) (v := emN v) (σ' := sg σ1) (mc := mc) (ms := ms) (rest := rest.map (xm_r base b)) (a := (As.map (xm_r base b)).toArray) ?_ hS (fun H1 locs1 hW1 hS1 => ?_)
    · exact va_runS (As := As.map (xm_r base b)) (rest := rest.map (xm_r base b)) ⟨hx, hbb, hml, hown, hts⟩ hM ⟨callB_of na hts (xm_goodin hok.2.1) rfl rfl rfl (hts _ hok.2.2.1) (hts _ hw) hok.2.2.2 ⟨Nat.le_trans hR.1 hf, Nat.le_trans hR.2 hlo⟩, hts _ hst⟩ ⟨xm_blind, fun U hU hWm => ⟨rfl, by rw [hU]; exact hsz, by rw [hU]; exact hW, va_K.moved hWm.alike hK, by rw [hU]; exact (hX.kept (hS.2.1 b (Nat.lt_of_lt_of_le hbl hbs) (Nat.not_le.mpr hbl))).moved hWm.alike, hbl, hNw.moved hWm⟩⟩ rfl (by rw [List.length_map]; exact hla) hL.size (by subst hstk; simp [xm_r]) (by show 2 * 0 + _ ≤ 8; rw [xm_cats]; omega) hd ⟨by show cells + mc ≤ R.cells; omega, by show slots + ms ≤ R.slots; omega⟩
    · have hk2 := k v σ1 r σ' ho G base b L xs l p e R s m args below meth c H1 locs1 (cells + mc) (slots + ms) ls Q hC hf hlo (by omega) (by omega) hL hW1 (by rw [hKv]; omega) hS1 (fun H2 locs2 cells2 slots2 pc2 ls2 h1 h2 => kret H2 locs2 cells2 slots2 pc2 ls2 (by omega) (by omega))
      cases hem : emN v <;> rw [hem] at hk2 <;> exact hk2
theorem xs_callsn {host : String} (hd : decode M.2.1 pc = .ok (.invokestatic idx, 3)) (hn : pc + 3 = n) (hok : xm_ok N na) (hw : Cond.methodLinkNest M.1.cls idx N.1 host ∈ lw_tbl) (hst : Cond.static N.1 ∈ xm_tb) (hR : N.2.2.2.2.1 + 1 ≤ M.2.2.2.2.1 ∧ 8 + (N.2.2.1 + 11) + N.2.2.2.2.2 ≤ M.2.2.2.2.2) (As : List Value) (rest : List Value) (hstk : stk = As.reverse ++ rest) (hla : As.length = na) (hlen : (lg_sl As).length ≤ N.2.2.1) (he : xm_en N.2.2.1 As = lv0) (hrest : (rest.map fun v => v.category).sum ≤ 8) (hb : bc' + mc ≤ bc ∧ bs' + ms ≤ bs) (hKm : ∀ q, oN = some q → (sg q.2).1 = (sg σ).1 + mc) (hN : xs_ emN sg N 0 lv0 [] σ mc ms oN) (k : ∀ (v : αN) (σ1 : S), xs_ em sg M n lv ((emN v).toList ++ rest) σ1 bc' bs' ((F (v, σ1)).bind f)) : xs_ em sg M pc lv stk σ bc bs ((oN.bind F).bind f) := by
  subst hn
  intro r σ' ho G base b L xs l p e R s m args below meth c H locs cells slots ls Q hC hf hlo hc hs hL hW hz hS kret
  cases hoN : oN with
  | none => rw [hoN] at ho; cases ho
  | some q =>
    obtain ⟨v, σ1⟩ := q
    rw [hoN] at ho
    have hM := xm_met hok hN he hlen hoN G base b L xs l
    have hKv := hKm _ hoN
    obtain ⟨hx, hbb, hrt, hml, hown, hts, hlk, hnm, hK, hbs, hX, hbl, hNw⟩ := id hC
    intro T0 hT0 X0
    have hsz := xm_size X0 hT0 hW hz hbs
    refine (?_ : W p l e R s m args below meth c H locs cells slots Q (F0 m pc ls (stk.map (xm_r base b)))) T0 hT0 X0
    refine xm_after (G := G) (base := base) (b := b) (v := emN v) (σ' := sg σ1) (mc := mc) (ms := ms) (rest := rest.map (xm_r base b)) (a := (As.map (xm_r base b)).toArray) ?_ hS (fun H1 locs1 hW1 hS1 => ?_)
    · exact va_runSN (As := As.map (xm_r base b)) (rest := rest.map (xm_r base b)) ⟨hx, hbb, hml, hown, hts⟩ hM ⟨va_cnB na hts (xm_goodin hok.2.1) rfl rfl rfl (hNw.1 _ _ _ _ hw) (hts _ hok.2.2.1) hok.2.2.2 ⟨Nat.le_trans hR.1 hf, Nat.le_trans hR.2 hlo⟩, hts _ hst, trivial⟩ ⟨xm_blind, fun U hU hWm => ⟨rfl, by rw [hU]; exact hsz, by rw [hU]; exact hW, va_K.moved hWm.alike hK, by rw [hU]; exact (hX.kept (hS.2.1 b (Nat.lt_of_lt_of_le hbl hbs) (Nat.not_le.mpr hbl))).moved hWm.alike, hbl, hNw.moved hWm⟩⟩ rfl (by rw [List.length_map]; exact hla) hL.size (by subst hstk; simp [xm_r]) (by show 2 * 0 + _ ≤ 8; rw [xm_cats]; omega) hd ⟨by show cells + mc ≤ R.cells; omega, by show slots + ms ≤ R.slots; omega⟩
    · have hk2 := k v σ1 r σ' ho G base b L xs l p e R s m args below meth c H1 locs1 (cells + mc) (slots + ms) ls Q hC hf hlo (by omega) (by omega) hL hW1 (by rw [hKv]; omega) hS1 (fun H2 locs2 cells2 slots2 pc2 ls2 h1 h2 => kret H2 locs2 cells2 slots2 pc2 ls2 (by omega) (by omega))
      cases hem : emN v <;> rw [hem] at hk2 <;> exact hk2
theorem xs_callv {kk ci nn : Nat} {T : u_T} {NF : Nat} (hd : decode M.2.1 pc = .ok (.invokevirtual idx, 3)) (hn : pc + 3 = n) (hok : xm_ok N na) (hw : Cond.methodLink M.1.cls idx N.1 ∈ xm_tb) (hin : Cond.instanceMethod N.1 ∈ xm_tb) (hse : Cond.selects N.1.cls N.1 N.1 ∈ xm_tb) (hR : N.2.2.2.2.1 + 1 ≤ M.2.2.2.2.1 ∧ 8 + (N.2.2.1 + 11) + N.2.2.2.2.2 ≤ M.2.2.2.2.2) (As : List Value) (rest : List Value) (hstk : stk = As.reverse ++ .ref kk :: rest) (hla : As.length = na) (hlen : (lg_sl (.ref kk :: As)).length ≤ N.2.2.1) (he : xm_en N.2.2.1 (.ref kk :: As) = lv0) (hrest : (rest.map fun v => v.category).sum ≤ 8) (hb : bc' + mc ≤ bc ∧ bs' + ms ≤ bs) (hKm : ∀ q, oN = some q → (sg q.2).1 = (sg σ).1 + mc) (hN : xs_ emN sg N 0 lv0 [] σ mc ms oN) (hk : xm_is (sg σ) kk ci nn) (hc13 : ci < 13) (hcl : vwCl[ci]? = some (N.1.cls, T, NF)) (k : ∀ (v : αN) (σ1 : S), xs_ em sg M n lv ((emN v).toList ++ rest) σ1 bc' bs' ((F (v, σ1)).bind f)) : xs_ em sg M pc lv stk σ bc bs ((oN.bind F).bind f) := by
  subst hn
  intro r σ' ho G base b L xs l p e R s m args below meth c H locs cells slots ls Q hC hf hlo hc hs hL hW hz hS kret
  cases hoN : oN with
  | none => rw [hoN] at ho; cases ho
  | some q =>
    obtain ⟨v, σ1⟩ := q
    rw [hoN] at ho
    have hM := xm_met hok hN he hlen hoN G base b L xs l
    have hKv := hKm _ hoN
    obtain ⟨hx, hbb, hrt, hml, hown, hts, hlk, hnm, hK, hbs, hX, hbl, hNw⟩ := id hC
    intro T0 hT0 X0
    have hsz := xm_size X0 hT0 hW hz hbs
    refine (?_ : W p l e R s m args below meth c H locs cells slots Q (F0 m pc ls (stk.map (xm_r base b)))) T0 hT0 X0
    refine xm_after (G := G) (base := base) (b := b) (v := emN v) (σ' := sg σ1) (mc := mc) (ms := ms) (rest := rest.map (xm_r base b)) (a := (Value.ref (base + kk) :: As.map (xm_r base b)).toArray) ?_ hS (fun H1 locs1 hW1 hS1 => ?_)
    · exact va_runV (As := As.map (xm_r base b)) (rest := rest.map (xm_r base b)) ⟨hx, hbb, hml, hown, hts⟩ hM ⟨callB_of na hts (xm_goodin hok.2.1) rfl rfl rfl (hts _ hok.2.2.1) (hts _ hw) hok.2.2.2 ⟨Nat.le_trans hR.1 hf, Nat.le_trans hR.2 hlo⟩, hts _ hin, hts _ hse⟩ ⟨xm_blind, va_recv hK hW hcl (xm_atob hc13 hk), fun U hU hWm => ⟨rfl, by rw [hU]; exact hsz, by rw [hU]; exact hW, va_K.moved hWm.alike hK, by rw [hU]; exact (hX.kept (hS.2.1 b (Nat.lt_of_lt_of_le hbl hbs) (Nat.not_le.mpr hbl))).moved hWm.alike, hbl, hNw.moved hWm⟩⟩ rfl (by rw [List.length_map]; exact hla) hL.size (by subst hstk; simp [xm_r]) (by show 2 * 0 + _ ≤ 8; rw [xm_cats]; omega) hd ⟨by show cells + mc ≤ R.cells; omega, by show slots + ms ≤ R.slots; omega⟩
    · have hk2 := k v σ1 r σ' ho G base b L xs l p e R s m args below meth c H1 locs1 (cells + mc) (slots + ms) ls Q hC hf hlo (by omega) (by omega) hL hW1 (by rw [hKv]; omega) hS1 (fun H2 locs2 cells2 slots2 pc2 ls2 h1 h2 => kret H2 locs2 cells2 slots2 pc2 ls2 (by omega) (by omega))
      cases hem : emN v <;> rw [hem] at hk2 <;> exact hk2
theorem xs_callc {kk : Nat} (hd : decode M.2.1 pc = .ok (.invokespecial idx, 3)) (hn : pc + 3 = n) (hok : xm_ok N na) (hw : Cond.methodLink M.1.cls idx N.1 ∈ xm_tb) (hin : Cond.instanceMethod N.1 ∈ xm_tb) (hname : N.1.name = "<init>") (hret : N.2.2.2.1 = none) (hR : N.2.2.2.2.1 + 1 ≤ M.2.2.2.2.1 ∧ 8 + (N.2.2.1 + 11) + N.2.2.2.2.2 ≤ M.2.2.2.2.2) (As : List Value) (rest : List Value) (hstk : stk = As.reverse ++ .ref kk :: rest) (hla : As.length = na) (hlen : (lg_sl (.ref kk :: As)).length ≤ N.2.2.1) (he : xm_en N.2.2.1 (.ref kk :: As) = lv0) (hrest : (rest.map fun v => v.category).sum ≤ 8) (hb : bc' + mc ≤ bc ∧ bs' + ms ≤ bs) (hKm : ∀ q, oN = some q → (sg q.2).1 = (sg σ).1 + mc) (hN : xs_ emN sg N 0 lv0 [] σ mc ms oN) (k : ∀ (v : αN) (σ1 : S), xs_ em sg M n lv ((emN v).toList ++ rest) σ1 bc' bs' ((F (v, σ1)).bind f)) : xs_ em sg M pc lv stk σ bc bs ((oN.bind F).bind f) := by
  subst hn
  intro r σ' ho G base b L xs l p e R s m args below meth c H locs cells slots ls Q hC hf hlo hc hs hL hW hz hS kret
  cases hoN : oN with
  | none => rw [hoN] at ho; cases ho
  | some q =>
    obtain ⟨v, σ1⟩ := q
    rw [hoN] at ho
    have hM := xm_met hok hN he hlen hoN G base b L xs l
    have hKv := hKm _ hoN
    obtain ⟨hx, hbb, hrt, hml, hown, hts, hlk, hnm, hK, hbs, hX, hbl, hNw⟩ := id hC
    intro T0 hT0 X0
    have hsz := xm_size X0 hT0 hW hz hbs
    refine (?_ : W p l e R s m args below meth c H locs cells slots Q (F0 m pc ls (stk.map (xm_r base b)))) T0 hT0 X0
    refine xm_after (G := G) (base := base) (b := b) (v := emN v) (σ' := sg σ1) (mc := mc) (ms := ms) (rest := rest.map (xm_r base b)) (a := (Value.ref (base + kk) :: As.map (xm_r base b)).toArray) ?_ hS (fun H1 locs1 hW1 hS1 => ?_)
    · exact va_runI (As := As.map (xm_r base b)) (rest := rest.map (xm_r base b)) ⟨hx, hbb, hml, hown, hts⟩ hM ⟨callB_of na hts (xm_goodin hok.2.1) (by rw [xm_wsM, hret]) rfl rfl (hts _ hok.2.2.1) (hts _ hw) hok.2.2.2 ⟨Nat.le_trans hR.1 hf, Nat.le_trans hR.2 hlo⟩, hname, hts _ hin⟩ ⟨xm_blind, fun U hU hWm => ⟨rfl, by rw [hU]; exact hsz, by rw [hU]; exact hW, va_K.moved hWm.alike hK, by rw [hU]; exact (hX.kept (hS.2.1 b (Nat.lt_of_lt_of_le hbl hbs) (Nat.not_le.mpr hbl))).moved hWm.alike, hbl, hNw.moved hWm⟩⟩ rfl (by rw [List.length_map]; exact hla) hL.size (by subst hstk; simp [xm_r]) (by show 2 * 0 + _ ≤ 8; rw [xm_cats]; omega) hd ⟨by show cells + mc ≤ R.cells; omega, by show slots + ms ≤ R.slots; omega⟩
    · have hk2 := k v σ1 r σ' ho G base b L xs l p e R s m args below meth c H1 locs1 (cells + mc) (slots + ms) ls Q hC hf hlo (by omega) (by omega) hL hW1 (by rw [hKv]; omega) hS1 (fun H2 locs2 cells2 slots2 pc2 ls2 h1 h2 => kret H2 locs2 cells2 slots2 pc2 ls2 (by omega) (by omega))
      cases hem : emN v <;> rw [hem] at hk2 <;> exact hk2
theorem xs_callcn {kk : Nat} {host : String} (hd : decode M.2.1 pc = .ok (.invokespecial idx, 3)) (hn : pc + 3 = n) (hok : xm_ok N na) (hw : Cond.methodLinkNest M.1.cls idx N.1 host ∈ lw_tbl) (hin : Cond.instanceMethod N.1 ∈ xm_tb) (hname : N.1.name = "<init>") (hret : N.2.2.2.1 = none) (hR : N.2.2.2.2.1 + 1 ≤ M.2.2.2.2.1 ∧ 8 + (N.2.2.1 + 11) + N.2.2.2.2.2 ≤ M.2.2.2.2.2) (As : List Value) (rest : List Value) (hstk : stk = As.reverse ++ .ref kk :: rest) (hla : As.length = na) (hlen : (lg_sl (.ref kk :: As)).length ≤ N.2.2.1) (he : xm_en N.2.2.1 (.ref kk :: As) = lv0) (hrest : (rest.map fun v => v.category).sum ≤ 8) (hb : bc' + mc ≤ bc ∧ bs' + ms ≤ bs) (hKm : ∀ q, oN = some q → (sg q.2).1 = (sg σ).1 + mc) (hN : xs_ emN sg N 0 lv0 [] σ mc ms oN) (k : ∀ (v : αN) (σ1 : S), xs_ em sg M n lv ((emN v).toList ++ rest) σ1 bc' bs' ((F (v, σ1)).bind f)) : xs_ em sg M pc lv stk σ bc bs ((oN.bind F).bind f) := by
  subst hn
  intro r σ' ho G base b L xs l p e R s m args below meth c H locs cells slots ls Q hC hf hlo hc hs hL hW hz hS kret
  cases hoN : oN with
  | none => rw [hoN] at ho; cases ho
  | some q =>
    obtain ⟨v, σ1⟩ := q
    rw [hoN] at ho
    have hM := xm_met hok hN he hlen hoN G base b L xs l
    have hKv := hKm _ hoN
    obtain ⟨hx, hbb, hrt, hml, hown, hts, hlk, hnm, hK, hbs, hX, hbl, hNw⟩ := id hC
    intro T0 hT0 X0
    have hsz := xm_size X0 hT0 hW hz hbs
    refine (?_ : W p l e R s m args below meth c H locs cells slots Q (F0 m pc ls (stk.map (xm_r base b)))) T0 hT0 X0
    refine xm_after (G := G) (base := base) (b := b) (v := emN v) (σ' := sg σ1) (mc := mc) (ms := ms) (rest := rest.map (xm_r base b)) (a := (Value.ref (base + kk) :: As.map (xm_r base b)).toArray) ?_ hS (fun H1 locs1 hW1 hS1 => ?_)
    · exact va_runIN (As := As.map (xm_r base b)) (rest := rest.map (xm_r base b)) ⟨hx, hbb, hml, hown, hts⟩ hM ⟨va_cnB na hts (xm_goodin hok.2.1) (by rw [xm_wsM, hret]) rfl rfl (hNw.1 _ _ _ _ hw) (hts _ hok.2.2.1) hok.2.2.2 ⟨Nat.le_trans hR.1 hf, Nat.le_trans hR.2 hlo⟩, hname, hts _ hin⟩ ⟨xm_blind, fun U hU hWm => ⟨rfl, by rw [hU]; exact hsz, by rw [hU]; exact hW, va_K.moved hWm.alike hK, by rw [hU]; exact (hX.kept (hS.2.1 b (Nat.lt_of_lt_of_le hbl hbs) (Nat.not_le.mpr hbl))).moved hWm.alike, hbl, hNw.moved hWm⟩⟩ rfl (by rw [List.length_map]; exact hla) hL.size (by subst hstk; simp [xm_r]) (by show 2 * 0 + _ ≤ 8; rw [xm_cats]; omega) hd ⟨by show cells + mc ≤ R.cells; omega, by show slots + ms ≤ R.slots; omega⟩
    · have hk2 := k v σ1 r σ' ho G base b L xs l p e R s m args below meth c H1 locs1 (cells + mc) (slots + ms) ls Q hC hf hlo (by omega) (by omega) hL hW1 (by rw [hKv]; omega) hS1 (fun H2 locs2 cells2 slots2 pc2 ls2 h1 h2 => kret H2 locs2 cells2 slots2 pc2 ls2 (by omega) (by omega))
      cases hem : emN v <;> rw [hem] at hk2 <;> exact hk2
theorem tb_oin : Cond.instanceMethod objectInit ∈ xm_tb := by decide +kernel
theorem tb_oco : Cond.code objectInit ⟨#[0xb1]⟩ 1 none ∈ xm_tb := by decide +kernel
theorem xs_oinit {kk : Nat} {o : Option (α × S)} (hd : decode M.2.1 pc = .ok (.invokespecial idx, 3)) (hn : pc + 3 = n) (hw : Cond.methodLink M.1.cls idx objectInit ∈ xm_tb) (hR : 1 ≤ M.2.2.2.2.1 ∧ (rest.map fun v => v.category).sum + 12 ≤ M.2.2.2.2.2) (k : xs_ em sg M n lv rest σ bc bs o) : xs_ em sg M pc lv (.ref kk :: rest) σ bc bs o := by
  subst hn
  intro r σ' ho G base b L xs l p e R s m args below meth c H locs cells slots ls Q hC hf hlo hc hs hL hW hz hS kret
  refine W.objInit hC.1 hC.2.1 hC.2.2.2.2.1 (hC.2.2.2.2.2.1 _ hw) (hC.2.2.2.2.2.1 _ tb_oin) (hC.2.2.2.2.2.1 _ tb_oco) (g := F0 m pc ls ((Value.ref kk :: rest).map (xm_r base b))) rfl (by show ls.size = _; rw [hL.size]; exact hC.2.2.2.1.symm) rfl hd (Nat.le_trans hR.1 hf) (by show 2 * 0 + _ + 12 ≤ _; rw [xm_cats]; omega) ?_
  exact k r σ' ho G base b L xs l p e R s m args below meth c H locs cells slots ls Q hC hf hlo hc hs hL hW hz hS kret
end XR_
end
section
/-! making objects and arrays -/
def xm_nw (σ : xm_S) (kd n : Nat) : xm_S := (σ.1 + 1, xm_u1 σ.2.1 σ.1 (kd, n), xm_u1 σ.2.2.1 σ.1 (fun _ => none), xm_u1 σ.2.2.2.1 σ.1 (fun _ => 0), xm_u1 σ.2.2.2.2 σ.1 (fun _ => 0))
theorem xm_push {G : xm_G} {base : Nat} {σ : xm_S} {kd n : Nat} {e : va_E} (he : xm_ent G base (xm_nw σ kd n) σ.1 = e) : xm_ws G base σ ++ [(base + σ.1, e)] = xm_ws G base (xm_nw σ kd n) := by
  unfold xm_ws
  show _ = List.map _ (List.range (σ.1 + 1))
  rw [List.range_succ, List.map_append, List.map_cons, List.map_nil, he]
  congr 1
  refine List.map_congr_left (fun k hk => ?_)
  have hne : k ≠ σ.1 := Nat.ne_of_lt (List.mem_range.mp hk)
  rw [xm_ent_congr (σ' := xm_nw σ kd n) (xm_u1_ne hne) (xm_u1_ne hne) (xm_u1_ne hne) (xm_u1_ne hne)]
theorem xm_fresh {G : xm_G} {base q : Nat} {σ : xm_S} {e : va_E} {H : Heap} (hD : va_D (fun q => base ≤ q) (xm_ws G base σ ++ [(q, e)])) (hP : va_P G.1 vwCl (xm_ws G base σ ++ [(q, e)]) H) (hz : H.size ≤ base + σ.1 + 1) : q = base + σ.1 := by
  have hl : (xm_ws G base σ).length = σ.1 := by simp [xm_ws]
  have h1 : (xm_ws G base σ ++ [(q, e)])[σ.1]? = some (q, e) := by
    rw [List.getElem?_append_right (by omega), hl]; simp
  have h2 := (hP _ _ h1).lt
  have h3 : base ≤ q := hD.2 _ _ h1
  dsimp only at h2
  by_cases hq : q = base + σ.1
  · exact hq
  · have hlt : q - base < σ.1 := by omega
    have h4 : (xm_ws G base σ ++ [(q, e)])[q - base]? = some (base + (q - base), xm_ent G base σ (q - base)) := by
      rw [List.getElem?_append_left (by omega)]
      exact xm_ws_at hlt
    have := hD.1 _ _ _ _ h4 h1 (by show base + (q - base) = q; omega)
    omega
def xm_fd (ci : Nat) (N : Nat) (ty : Nat → FieldType) : Prop := ∀ j, j < N → (xm_ft ci)[j]? = some (xm_tk (ty j)) ∧ xm_tk (ty j) ≠ 9
theorem xm_dflt {base : Nat} {σ : xm_S} {ci n N : Nat} {ty : Nat → FieldType} (h : xm_fd ci N ty) (j : Nat) (hj : j < N) : defaultValue (ty j) = vp_V ((xm_ft ci).mapIdx (fun j t => xm_val base (xm_nw σ ci n) σ.1 j t)) j := by
  obtain ⟨h1, h2⟩ := h j hj
  unfold vp_V
  rw [List.getD_eq_getElem?_getD, List.getElem?_mapIdx, h1]
  show _ = xm_val base (xm_nw σ ci n) σ.1 j (xm_tk (ty j))
  cases hq : ty j <;> rw [hq] at h2 <;> first | (exact absurd rfl h2) | (simp [xm_tk, xm_val, xm_nw, xm_u1, defaultValue, va_rf])
section XR_
variable {α S : Type} {em : α → Option Value} {sg : S → xm_S} {M : xm_M} {pc n idx bc bs bc' bs' : Nat} {lv : List (Option Value)} {st : List Value} {σ σ1 : S} {o : Option (α × S)}
theorem xs_new {ci N : Nat} {C : String} {T : u_T} {ty : Nat → FieldType} (hd : decode M.2.1 pc = .ok (.new idx, 3)) (hn : pc + 3 = n) (hw : Cond.classLink M.1.cls idx C ∈ xm_tb) (hinst : Cond.instantiable C N ∈ xm_tb) (hini : Cond.initialized C ∈ xm_tb) (hcl : xm_cl ci C T N ty) (hfd : xm_fd ci N ty) (h1 : sg σ1 = xm_nw (sg σ) ci 0) (hb : bc' + 1 ≤ bc ∧ bs' + N ≤ bs) (k : xs_ em sg M n lv (.ref (sg σ).1 :: st) σ1 bc' bs' o) : xs_ em sg M pc lv st σ bc bs o := by
  subst hn
  intro r σ' ho G base b L xs l p e R s m args below meth c H locs cells slots ls Q hC hf hlo hc hs hL hW hz hS kret
  refine va_new (ci := ci) (fs := (xm_ft ci).mapIdx (fun j t => xm_val base (xm_nw (sg σ) ci 0) (sg σ).1 j t)) hC.1 hC.2.1 hC.2.2.2.2.2.1 hcl.2.1 ty hcl.2.2.2.1 hC.2.2.2.2.1 (hC.2.2.2.2.2.1 _ hw) (hC.2.2.2.2.2.1 _ hinst) (hC.2.2.2.2.2.1 _ hini) hC.2.2.2.2.2.2.2.2.1 hW xm_D hS (fun q hq => Nat.le_trans hC.2.2.2.2.2.2.2.2.2.1 hq) hcl.1 (fun j hj => xm_dflt hfd j hj) (by omega) (by omega) hd (fun q H1 hP1 hD1 hS1 => ?_)
  intro T0 hT0 X0
  have hz1 : H1.size ≤ base + (sg σ).1 + 1 := by
    have : T0.heap.size ≤ s.heap.size + (cells + 1) := X0.same.2.2.1
    rw [hT0] at this
    omega
  have hq := xm_fresh hD1 hP1 hz1
  subst hq
  rw [xm_push (n := 0) (xm_ent_ob hcl.2.2.1 (by show xm_u1 _ _ _ _ = _; rw [xm_u1_eq]))] at hP1
  exact k r σ' ho G base b L xs l p e R s m args below meth c H1 locs (cells + 1) (slots + N) ls Q hC hf hlo (by omega) (by omega) hL (by rw [h1]; exact hP1) (by rw [h1]; show _ = base + ((sg σ).1 + 1); omega) hS1 (fun H2 locs2 cells2 slots2 pc2 ls2 h1 h2 => kret H2 locs2 cells2 slots2 pc2 ls2 (by omega) (by omega)) T0 hT0 X0
theorem tb_ar13 : Cond.arrayClass (newarray.typeOf .int) ∈ xm_tb := by decide +kernel
theorem xs_newa13 {nn : Int32} {N : Nat} (hd : decode M.2.1 pc = .ok (.newarray .int, 2)) (hn : pc + 2 = n) (h0 : ¬ nn < 0) (hN : nn.toNatClampNeg = N) (hby : N * componentBytes (newarray.typeOf .int) ≤ 536870912) (h1 : sg σ1 = xm_nw (sg σ) 13 N) (hb : bc' + 1 ≤ bc ∧ bs' + N ≤ bs) (k : xs_ em sg M n lv (.ref (sg σ).1 :: st) σ1 bc' bs' o) : xs_ em sg M pc lv (.int nn :: st) σ bc bs o := by
  subst hn
  intro r σ' ho G base b L xs l p e R s m args below meth c H locs cells slots ls Q hC hf hlo hc hs hL hW hz hS kret
  refine va_newa (a0 := (N, .inl (fun _ => 0))) hC.1 hC.2.1 (hC.2.2.2.2.2.1 _ tb_ar13) rfl hC.2.2.2.2.2.2.2.2.1 hW xm_D hS (fun q hq => Nat.le_trans hC.2.2.2.2.2.2.2.2.2.1 hq) (fun cA => rfl) h0 hN hby (by omega) (by omega) hd (fun q cA H1 hK1 hP1 hD1 hS1 => ?_)
  have hcA : cA = G.2.1 := by
    have e1 := (hK1.2 5 (cA, .int) rfl).2
    have e2 := (hC.2.2.2.2.2.2.2.2.1.2 0 (G.2.1, .int) rfl).2
    exact Option.some.inj ((show s.vm.findClass _ = some cA from e1).symm.trans (show s.vm.findClass _ = some _ from e2))
  subst hcA
  intro T0 hT0 X0
  have hz1 : H1.size ≤ base + (sg σ).1 + 1 := by
    have : T0.heap.size ≤ s.heap.size + (cells + 1) := X0.same.2.2.1
    rw [hT0] at this
    omega
  have hq := xm_fresh hD1 hP1 hz1
  subst hq
  rw [xm_push (kd := 13) (n := N) (by simp [xm_ent, xm_nw, xm_u1])] at hP1
  exact k r σ' ho G base b L xs l p e R s m args below meth c H1 locs (cells + 1) (slots + N) ls Q hC hf hlo (by omega) (by omega) hL (by rw [h1]; exact hP1) (by rw [h1]; show _ = base + ((sg σ).1 + 1); omega) hS1 (fun H2 locs2 cells2 slots2 pc2 ls2 h1 h2 => kret H2 locs2 cells2 slots2 pc2 ls2 (by omega) (by omega)) T0 hT0 X0
theorem tb_ar14 : Cond.arrayClass (newarray.typeOf .long) ∈ xm_tb := by decide +kernel
theorem xs_newa14 {nn : Int32} {N : Nat} (hd : decode M.2.1 pc = .ok (.newarray .long, 2)) (hn : pc + 2 = n) (h0 : ¬ nn < 0) (hN : nn.toNatClampNeg = N) (hby : N * componentBytes (newarray.typeOf .long) ≤ 536870912) (h1 : sg σ1 = xm_nw (sg σ) 14 N) (hb : bc' + 1 ≤ bc ∧ bs' + N ≤ bs) (k : xs_ em sg M n lv (.ref (sg σ).1 :: st) σ1 bc' bs' o) : xs_ em sg M pc lv (.int nn :: st) σ bc bs o := by
  subst hn
  intro r σ' ho G base b L xs l p e R s m args below meth c H locs cells slots ls Q hC hf hlo hc hs hL hW hz hS kret
  refine va_newa (a0 := (N, .inr (.inl (fun _ => 0)))) hC.1 hC.2.1 (hC.2.2.2.2.2.1 _ tb_ar14) rfl hC.2.2.2.2.2.2.2.2.1 hW xm_D hS (fun q hq => Nat.le_trans hC.2.2.2.2.2.2.2.2.2.1 hq) (fun cA => rfl) h0 hN hby (by omega) (by omega) hd (fun q cA H1 hK1 hP1 hD1 hS1 => ?_)
  have hcA : cA = G.2.2.1 := by
    have e1 := (hK1.2 5 (cA, .long) rfl).2
    have e2 := (hC.2.2.2.2.2.2.2.2.1.2 1 (G.2.2.1, .long) rfl).2
    exact Option.some.inj ((show s.vm.findClass _ = some cA from e1).symm.trans (show s.vm.findClass _ = some _ from e2))
  subst hcA
  intro T0 hT0 X0
  have hz1 : H1.size ≤ base + (sg σ).1 + 1 := by
    have : T0.heap.size ≤ s.heap.size + (cells + 1) := X0.same.2.2.1
    rw [hT0] at this
    omega
  have hq := xm_fresh hD1 hP1 hz1
  subst hq
  rw [xm_push (kd := 14) (n := N) (by simp [xm_ent, xm_nw, xm_u1])] at hP1
  exact k r σ' ho G base b L xs l p e R s m args below meth c H1 locs (cells + 1) (slots + N) ls Q hC hf hlo (by omega) (by omega) hL (by rw [h1]; exact hP1) (by rw [h1]; show _ = base + ((sg σ).1 + 1); omega) hS1 (fun H2 locs2 cells2 slots2 pc2 ls2 h1 h2 => kret H2 locs2 cells2 slots2 pc2 ls2 (by omega) (by omega)) T0 hT0 X0
theorem tb_ar15 : Cond.arrayClass (newarray.typeOf .boolean) ∈ xm_tb := by decide +kernel
theorem xs_newa15 {nn : Int32} {N : Nat} (hd : decode M.2.1 pc = .ok (.newarray .boolean, 2)) (hn : pc + 2 = n) (h0 : ¬ nn < 0) (hN : nn.toNatClampNeg = N) (hby : N * componentBytes (newarray.typeOf .boolean) ≤ 536870912) (h1 : sg σ1 = xm_nw (sg σ) 15 N) (hb : bc' + 1 ≤ bc ∧ bs' + N ≤ bs) (k : xs_ em sg M n lv (.ref (sg σ).1 :: st) σ1 bc' bs' o) : xs_ em sg M pc lv (.int nn :: st) σ bc bs o := by
  subst hn
  intro r σ' ho G base b L xs l p e R s m args below meth c H locs cells slots ls Q hC hf hlo hc hs hL hW hz hS kret
  refine va_newa (a0 := (N, .inl (fun _ => 0))) hC.1 hC.2.1 (hC.2.2.2.2.2.1 _ tb_ar15) rfl hC.2.2.2.2.2.2.2.2.1 hW xm_D hS (fun q hq => Nat.le_trans hC.2.2.2.2.2.2.2.2.2.1 hq) (fun cA => rfl) h0 hN hby (by omega) (by omega) hd (fun q cA H1 hK1 hP1 hD1 hS1 => ?_)
  have hcA : cA = G.2.2.2.1 := by
    have e1 := (hK1.2 5 (cA, .boolean) rfl).2
    have e2 := (hC.2.2.2.2.2.2.2.2.1.2 2 (G.2.2.2.1, .boolean) rfl).2
    exact Option.some.inj ((show s.vm.findClass _ = some cA from e1).symm.trans (show s.vm.findClass _ = some _ from e2))
  subst hcA
  intro T0 hT0 X0
  have hz1 : H1.size ≤ base + (sg σ).1 + 1 := by
    have : T0.heap.size ≤ s.heap.size + (cells + 1) := X0.same.2.2.1
    rw [hT0] at this
    omega
  have hq := xm_fresh hD1 hP1 hz1
  subst hq
  rw [xm_push (kd := 15) (n := N) (by simp [xm_ent, xm_nw, xm_u1])] at hP1
  exact k r σ' ho G base b L xs l p e R s m args below meth c H1 locs (cells + 1) (slots + N) ls Q hC hf hlo (by omega) (by omega) hL (by rw [h1]; exact hP1) (by rw [h1]; show _ = base + ((sg σ).1 + 1); omega) hS1 (fun H2 locs2 cells2 slots2 pc2 ls2 h1 h2 => kret H2 locs2 cells2 slots2 pc2 ls2 (by omega) (by omega)) T0 hT0 X0
theorem xs_newq16 {nn : Int32} {N : Nat} (hd : decode M.2.1 pc = .ok (.anewarray idx, 3)) (hn : pc + 3 = n) (hw : Cond.classLink M.1.cls idx RX0 ∈ xm_tb) (h0 : ¬ nn < 0) (hN : nn.toNatClampNeg = N) (hby : N * 4 ≤ 536870912) (h1 : sg σ1 = xm_nw (sg σ) 16 N) (hb : bc' + 1 ≤ bc ∧ bs' + N ≤ bs) (k : xs_ em sg M n lv (.ref (sg σ).1 :: st) σ1 bc' bs' o) : xs_ em sg M pc lv (.int nn :: st) σ bc bs o := by
  subst hn
  intro r σ' ho G base b L xs l p e R s m args below meth c H locs cells slots ls Q hC hf hlo hc hs hL hW hz hS kret
  refine va_newq hC.1 hC.2.1 hC.2.2.2.2.1 (hC.2.2.2.2.2.1 _ hw) hC.2.2.2.2.2.2.2.2.2.2.2.2.2.1 hC.2.2.2.2.2.2.2.2.1 hW xm_D hS (fun q hq => Nat.le_trans hC.2.2.2.2.2.2.2.2.2.1 hq) h0 hN hby (by omega) (by omega) hd (fun q cA H1 hK1 hP1 hD1 hS1 => ?_)
  have hcA : cA = G.2.2.2.2.1 := by
    obtain ⟨_, _, _, _, _, e1⟩ := (hK1.2 5 (cA, .object RX0) rfl).2
    obtain ⟨_, _, _, _, _, e2⟩ := (hC.2.2.2.2.2.2.2.2.1.2 3 (G.2.2.2.2.1, .object RX0) rfl).2
    exact Option.some.inj (e1.symm.trans e2)
  subst hcA
  intro T0 hT0 X0
  have hz1 : H1.size ≤ base + (sg σ).1 + 1 := by
    have : T0.heap.size ≤ s.heap.size + (cells + 1) := X0.same.2.2.1
    rw [hT0] at this
    omega
  have hq := xm_fresh hD1 hP1 hz1
  subst hq
  rw [xm_push (kd := 16) (n := N) (by simp [xm_ent, xm_nw, xm_u1])] at hP1
  exact k r σ' ho G base b L xs l p e R s m args below meth c H1 locs (cells + 1) (slots + N) ls Q hC hf hlo (by omega) (by omega) hL (by rw [h1]; exact hP1) (by rw [h1]; show _ = base + ((sg σ).1 + 1); omega) hS1 (fun H2 locs2 cells2 slots2 pc2 ls2 h1 h2 => kret H2 locs2 cells2 slots2 pc2 ls2 (by omega) (by omega)) T0 hT0 X0
theorem xs_newq17 {nn : Int32} {N : Nat} (hd : decode M.2.1 pc = .ok (.anewarray idx, 3)) (hn : pc + 3 = n) (hw : Cond.classLink M.1.cls idx RX1 ∈ xm_tb) (h0 : ¬ nn < 0) (hN : nn.toNatClampNeg = N) (hby : N * 4 ≤ 536870912) (h1 : sg σ1 = xm_nw (sg σ) 17 N) (hb : bc' + 1 ≤ bc ∧ bs' + N ≤ bs) (k : xs_ em sg M n lv (.ref (sg σ).1 :: st) σ1 bc' bs' o) : xs_ em sg M pc lv (.int nn :: st) σ bc bs o := by
  subst hn
  intro r σ' ho G base b L xs l p e R s m args below meth c H locs cells slots ls Q hC hf hlo hc hs hL hW hz hS kret
  refine va_newq hC.1 hC.2.1 hC.2.2.2.2.1 (hC.2.2.2.2.2.1 _ hw) hC.2.2.2.2.2.2.2.2.2.2.2.2.2.2 hC.2.2.2.2.2.2.2.2.1 hW xm_D hS (fun q hq => Nat.le_trans hC.2.2.2.2.2.2.2.2.2.1 hq) h0 hN hby (by omega) (by omega) hd (fun q cA H1 hK1 hP1 hD1 hS1 => ?_)
  have hcA : cA = G.2.2.2.2.2 := by
    obtain ⟨_, _, _, _, _, e1⟩ := (hK1.2 5 (cA, .object RX1) rfl).2
    obtain ⟨_, _, _, _, _, e2⟩ := (hC.2.2.2.2.2.2.2.2.1.2 4 (G.2.2.2.2.2, .object RX1) rfl).2
    exact Option.some.inj (e1.symm.trans e2)
  subst hcA
  intro T0 hT0 X0
  have hz1 : H1.size ≤ base + (sg σ).1 + 1 := by
    have : T0.heap.size ≤ s.heap.size + (cells + 1) := X0.same.2.2.1
    rw [hT0] at this
    omega
  have hq := xm_fresh hD1 hP1 hz1
  subst hq
  rw [xm_push (kd := 17) (n := N) (by simp [xm_ent, xm_nw, xm_u1])] at hP1
  exact k r σ' ho G base b L xs l p e R s m args below meth c H1 locs (cells + 1) (slots + N) ls Q hC hf hlo (by omega) (by omega) hL (by rw [h1]; exact hP1) (by rw [h1]; show _ = base + ((sg σ).1 + 1); omega) hS1 (fun H2 locs2 cells2 slots2 pc2 ls2 h1 h2 => kret H2 locs2 cells2 slots2 pc2 ls2 (by omega) (by omega)) T0 hT0 X0
end XR_
end
section
/-! the cells as they lie behind the two constructors -/
def sl_sh : List (Nat × Nat) := [(11,0), (7,0), (17,5), (1,0), (16,6), (16,3), (6,0), (14,512), (14,3), (0,0), (13,3), (0,0), (13,3), (0,0), (13,3), (0,0), (13,3), (0,0), (13,3), (0,0), (13,3), (0,0), (13,3), (0,0), (13,3), (0,0), (13,3), (1,0), (16,6), (16,3), (6,0), (14,512), (14,3), (0,0), (13,3), (0,0), (13,3), (0,0), (13,3), (0,0), (13,3), (0,0), (13,3), (0,0), (13,3), (0,0), (13,3), (0,0), (13,3), (0,0), (13,3), (1,0), (16,6), (16,3), (6,0), (14,512), (14,3), (0,0), (13,3), (0,0), (13,3), (0,0), (13,3), (0,0), (13,3), (0,0), (13,3), (0,0), (13,3), (0,0), (13,3), (0,0), (13,3), (0,0), (13,3), (1,0), (16,6), (16,3), (6,0), (14,512), (14,3), (0,0), (13,3), (0,0), (13,3), (0,0), (13,3), (0,0), (13,3), (0,0), (13,3), (0,0), (13,3), (0,0), (13,3), (0,0), (13,3), (0,0), (13,3), (1,0), (16,6), (16,3), (6,0), (14,512), (14,3), (0,0), (13,3), (0,0), (13,3), (0,0), (13,3), (0,0), (13,3), (0,0), (13,3), (0,0), (13,3), (0,0), (13,3), (0,0), (13,3), (0,0), (13,3), (14,3), (4,0), (14,3), (14,3), (2,0), (14,6), (2,0), (14,6), (8,0), (2,0), (14,6), (2,0), (14,6), (9,0), (14,48), (14,4), (5,0), (10,0), (13,3), (13,15), (13,5), (13,3), (13,3), (3,0), (14,40), (14,1000), (13,2048), (12,0), (13,5), (13,120), (13,60), (14,3), (14,6), (15,6), (14,6), (15,6), (14,48), (14,3), (13,15), (13,3), (13,5), (15,5), (14,30003), (13,32768), (14,3), (14,3), (14,6), (15,6), (14,6), (15,6), (13,40), (13,40), (13,40), (13,1001), (13,1001), (13,1001), (13,16), (13,16), (14,3), (13,3)]
def sl_rf : List (List (Option Nat)) := [[some 1, some 123, some 124, some 127, some 129, some 131, some 136, some 139, some 145, some 146], [some 2, none, none], [some 3, some 27, some 51, some 75, some 99], [some 4, some 5, some 6, some 8, none], [some 9, some 11, some 13, some 15, some 17, some 19], [some 21, some 23, some 25], [some 7, none, none, none], [], [], [some 10, none], [], [some 12, none], [], [some 14, none], [], [some 16, none], [], [some 18, none], [], [some 20, none], [], [some 22, none], [], [some 24, none], [], [some 26, none], [], [some 28, some 29, some 30, some 32, none], [some 33, some 35, some 37, some 39, some 41, some 43], [some 45, some 47, some 49], [some 31, none, none, none], [], [], [some 34, none], [], [some 36, none], [], [some 38, none], [], [some 40, none], [], [some 42, none], [], [some 44, none], [], [some 46, none], [], [some 48, none], [], [some 50, none], [], [some 52, some 53, some 54, some 56, none], [some 57, some 59, some 61, some 63, some 65, some 67], [some 69, some 71, some 73], [some 55, none, none, none], [], [], [some 58, none], [], [some 60, none], [], [some 62, none], [], [some 64, none], [], [some 66, none], [], [some 68, none], [], [some 70, none], [], [some 72, none], [], [some 74, none], [], [some 76, some 77, some 78, some 80, none], [some 81, some 83, some 85, some 87, some 89, some 91], [some 93, some 95, some 97], [some 79, none, none, none], [], [], [some 82, none], [], [some 84, none], [], [some 86, none], [], [some 88, none], [], [some 90, none], [], [some 92, none], [], [some 94, none], [], [some 96, none], [], [some 98, none], [], [some 100, some 101, some 102, some 104, none], [some 105, some 107, some 109, some 111, some 113, some 115], [some 117, some 119, some 121], [some 103, none, none, none], [], [], [some 106, none], [], [some 108, none], [], [some 110, none], [], [some 112, none], [], [some 114, none], [], [some 116, none], [], [some 118, none], [], [some 120, none], [], [some 122, none], [], [], [some 125, some 126, none], [], [], [some 128], [], [some 130], [], [some 132, some 134], [some 133], [], [some 135], [], [some 137, none, none, some 138], [], [], [some 140, some 142, none, some 143, some 144, none, none], [some 141, none, none, none, none, none], [], [], [], [], [], [some 147, none, some 148, none, some 149, none, none, none], [], [], [], [none, none, some 151, some 152, some 153, some 154, some 155, some 156, some 157, some 158, some 159, none, some 160, none, none, none, none, none, some 161, none, some 162, none, some 163, some 164, some 165, some 166, none, some 167, some 168, some 169, some 170, some 171, some 172, some 173, some 174, some 175, none, some 176, some 177, some 178, none, none, none, none, some 179, some 180, some 181, some 182, none, none], [], [], [], [], [], [], [], [], [], [], [], [], [], [], [], [], [], [], [], [], [], [], [], [], [], [], [], [], [], [], [], []]
def sl_S (k : Nat) : Nat × Nat := sl_sh.getD k (18, 0)
def sl_R (k j : Nat) : Option Nat := (sl_rf.getD k []).getD j none
abbrev xm_Y : Type := (Nat → Nat → Int32) × (Nat → Nat → Int64)
abbrev sg_0 (μ : xm_Y) : xm_S := (183, sl_S, sl_R, μ.1, μ.2)
def w_I (μ : xm_Y) (k j : Nat) (v : Int32) : xm_Y := (xm_u2 μ.1 k j v, μ.2)
def w_J (μ : xm_Y) (k j : Nat) (v : Int64) : xm_Y := (μ.1, xm_u2 μ.2 k j v)
def cp_I (μ : xm_Y) (k0 k1 sp dp n : Nat) : xm_Y := (xm_u1 μ.1 k1 (va_cpy (μ.1 k0) (μ.1 k1) sp dp n), μ.2)
def cp_J (μ : xm_Y) (k0 k1 sp dp n : Nat) : xm_Y := (μ.1, xm_u1 μ.2 k1 (va_cpy (μ.2 k0) (μ.2 k1) sp dp n))
def xsh_ (k kd n : Nat) : Prop := k < 183 ∧ sl_S k = (kd, n)
theorem xsh_.is {k kd n : Nat} (h : xsh_ k kd n) (μ : xm_Y) : xm_is (sg_0 μ) k kd n := h
theorem sh_0 : xsh_ 0 11 0 := ⟨by decide, rfl⟩
theorem sh_1 : xsh_ 1 7 0 := ⟨by decide, rfl⟩
theorem sh_2 : xsh_ 2 17 5 := ⟨by decide, rfl⟩
theorem sh_3 : xsh_ 3 1 0 := ⟨by decide, rfl⟩
theorem sh_4 : xsh_ 4 16 6 := ⟨by decide, rfl⟩
theorem sh_5 : xsh_ 5 16 3 := ⟨by decide, rfl⟩
theorem sh_6 : xsh_ 6 6 0 := ⟨by decide, rfl⟩
theorem sh_7 : xsh_ 7 14 512 := ⟨by decide, rfl⟩
theorem sh_8 : xsh_ 8 14 3 := ⟨by decide, rfl⟩
theorem sh_9 : xsh_ 9 0 0 := ⟨by decide, rfl⟩
theorem sh_10 : xsh_ 10 13 3 := ⟨by decide, rfl⟩
theorem sh_11 : xsh_ 11 0 0 := ⟨by decide, rfl⟩
theorem sh_12 : xsh_ 12 13 3 := ⟨by decide, rfl⟩
theorem sh_13 : xsh_ 13 0 0 := ⟨by decide, rfl⟩
theorem sh_14 : xsh_ 14 13 3 := ⟨by decide, rfl⟩
theorem sh_15 : xsh_ 15 0 0 := ⟨by decide, rfl⟩
theorem sh_16 : xsh_ 16 13 3 := ⟨by decide, rfl⟩
theorem sh_17 : xsh_ 17 0 0 := ⟨by decide, rfl⟩
theorem sh_18 : xsh_ 18 13 3 := ⟨by decide, rfl⟩
theorem sh_19 : xsh_ 19 0 0 := ⟨by decide, rfl⟩
theorem sh_20 : xsh_ 20 13 3 := ⟨by decide, rfl⟩
theorem sh_21 : xsh_ 21 0 0 := ⟨by decide, rfl⟩
theorem sh_22 : xsh_ 22 13 3 := ⟨by decide, rfl⟩
theorem sh_23 : xsh_ 23 0 0 := ⟨by decide, rfl⟩
theorem sh_24 : xsh_ 24 13 3 := ⟨by decide, rfl⟩
theorem sh_25 : xsh_ 25 0 0 := ⟨by decide, rfl⟩
theorem sh_26 : xsh_ 26 13 3 := ⟨by decide, rfl⟩
theorem sh_27 : xsh_ 27 1 0 := ⟨by decide, rfl⟩
theorem sh_28 : xsh_ 28 16 6 := ⟨by decide, rfl⟩
theorem sh_29 : xsh_ 29 16 3 := ⟨by decide, rfl⟩
theorem sh_30 : xsh_ 30 6 0 := ⟨by decide, rfl⟩
theorem sh_31 : xsh_ 31 14 512 := ⟨by decide, rfl⟩
theorem sh_32 : xsh_ 32 14 3 := ⟨by decide, rfl⟩
theorem sh_33 : xsh_ 33 0 0 := ⟨by decide, rfl⟩
theorem sh_34 : xsh_ 34 13 3 := ⟨by decide, rfl⟩
theorem sh_35 : xsh_ 35 0 0 := ⟨by decide, rfl⟩
theorem sh_36 : xsh_ 36 13 3 := ⟨by decide, rfl⟩
theorem sh_37 : xsh_ 37 0 0 := ⟨by decide, rfl⟩
theorem sh_38 : xsh_ 38 13 3 := ⟨by decide, rfl⟩
theorem sh_39 : xsh_ 39 0 0 := ⟨by decide, rfl⟩
theorem sh_40 : xsh_ 40 13 3 := ⟨by decide, rfl⟩
theorem sh_41 : xsh_ 41 0 0 := ⟨by decide, rfl⟩
theorem sh_42 : xsh_ 42 13 3 := ⟨by decide, rfl⟩
theorem sh_43 : xsh_ 43 0 0 := ⟨by decide, rfl⟩
theorem sh_44 : xsh_ 44 13 3 := ⟨by decide, rfl⟩
theorem sh_45 : xsh_ 45 0 0 := ⟨by decide, rfl⟩
theorem sh_46 : xsh_ 46 13 3 := ⟨by decide, rfl⟩
theorem sh_47 : xsh_ 47 0 0 := ⟨by decide, rfl⟩
theorem sh_48 : xsh_ 48 13 3 := ⟨by decide, rfl⟩
theorem sh_49 : xsh_ 49 0 0 := ⟨by decide, rfl⟩
theorem sh_50 : xsh_ 50 13 3 := ⟨by decide, rfl⟩
theorem sh_51 : xsh_ 51 1 0 := ⟨by decide, rfl⟩
theorem sh_52 : xsh_ 52 16 6 := ⟨by decide, rfl⟩
theorem sh_53 : xsh_ 53 16 3 := ⟨by decide, rfl⟩
theorem sh_54 : xsh_ 54 6 0 := ⟨by decide, rfl⟩
theorem sh_55 : xsh_ 55 14 512 := ⟨by decide, rfl⟩
theorem sh_56 : xsh_ 56 14 3 := ⟨by decide, rfl⟩
theorem sh_57 : xsh_ 57 0 0 := ⟨by decide, rfl⟩
theorem sh_58 : xsh_ 58 13 3 := ⟨by decide, rfl⟩
theorem sh_59 : xsh_ 59 0 0 := ⟨by decide, rfl⟩
theorem sh_60 : xsh_ 60 13 3 := ⟨by decide, rfl⟩
theorem sh_61 : xsh_ 61 0 0 := ⟨by decide, rfl⟩
theorem sh_62 : xsh_ 62 13 3 := ⟨by decide, rfl⟩
theorem sh_63 : xsh_ 63 0 0 := ⟨by decide, rfl⟩
theorem sh_64 : xsh_ 64 13 3 := ⟨by decide, rfl⟩
theorem sh_65 : xsh_ 65 0 0 := ⟨by decide, rfl⟩
theorem sh_66 : xsh_ 66 13 3 := ⟨by decide, rfl⟩
theorem sh_67 : xsh_ 67 0 0 := ⟨by decide, rfl⟩
theorem sh_68 : xsh_ 68 13 3 := ⟨by decide, rfl⟩
theorem sh_69 : xsh_ 69 0 0 := ⟨by decide, rfl⟩
theorem sh_70 : xsh_ 70 13 3 := ⟨by decide, rfl⟩
theorem sh_71 : xsh_ 71 0 0 := ⟨by decide, rfl⟩
theorem sh_72 : xsh_ 72 13 3 := ⟨by decide, rfl⟩
theorem sh_73 : xsh_ 73 0 0 := ⟨by decide, rfl⟩
theorem sh_74 : xsh_ 74 13 3 := ⟨by decide, rfl⟩
theorem sh_75 : xsh_ 75 1 0 := ⟨by decide, rfl⟩
theorem sh_76 : xsh_ 76 16 6 := ⟨by decide, rfl⟩
theorem sh_77 : xsh_ 77 16 3 := ⟨by decide, rfl⟩
theorem sh_78 : xsh_ 78 6 0 := ⟨by decide, rfl⟩
theorem sh_79 : xsh_ 79 14 512 := ⟨by decide, rfl⟩
theorem sh_80 : xsh_ 80 14 3 := ⟨by decide, rfl⟩
theorem sh_81 : xsh_ 81 0 0 := ⟨by decide, rfl⟩
theorem sh_82 : xsh_ 82 13 3 := ⟨by decide, rfl⟩
theorem sh_83 : xsh_ 83 0 0 := ⟨by decide, rfl⟩
theorem sh_84 : xsh_ 84 13 3 := ⟨by decide, rfl⟩
theorem sh_85 : xsh_ 85 0 0 := ⟨by decide, rfl⟩
theorem sh_86 : xsh_ 86 13 3 := ⟨by decide, rfl⟩
theorem sh_87 : xsh_ 87 0 0 := ⟨by decide, rfl⟩
theorem sh_88 : xsh_ 88 13 3 := ⟨by decide, rfl⟩
theorem sh_89 : xsh_ 89 0 0 := ⟨by decide, rfl⟩
theorem sh_90 : xsh_ 90 13 3 := ⟨by decide, rfl⟩
theorem sh_91 : xsh_ 91 0 0 := ⟨by decide, rfl⟩
theorem sh_92 : xsh_ 92 13 3 := ⟨by decide, rfl⟩
theorem sh_93 : xsh_ 93 0 0 := ⟨by decide, rfl⟩
theorem sh_94 : xsh_ 94 13 3 := ⟨by decide, rfl⟩
theorem sh_95 : xsh_ 95 0 0 := ⟨by decide, rfl⟩
theorem sh_96 : xsh_ 96 13 3 := ⟨by decide, rfl⟩
theorem sh_97 : xsh_ 97 0 0 := ⟨by decide, rfl⟩
theorem sh_98 : xsh_ 98 13 3 := ⟨by decide, rfl⟩
theorem sh_99 : xsh_ 99 1 0 := ⟨by decide, rfl⟩
theorem sh_100 : xsh_ 100 16 6 := ⟨by decide, rfl⟩
theorem sh_101 : xsh_ 101 16 3 := ⟨by decide, rfl⟩
theorem sh_102 : xsh_ 102 6 0 := ⟨by decide, rfl⟩
theorem sh_103 : xsh_ 103 14 512 := ⟨by decide, rfl⟩
theorem sh_104 : xsh_ 104 14 3 := ⟨by decide, rfl⟩
theorem sh_105 : xsh_ 105 0 0 := ⟨by decide, rfl⟩
theorem sh_106 : xsh_ 106 13 3 := ⟨by decide, rfl⟩
theorem sh_107 : xsh_ 107 0 0 := ⟨by decide, rfl⟩
theorem sh_108 : xsh_ 108 13 3 := ⟨by decide, rfl⟩
theorem sh_109 : xsh_ 109 0 0 := ⟨by decide, rfl⟩
theorem sh_110 : xsh_ 110 13 3 := ⟨by decide, rfl⟩
theorem sh_111 : xsh_ 111 0 0 := ⟨by decide, rfl⟩
theorem sh_112 : xsh_ 112 13 3 := ⟨by decide, rfl⟩
theorem sh_113 : xsh_ 113 0 0 := ⟨by decide, rfl⟩
theorem sh_114 : xsh_ 114 13 3 := ⟨by decide, rfl⟩
theorem sh_115 : xsh_ 115 0 0 := ⟨by decide, rfl⟩
theorem sh_116 : xsh_ 116 13 3 := ⟨by decide, rfl⟩
theorem sh_117 : xsh_ 117 0 0 := ⟨by decide, rfl⟩
theorem sh_118 : xsh_ 118 13 3 := ⟨by decide, rfl⟩
theorem sh_119 : xsh_ 119 0 0 := ⟨by decide, rfl⟩
theorem sh_120 : xsh_ 120 13 3 := ⟨by decide, rfl⟩
theorem sh_121 : xsh_ 121 0 0 := ⟨by decide, rfl⟩
theorem sh_122 : xsh_ 122 13 3 := ⟨by decide, rfl⟩
theorem sh_123 : xsh_ 123 14 3 := ⟨by decide, rfl⟩
theorem sh_124 : xsh_ 124 4 0 := ⟨by decide, rfl⟩
theorem sh_125 : xsh_ 125 14 3 := ⟨by decide, rfl⟩
theorem sh_126 : xsh_ 126 14 3 := ⟨by decide, rfl⟩
theorem sh_127 : xsh_ 127 2 0 := ⟨by decide, rfl⟩
theorem sh_128 : xsh_ 128 14 6 := ⟨by decide, rfl⟩
theorem sh_129 : xsh_ 129 2 0 := ⟨by decide, rfl⟩
theorem sh_130 : xsh_ 130 14 6 := ⟨by decide, rfl⟩
theorem sh_131 : xsh_ 131 8 0 := ⟨by decide, rfl⟩
theorem sh_132 : xsh_ 132 2 0 := ⟨by decide, rfl⟩
theorem sh_133 : xsh_ 133 14 6 := ⟨by decide, rfl⟩
theorem sh_134 : xsh_ 134 2 0 := ⟨by decide, rfl⟩
theorem sh_135 : xsh_ 135 14 6 := ⟨by decide, rfl⟩
theorem sh_136 : xsh_ 136 9 0 := ⟨by decide, rfl⟩
theorem sh_137 : xsh_ 137 14 48 := ⟨by decide, rfl⟩
theorem sh_138 : xsh_ 138 14 4 := ⟨by decide, rfl⟩
theorem sh_139 : xsh_ 139 5 0 := ⟨by decide, rfl⟩
theorem sh_140 : xsh_ 140 10 0 := ⟨by decide, rfl⟩
theorem sh_141 : xsh_ 141 13 3 := ⟨by decide, rfl⟩
theorem sh_142 : xsh_ 142 13 15 := ⟨by decide, rfl⟩
theorem sh_143 : xsh_ 143 13 5 := ⟨by decide, rfl⟩
theorem sh_144 : xsh_ 144 13 3 := ⟨by decide, rfl⟩
theorem sh_145 : xsh_ 145 13 3 := ⟨by decide, rfl⟩
theorem sh_146 : xsh_ 146 3 0 := ⟨by decide, rfl⟩
theorem sh_147 : xsh_ 147 14 40 := ⟨by decide, rfl⟩
theorem sh_148 : xsh_ 148 14 1000 := ⟨by decide, rfl⟩
theorem sh_149 : xsh_ 149 13 2048 := ⟨by decide, rfl⟩
theorem sh_150 : xsh_ 150 12 0 := ⟨by decide, rfl⟩
theorem sh_151 : xsh_ 151 13 5 := ⟨by decide, rfl⟩
theorem sh_152 : xsh_ 152 13 120 := ⟨by decide, rfl⟩
theorem sh_153 : xsh_ 153 13 60 := ⟨by decide, rfl⟩
theorem sh_154 : xsh_ 154 14 3 := ⟨by decide, rfl⟩
theorem sh_155 : xsh_ 155 14 6 := ⟨by decide, rfl⟩
theorem sh_156 : xsh_ 156 15 6 := ⟨by decide, rfl⟩
theorem sh_157 : xsh_ 157 14 6 := ⟨by decide, rfl⟩
theorem sh_158 : xsh_ 158 15 6 := ⟨by decide, rfl⟩
theorem sh_159 : xsh_ 159 14 48 := ⟨by decide, rfl⟩
theorem sh_160 : xsh_ 160 14 3 := ⟨by decide, rfl⟩
theorem sh_161 : xsh_ 161 13 15 := ⟨by decide, rfl⟩
theorem sh_162 : xsh_ 162 13 3 := ⟨by decide, rfl⟩
theorem sh_163 : xsh_ 163 13 5 := ⟨by decide, rfl⟩
theorem sh_164 : xsh_ 164 15 5 := ⟨by decide, rfl⟩
theorem sh_165 : xsh_ 165 14 30003 := ⟨by decide, rfl⟩
theorem sh_166 : xsh_ 166 13 32768 := ⟨by decide, rfl⟩
theorem sh_167 : xsh_ 167 14 3 := ⟨by decide, rfl⟩
theorem sh_168 : xsh_ 168 14 3 := ⟨by decide, rfl⟩
theorem sh_169 : xsh_ 169 14 6 := ⟨by decide, rfl⟩
theorem sh_170 : xsh_ 170 15 6 := ⟨by decide, rfl⟩
theorem sh_171 : xsh_ 171 14 6 := ⟨by decide, rfl⟩
theorem sh_172 : xsh_ 172 15 6 := ⟨by decide, rfl⟩
theorem sh_173 : xsh_ 173 13 40 := ⟨by decide, rfl⟩
theorem sh_174 : xsh_ 174 13 40 := ⟨by decide, rfl⟩
theorem sh_175 : xsh_ 175 13 40 := ⟨by decide, rfl⟩
theorem sh_176 : xsh_ 176 13 1001 := ⟨by decide, rfl⟩
theorem sh_177 : xsh_ 177 13 1001 := ⟨by decide, rfl⟩
theorem sh_178 : xsh_ 178 13 1001 := ⟨by decide, rfl⟩
theorem sh_179 : xsh_ 179 13 16 := ⟨by decide, rfl⟩
theorem sh_180 : xsh_ 180 13 16 := ⟨by decide, rfl⟩
theorem sh_181 : xsh_ 181 14 3 := ⟨by decide, rfl⟩
theorem sh_182 : xsh_ 182 13 3 := ⟨by decide, rfl⟩
def af_ok (a : Nat) : Prop := xsh_ a 0 0 ∧ sl_R a 0 = some (a + 1) ∧ xsh_ (a + 1) 13 3
def bx_ok (o : Nat) : Prop := xsh_ o 2 0 ∧ sl_R o 0 = some (o + 1) ∧ xsh_ (o + 1) 14 6
theorem lt5_ {b : Nat} (h : b < 5) : b = 0 ∨ b = 1 ∨ b = 2 ∨ b = 3 ∨ b = 4 := by omega
theorem lt6_ {b : Nat} (h : b < 6) : b = 0 ∨ b = 1 ∨ b = 2 ∨ b = 3 ∨ b = 4 ∨ b = 5 := by omega
theorem lt3_ {b : Nat} (h : b < 3) : b = 0 ∨ b = 1 ∨ b = 2 := by omega
theorem bd_s {bb : Nat} (h : bb < 5) : xsh_ (3 + 24 * bb) 1 0 := by rcases lt5_ h with rfl | rfl | rfl | rfl | rfl <;> exact ⟨by decide, rfl⟩
theorem bd_r0 {bb : Nat} (h : bb < 5) : sl_R (3 + 24 * bb) 0 = some (4 + 24 * bb) := by rcases lt5_ h with rfl | rfl | rfl | rfl | rfl <;> exact rfl
theorem bd_r1 {bb : Nat} (h : bb < 5) : sl_R (3 + 24 * bb) 1 = some (5 + 24 * bb) := by rcases lt5_ h with rfl | rfl | rfl | rfl | rfl <;> exact rfl
theorem bd_r2 {bb : Nat} (h : bb < 5) : sl_R (3 + 24 * bb) 2 = some (6 + 24 * bb) := by rcases lt5_ h with rfl | rfl | rfl | rfl | rfl <;> exact rfl
theorem bd_r3 {bb : Nat} (h : bb < 5) : sl_R (3 + 24 * bb) 3 = some (8 + 24 * bb) := by rcases lt5_ h with rfl | rfl | rfl | rfl | rfl <;> exact rfl
theorem bg_s {bb : Nat} (h : bb < 5) : xsh_ (4 + 24 * bb) 16 6 := by rcases lt5_ h with rfl | rfl | rfl | rfl | rfl <;> exact ⟨by decide, rfl⟩
theorem br_s {bb : Nat} (h : bb < 5) : xsh_ (5 + 24 * bb) 16 3 := by rcases lt5_ h with rfl | rfl | rfl | rfl | rfl <;> exact ⟨by decide, rfl⟩
theorem bp_s {bb : Nat} (h : bb < 5) : xsh_ (6 + 24 * bb) 6 0 := by rcases lt5_ h with rfl | rfl | rfl | rfl | rfl <;> exact ⟨by decide, rfl⟩
theorem bp_r0 {bb : Nat} (h : bb < 5) : sl_R (6 + 24 * bb) 0 = some (7 + 24 * bb) := by rcases lt5_ h with rfl | rfl | rfl | rfl | rfl <;> exact rfl
theorem bq_s {bb : Nat} (h : bb < 5) : xsh_ (7 + 24 * bb) 14 512 := by rcases lt5_ h with rfl | rfl | rfl | rfl | rfl <;> exact ⟨by decide, rfl⟩
theorem bc_s {bb : Nat} (h : bb < 5) : xsh_ (8 + 24 * bb) 14 3 := by rcases lt5_ h with rfl | rfl | rfl | rfl | rfl <;> exact ⟨by decide, rfl⟩
theorem pb_r {b : Nat} (h : b < 5) : sl_R 2 b = some (3 + 24 * b) := by rcases lt5_ h with rfl | rfl | rfl | rfl | rfl <;> rfl
theorem bg_r {bb g : Nat} (h : bb < 5) (hg : g < 6) : sl_R (4 + 24 * bb) g = some (9 + 24 * bb + 2 * g) := by rcases lt5_ h with rfl | rfl | rfl | rfl | rfl <;> rcases lt6_ hg with rfl | rfl | rfl | rfl | rfl | rfl <;> rfl
theorem br_r {bb i : Nat} (h : bb < 5) (hi : i < 3) : sl_R (5 + 24 * bb) i = some (21 + 24 * bb + 2 * i) := by rcases lt5_ h with rfl | rfl | rfl | rfl | rfl <;> rcases lt3_ hi with rfl | rfl | rfl <;> rfl
theorem bg_a {bb g : Nat} (h : bb < 5) (hg : g < 6) : af_ok (9 + 24 * bb + 2 * g) := by rcases lt5_ h with rfl | rfl | rfl | rfl | rfl <;> rcases lt6_ hg with rfl | rfl | rfl | rfl | rfl | rfl <;> exact ⟨⟨by decide, rfl⟩, rfl, ⟨by decide, rfl⟩⟩
theorem br_a {bb i : Nat} (h : bb < 5) (hi : i < 3) : af_ok (21 + 24 * bb + 2 * i) := by rcases lt5_ h with rfl | rfl | rfl | rfl | rfl <;> rcases lt3_ hi with rfl | rfl | rfl <;> exact ⟨⟨by decide, rfl⟩, rfl, ⟨by decide, rfl⟩⟩
theorem bx_127 : bx_ok 127 := ⟨⟨by decide, rfl⟩, rfl, ⟨by decide, rfl⟩⟩
theorem bx_129 : bx_ok 129 := ⟨⟨by decide, rfl⟩, rfl, ⟨by decide, rfl⟩⟩
theorem bx_132 : bx_ok 132 := ⟨⟨by decide, rfl⟩, rfl, ⟨by decide, rfl⟩⟩
theorem bx_134 : bx_ok 134 := ⟨⟨by decide, rfl⟩, rfl, ⟨by decide, rfl⟩⟩
theorem xin_n {i : Int32} {n : Nat} (h : xm_in i n) : i.toNatClampNeg < n := by
  have h1 := h.1
  have h2 := h.2
  show i.toInt.toNat < n
  omega
/-- fewer locals -/
def xm_sb (l' l : List (Option Value)) : Prop := match l', l with
  | [], _ => True
  | none :: a, _ :: b => xm_sb a b
  | none :: a, [] => xm_sb a []
  | some v :: a, some w :: b => v = w ∧ xm_sb a b
  | some _ :: _, none :: _ => False
  | some _ :: _, [] => False
theorem xm_sb_at {l' l : List (Option Value)} (h : xm_sb l' l) : ∀ (i : Nat) (v : Value), l'[i]? = some (some v) → l[i]? = some (some v) := by
  fun_induction xm_sb l' l with
  | case1 l => intro i v hi; simp at hi
  | case2 a x b ih =>
    intro i v hi
    match i, hi with
    | 0, hi => cases hi
    | i + 1, hi => exact ih h i v hi
  | case3 a ih =>
    intro i v hi
    match i, hi with
    | 0, hi => cases hi
    | i + 1, hi =>
      have := ih h i v hi
      simp at this
  | case4 v a w b ih =>
    intro i v' hi
    match i, hi with
    | 0, hi => cases hi; rw [h.1]; rfl
    | i + 1, hi => exact ih h.2 i v' hi
  | case5 => exact h.elim
  | case6 => exact h.elim
section XR_
variable {α β γ S : Type} {em : α → Option Value} {sg : S → xm_S} {M : xm_M} {pc n : Nat} {lv lv' : List (Option Value)} {st : List Value} {σ : S} {bc bs : Nat} {o : Option (α × S)} {a : Option β} {f : β → Option (α × S)} {μ : xm_Y}
theorem xs_fg (h : xm_sb lv' lv) (k : xs_ em sg M pc lv' st σ bc bs o) : xs_ em sg M pc lv st σ bc bs o := by
  intro r σ' ho G base b L xs l p e R s m args below meth c H locs cells slots ls Q hC hf hlo hc hs hL hW hz hS kret
  obtain ⟨l0, h1, h2⟩ := hL
  exact k r σ' ho G base b L xs l p e R s m args below meth c H locs cells slots ls Q hC hf hlo hc hs ⟨l0, h1, fun i v hi => h2 i v (xm_sb_at h i v hi)⟩ hW hz hS kret
theorem xs_join {B : Option β} {g : β → Option γ} {f : γ → Option (α × S)} (J : Nat) (lvJ : β → List (Option Value)) (stJ : β → List Value) (sJ : β → S) (kJ : ∀ q : β, xs_ em sg M J (lvJ q) (stJ q) (sJ q) bc bs ((g q).bind f)) (kB : (∀ q : β, xs_ em sg M J (lvJ q) (stJ q) (sJ q) bc bs ((g q).bind f)) → xs_ em sg M pc lv st σ bc bs (B.bind (fun v => (g v).bind f))) : xs_ em sg M pc lv st σ bc bs ((B.bind g).bind f) := xs_reg (kB kJ)
theorem xs_inr {δ : Type} {g1 : δ → Option γ} {g2 : β → Option γ} {f : γ → Option (α × S)} {q : β} (k : xs_ em sg M pc lv st σ bc bs ((g2 q).bind f)) : xs_ em sg M pc lv st σ bc bs ((Sum.elim g1 g2 (.inr q)).bind f) := k
theorem xs_iincl {i : Nat} {d : Int} {x dv : Int32} {g : Int32 → Option β} (lvf : Int32 → List (Option Value)) (hd : decode M.2.1 pc = .ok (.iinc i d, 3)) (hn : pc + 3 = n) (hl : lv[i]? = some (some (.int x))) (hv : Int32.ofInt d = dv) (hi : i < M.2.2.1) (he : ∀ v : Int32, xm_s1 lv i (.int v) = lvf v) (k : ∀ v : Int32, xs_ em sg M n (lvf v) st σ bc bs ((g v).bind f)) : xs_ em sg M pc lv st σ bc bs ((xm_let (x + dv) g).bind f) := by
  subst hv
  exact xs_iinc hd hn hl rfl hi (he _) (k _)
theorem xs_zretc {S : Type} {sg : S → xm_S} {σ : S} {x : Int32} {β : Type} {v : β} {f : β → Option (Int32 × S)} (hd : decode M.2.1 pc = .ok (.ireturn, 1)) (hr : M.2.2.2.1 = some .boolean) (hx : x = 0 ∨ x = 1) (hf : f v = some (x, σ)) : xs_ (fun x : Int32 => some (.int x)) sg M pc lv [.int x] σ bc bs ((some v).bind f) := by
  have := xs_zret (bc := bc) (bs := bs) (lv := lv) (sg := sg) hd hr hf
  rwa [xm_chk, if_pos hx] at this
-- the same rows over the static cells
theorem ys_geti {idx ci j t kk nn : Nat} {C : String} {T : u_T} {N : Nat} {ty : Nat → FieldType} {o : Option (α × xm_Y)} (hd : decode M.2.1 pc = .ok (.getfield idx, 3)) (hn : pc + 3 = n) (hl : xm_fl M.1.cls idx ci j t C T N ty) (ht : t = 0 ∨ t = 3) (hk : xsh_ kk ci nn) (k : xs_ em sg_0 M n lv (.int (μ.1 kk j) :: st) μ bc bs o) : xs_ em sg_0 M pc lv (.ref kk :: st) μ bc bs o := xs_geti hd hn hl ht (hk.is μ) k
theorem ys_getl {idx ci j kk nn : Nat} {C : String} {T : u_T} {N : Nat} {ty : Nat → FieldType} {o : Option (α × xm_Y)} (hd : decode M.2.1 pc = .ok (.getfield idx, 3)) (hn : pc + 3 = n) (hl : xm_fl M.1.cls idx ci j 1 C T N ty) (hk : xsh_ kk ci nn) (k : xs_ em sg_0 M n lv (.long (μ.2 kk j) :: st) μ bc bs o) : xs_ em sg_0 M pc lv (.ref kk :: st) μ bc bs o := xs_getl hd hn hl (hk.is μ) k
theorem ys_getr {idx ci j kk nn a : Nat} {C : String} {T : u_T} {N : Nat} {ty : Nat → FieldType} {o : Option (α × xm_Y)} (hd : decode M.2.1 pc = .ok (.getfield idx, 3)) (hn : pc + 3 = n) (hl : xm_fl M.1.cls idx ci j 2 C T N ty) (hk : xsh_ kk ci nn) (hr : sl_R kk j = some a) (k : xs_ em sg_0 M n lv (.ref a :: st) μ bc bs o) : xs_ em sg_0 M pc lv (.ref kk :: st) μ bc bs o := xs_getr hd hn hl (hk.is μ) hr k
variable {f : β → Option (α × xm_Y)}
theorem ys_puti {idx ci j kk nn : Nat} {C : String} {T : u_T} {N : Nat} {ty : Nat → FieldType} {v : Int32} {g : xm_Y → Option β} (hd : decode M.2.1 pc = .ok (.putfield idx, 3)) (hn : pc + 3 = n) (hl : xm_fl M.1.cls idx ci j 0 C T N ty) (hfin : (T j).2.2.2 = false) (hk : xsh_ kk ci nn) (k : ∀ μ', xs_ em sg_0 M n lv st μ' bc bs ((g μ').bind f)) : xs_ em sg_0 M pc lv (.int v :: .ref kk :: st) μ bc bs ((xm_let (w_I μ kk j v) g).bind f) := xs_puti hd hn hl hfin (hk.is μ) rfl (k (w_I μ kk j v))
theorem ys_putz {idx ci j kk nn : Nat} {C : String} {T : u_T} {N : Nat} {ty : Nat → FieldType} {v : Int32} {g : xm_Y → Option β} (hd : decode M.2.1 pc = .ok (.putfield idx, 3)) (hn : pc + 3 = n) (hl : xm_fl M.1.cls idx ci j 3 C T N ty) (hfin : (T j).2.2.2 = false) (hk : xsh_ kk ci nn) (k : ∀ μ', xs_ em sg_0 M n lv st μ' bc bs ((g μ').bind f)) : xs_ em sg_0 M pc lv (.int v :: .ref kk :: st) μ bc bs ((xm_chk (v = 0 ∨ v = 1) (xm_let (w_I μ kk j v) g)).bind f) := xs_putz hd hn hl hfin (hk.is μ) rfl (k (w_I μ kk j v))
theorem ys_putzc {idx ci j kk nn : Nat} {C : String} {T : u_T} {N : Nat} {ty : Nat → FieldType} {v : Int32} {g : xm_Y → Option β} (hd : decode M.2.1 pc = .ok (.putfield idx, 3)) (hn : pc + 3 = n) (hl : xm_fl M.1.cls idx ci j 3 C T N ty) (hfin : (T j).2.2.2 = false) (hk : xsh_ kk ci nn) (hx : v = 0 ∨ v = 1) (k : ∀ μ', xs_ em sg_0 M n lv st μ' bc bs ((g μ').bind f)) : xs_ em sg_0 M pc lv (.int v :: .ref kk :: st) μ bc bs ((xm_let (w_I μ kk j v) g).bind f) := by
  have := ys_putz (μ := μ) (v := v) hd hn hl hfin hk k
  rwa [xm_chk, if_pos hx] at this
theorem ys_putl {idx ci j kk nn : Nat} {C : String} {T : u_T} {N : Nat} {ty : Nat → FieldType} {v : Int64} {g : xm_Y → Option β} (hd : decode M.2.1 pc = .ok (.putfield idx, 3)) (hn : pc + 3 = n) (hl : xm_fl M.1.cls idx ci j 1 C T N ty) (hfin : (T j).2.2.2 = false) (hk : xsh_ kk ci nn) (k : ∀ μ', xs_ em sg_0 M n lv st μ' bc bs ((g μ').bind f)) : xs_ em sg_0 M pc lv (.long v :: .ref kk :: st) μ bc bs ((xm_let (w_J μ kk j v) g).bind f) := xs_putl hd hn hl hfin (hk.is μ) rfl (k (w_J μ kk j v))
theorem ys_iaload {kk nn : Nat} {i : Int32} (hd : decode M.2.1 pc = .ok (.iaload, 1)) (hn : pc + 1 = n) (hk : xsh_ kk 13 nn) (k : xs_ em sg_0 M n lv (.int (μ.1 kk i.toNatClampNeg) :: st) μ bc bs (a.bind f)) : xs_ em sg_0 M pc lv (.int i :: .ref kk :: st) μ bc bs ((xm_chk (xm_in i nn) a).bind f) := xs_iaload hd hn (hk.is μ) k
theorem ys_baload {kk nn : Nat} {i : Int32} (hd : decode M.2.1 pc = .ok (.baload, 1)) (hn : pc + 1 = n) (hk : xsh_ kk 15 nn) (k : xs_ em sg_0 M n lv (.int (μ.1 kk i.toNatClampNeg) :: st) μ bc bs (a.bind f)) : xs_ em sg_0 M pc lv (.int i :: .ref kk :: st) μ bc bs ((xm_chk (xm_in i nn) a).bind f) := xs_baload hd hn (hk.is μ) k
theorem ys_laload {kk nn : Nat} {i : Int32} (hd : decode M.2.1 pc = .ok (.laload, 1)) (hn : pc + 1 = n) (hk : xsh_ kk 14 nn) (k : xs_ em sg_0 M n lv (.long (μ.2 kk i.toNatClampNeg) :: st) μ bc bs (a.bind f)) : xs_ em sg_0 M pc lv (.int i :: .ref kk :: st) μ bc bs ((xm_chk (xm_in i nn) a).bind f) := xs_laload hd hn (hk.is μ) k
theorem ys_aaload16 {kk nn aa : Nat} {i : Int32} (hd : decode M.2.1 pc = .ok (.aaload, 1)) (hn : pc + 1 = n) (hk : xsh_ kk 16 nn) (hr : xm_in i nn → sl_R kk i.toNatClampNeg = some aa) (k : xm_in i nn → xs_ em sg_0 M n lv (.ref aa :: st) μ bc bs (a.bind f)) : xs_ em sg_0 M pc lv (.int i :: .ref kk :: st) μ bc bs ((xm_chk (xm_in i nn) a).bind f) := xs_aaload16 hd hn (hk.is μ) hr k
theorem ys_aaload17 {kk nn aa : Nat} {i : Int32} (hd : decode M.2.1 pc = .ok (.aaload, 1)) (hn : pc + 1 = n) (hk : xsh_ kk 17 nn) (hr : xm_in i nn → sl_R kk i.toNatClampNeg = some aa) (k : xm_in i nn → xs_ em sg_0 M n lv (.ref aa :: st) μ bc bs (a.bind f)) : xs_ em sg_0 M pc lv (.int i :: .ref kk :: st) μ bc bs ((xm_chk (xm_in i nn) a).bind f) := xs_aaload17 hd hn (hk.is μ) hr k
theorem ys_iastore {kk nn : Nat} {i v : Int32} {g : xm_Y → Option β} (hd : decode M.2.1 pc = .ok (.iastore, 1)) (hn : pc + 1 = n) (hk : xsh_ kk 13 nn) (k : ∀ μ', xs_ em sg_0 M n lv st μ' bc bs ((g μ').bind f)) : xs_ em sg_0 M pc lv (.int v :: .int i :: .ref kk :: st) μ bc bs ((xm_chk (xm_in i nn) (xm_let (w_I μ kk i.toNatClampNeg v) g)).bind f) := xs_iastore hd hn (hk.is μ) rfl (k (w_I μ kk i.toNatClampNeg v))
theorem ys_bastore {kk nn : Nat} {i v : Int32} {g : xm_Y → Option β} (hd : decode M.2.1 pc = .ok (.bastore, 1)) (hn : pc + 1 = n) (hk : xsh_ kk 15 nn) (k : ∀ μ', xs_ em sg_0 M n lv st μ' bc bs ((g μ').bind f)) : xs_ em sg_0 M pc lv (.int v :: .int i :: .ref kk :: st) μ bc bs ((xm_chk (xm_in i nn) (xm_let (w_I μ kk i.toNatClampNeg (vp_nar .boolean v)) g)).bind f) := xs_bastore hd hn (hk.is μ) rfl (k (w_I μ kk i.toNatClampNeg (vp_nar .boolean v)))
theorem ys_lastore {kk nn : Nat} {i : Int32} {v : Int64} {g : xm_Y → Option β} (hd : decode M.2.1 pc = .ok (.lastore, 1)) (hn : pc + 1 = n) (hk : xsh_ kk 14 nn) (k : ∀ μ', xs_ em sg_0 M n lv st μ' bc bs ((g μ').bind f)) : xs_ em sg_0 M pc lv (.long v :: .int i :: .ref kk :: st) μ bc bs ((xm_chk (xm_in i nn) (xm_let (w_J μ kk i.toNatClampNeg v) g)).bind f) := xs_lastore hd hn (hk.is μ) rfl (k (w_J μ kk i.toNatClampNeg v))
theorem ys_alen13 {kk nn : Nat} {o : Option (α × xm_Y)} (hd : decode M.2.1 pc = .ok (.arraylength, 1)) (hn : pc + 1 = n) (hk : xsh_ kk 13 nn) (k : xs_ em sg_0 M n lv (.int (Int32.ofNat nn) :: st) μ bc bs o) : xs_ em sg_0 M pc lv (.ref kk :: st) μ bc bs o := xs_alen13 hd hn (hk.is μ) rfl k
theorem ys_alen14 {kk nn : Nat} {o : Option (α × xm_Y)} (hd : decode M.2.1 pc = .ok (.arraylength, 1)) (hn : pc + 1 = n) (hk : xsh_ kk 14 nn) (k : xs_ em sg_0 M n lv (.int (Int32.ofNat nn) :: st) μ bc bs o) : xs_ em sg_0 M pc lv (.ref kk :: st) μ bc bs o := xs_alen14 hd hn (hk.is μ) rfl k
theorem ys_copyl {k0 k1 n0 n1 idx : Nat} {sp dp nn : Int32} {g : xm_Y → Option β} (hd : decode M.2.1 pc = .ok (.invokestatic idx, 3)) (hn : pc + 3 = n) (hw : Cond.methodLink M.1.cls idx arraycopyName ∈ xm_tb) (h0 : xsh_ k0 14 n0) (hk1 : xsh_ k1 14 n1) (hfr : 1 ≤ M.2.2.2.2.1) (hlc : (st.map fun v => v.category).sum + 18 ≤ M.2.2.2.2.2) (k : ∀ μ', xs_ em sg_0 M n lv st μ' bc bs ((g μ').bind f)) : xs_ em sg_0 M pc lv (.int nn :: .int dp :: .ref k1 :: .int sp :: .ref k0 :: st) μ bc bs ((xm_chk (0 ≤ sp ∧ 0 ≤ dp ∧ 0 ≤ nn ∧ sp.toNatClampNeg + nn.toNatClampNeg ≤ n0 ∧ dp.toNatClampNeg + nn.toNatClampNeg ≤ n1) (xm_let (cp_J μ k0 k1 sp.toNatClampNeg dp.toNatClampNeg nn.toNatClampNeg) g)).bind f) := xs_copyl hd hn hw (h0.is μ) (hk1.is μ) hfr hlc rfl (k _)
theorem ys_copyi {k0 k1 n0 n1 idx : Nat} {sp dp nn : Int32} {g : xm_Y → Option β} (hd : decode M.2.1 pc = .ok (.invokestatic idx, 3)) (hn : pc + 3 = n) (hw : Cond.methodLink M.1.cls idx arraycopyName ∈ xm_tb) (h0 : xsh_ k0 13 n0) (hk1 : xsh_ k1 13 n1) (hfr : 1 ≤ M.2.2.2.2.1) (hlc : (st.map fun v => v.category).sum + 18 ≤ M.2.2.2.2.2) (k : ∀ μ', xs_ em sg_0 M n lv st μ' bc bs ((g μ').bind f)) : xs_ em sg_0 M pc lv (.int nn :: .int dp :: .ref k1 :: .int sp :: .ref k0 :: st) μ bc bs ((xm_chk (0 ≤ sp ∧ 0 ≤ dp ∧ 0 ≤ nn ∧ sp.toNatClampNeg + nn.toNatClampNeg ≤ n0 ∧ dp.toNatClampNeg + nn.toNatClampNeg ≤ n1) (xm_let (cp_I μ k0 k1 sp.toNatClampNeg dp.toNatClampNeg nn.toNatClampNeg) g)).bind f) := xs_copyi hd hn hw (h0.is μ) (hk1.is μ) hfr hlc rfl (k _)
theorem ys_callsi {N : xm_M} {na idx : Nat} {oN : Option (Int32 × xm_Y)} {F : Int32 × xm_Y → Option β} {stk : List Value} {lv0 : List (Option Value)} (hd : decode M.2.1 pc = .ok (.invokestatic idx, 3)) (hn : pc + 3 = n) (hok : xm_ok N na) (hw : Cond.methodLink M.1.cls idx N.1 ∈ xm_tb) (hst : Cond.static N.1 ∈ xm_tb) (hR : N.2.2.2.2.1 + 1 ≤ M.2.2.2.2.1 ∧ 8 + (N.2.2.1 + 11) + N.2.2.2.2.2 ≤ M.2.2.2.2.2) (As : List Value) (rest : List Value) (hstk : stk = As.reverse ++ rest) (hla : As.length = na) (hlen : (lg_sl As).length ≤ N.2.2.1) (he : xm_en N.2.2.1 As = lv0) (hrest : (rest.map fun v => v.category).sum ≤ 8) (hN : xs_ (fun x : Int32 => some (.int x)) sg_0 N 0 lv0 [] μ 0 0 oN) (k : ∀ q : Int32 × xm_Y, xs_ em sg_0 M n lv (.int q.1 :: rest) q.2 bc bs ((F q).bind f)) : xs_ em sg_0 M pc lv stk μ bc bs ((oN.bind F).bind f) := xs_calls (mc := 0) (ms := 0) (bc' := bc) (bs' := bs) hd hn hok hw hst hR As rest hstk hla hlen he hrest ⟨Nat.le_refl _, Nat.le_refl _⟩ (fun _ _ => rfl) hN (fun v σ1 => k (v, σ1))
theorem ys_callsl {N : xm_M} {na idx : Nat} {oN : Option (Int64 × xm_Y)} {F : Int64 × xm_Y → Option β} {stk : List Value} {lv0 : List (Option Value)} (hd : decode M.2.1 pc = .ok (.invokestatic idx, 3)) (hn : pc + 3 = n) (hok : xm_ok N na) (hw : Cond.methodLink M.1.cls idx N.1 ∈ xm_tb) (hst : Cond.static N.1 ∈ xm_tb) (hR : N.2.2.2.2.1 + 1 ≤ M.2.2.2.2.1 ∧ 8 + (N.2.2.1 + 11) + N.2.2.2.2.2 ≤ M.2.2.2.2.2) (As : List Value) (rest : List Value) (hstk : stk = As.reverse ++ rest) (hla : As.length = na) (hlen : (lg_sl As).length ≤ N.2.2.1) (he : xm_en N.2.2.1 As = lv0) (hrest : (rest.map fun v => v.category).sum ≤ 8) (hN : xs_ (fun x : Int64 => some (.long x)) sg_0 N 0 lv0 [] μ 0 0 oN) (k : ∀ q : Int64 × xm_Y, xs_ em sg_0 M n lv (.long q.1 :: rest) q.2 bc bs ((F q).bind f)) : xs_ em sg_0 M pc lv stk μ bc bs ((oN.bind F).bind f) := xs_calls (mc := 0) (ms := 0) (bc' := bc) (bs' := bs) hd hn hok hw hst hR As rest hstk hla hlen he hrest ⟨Nat.le_refl _, Nat.le_refl _⟩ (fun _ _ => rfl) hN (fun v σ1 => k (v, σ1))
theorem ys_callsv {N : xm_M} {na idx : Nat} {oN : Option (Unit × xm_Y)} {F : Unit × xm_Y → Option β} {stk : List Value} {lv0 : List (Option Value)} (hd : decode M.2.1 pc = .ok (.invokestatic idx, 3)) (hn : pc + 3 = n) (hok : xm_ok N na) (hw : Cond.methodLink M.1.cls idx N.1 ∈ xm_tb) (hst : Cond.static N.1 ∈ xm_tb) (hR : N.2.2.2.2.1 + 1 ≤ M.2.2.2.2.1 ∧ 8 + (N.2.2.1 + 11) + N.2.2.2.2.2 ≤ M.2.2.2.2.2) (As : List Value) (rest : List Value) (hstk : stk = As.reverse ++ rest) (hla : As.length = na) (hlen : (lg_sl As).length ≤ N.2.2.1) (he : xm_en N.2.2.1 As = lv0) (hrest : (rest.map fun v => v.category).sum ≤ 8) (hN : xs_ (fun _ : Unit => none) sg_0 N 0 lv0 [] μ 0 0 oN) (k : ∀ q : Unit × xm_Y, xs_ em sg_0 M n lv (rest) q.2 bc bs ((F q).bind f)) : xs_ em sg_0 M pc lv stk μ bc bs ((oN.bind F).bind f) := xs_calls (mc := 0) (ms := 0) (bc' := bc) (bs' := bs) hd hn hok hw hst hR As rest hstk hla hlen he hrest ⟨Nat.le_refl _, Nat.le_refl _⟩ (fun _ _ => rfl) hN (fun v σ1 => k (v, σ1))
theorem ys_callsni {N : xm_M} {na idx : Nat} {oN : Option (Int32 × xm_Y)} {F : Int32 × xm_Y → Option β} {stk : List Value} {lv0 : List (Option Value)} {host : String} (hd : decode M.2.1 pc = .ok (.invokestatic idx, 3)) (hn : pc + 3 = n) (hok : xm_ok N na) (hw : Cond.methodLinkNest M.1.cls idx N.1 host ∈ lw_tbl) (hst : Cond.static N.1 ∈ xm_tb) (hR : N.2.2.2.2.1 + 1 ≤ M.2.2.2.2.1 ∧ 8 + (N.2.2.1 + 11) + N.2.2.2.2.2 ≤ M.2.2.2.2.2) (As : List Value) (rest : List Value) (hstk : stk = As.reverse ++ rest) (hla : As.length = na) (hlen : (lg_sl As).length ≤ N.2.2.1) (he : xm_en N.2.2.1 As = lv0) (hrest : (rest.map fun v => v.category).sum ≤ 8) (hN : xs_ (fun x : Int32 => some (.int x)) sg_0 N 0 lv0 [] μ 0 0 oN) (k : ∀ q : Int32 × xm_Y, xs_ em sg_0 M n lv (.int q.1 :: rest) q.2 bc bs ((F q).bind f)) : xs_ em sg_0 M pc lv stk μ bc bs ((oN.bind F).bind f) := xs_callsn (mc := 0) (ms := 0) (bc' := bc) (bs' := bs) hd hn hok hw hst hR As rest hstk hla hlen he hrest ⟨Nat.le_refl _, Nat.le_refl _⟩ (fun _ _ => rfl) hN (fun v σ1 => k (v, σ1))
theorem ys_callsnl {N : xm_M} {na idx : Nat} {oN : Option (Int64 × xm_Y)} {F : Int64 × xm_Y → Option β} {stk : List Value} {lv0 : List (Option Value)} {host : String} (hd : decode M.2.1 pc = .ok (.invokestatic idx, 3)) (hn : pc + 3 = n) (hok : xm_ok N na) (hw : Cond.methodLinkNest M.1.cls idx N.1 host ∈ lw_tbl) (hst : Cond.static N.1 ∈ xm_tb) (hR : N.2.2.2.2.1 + 1 ≤ M.2.2.2.2.1 ∧ 8 + (N.2.2.1 + 11) + N.2.2.2.2.2 ≤ M.2.2.2.2.2) (As : List Value) (rest : List Value) (hstk : stk = As.reverse ++ rest) (hla : As.length = na) (hlen : (lg_sl As).length ≤ N.2.2.1) (he : xm_en N.2.2.1 As = lv0) (hrest : (rest.map fun v => v.category).sum ≤ 8) (hN : xs_ (fun x : Int64 => some (.long x)) sg_0 N 0 lv0 [] μ 0 0 oN) (k : ∀ q : Int64 × xm_Y, xs_ em sg_0 M n lv (.long q.1 :: rest) q.2 bc bs ((F q).bind f)) : xs_ em sg_0 M pc lv stk μ bc bs ((oN.bind F).bind f) := xs_callsn (mc := 0) (ms := 0) (bc' := bc) (bs' := bs) hd hn hok hw hst hR As rest hstk hla hlen he hrest ⟨Nat.le_refl _, Nat.le_refl _⟩ (fun _ _ => rfl) hN (fun v σ1 => k (v, σ1))
theorem ys_callsnv {N : xm_M} {na idx : Nat} {oN : Option (Unit × xm_Y)} {F : Unit × xm_Y → Option β} {stk : List Value} {lv0 : List (Option Value)} {host : String} (hd : decode M.2.1 pc = .ok (.invokestatic idx, 3)) (hn : pc + 3 = n) (hok : xm_ok N na) (hw : Cond.methodLinkNest M.1.cls idx N.1 host ∈ lw_tbl) (hst : Cond.static N.1 ∈ xm_tb) (hR : N.2.2.2.2.1 + 1 ≤ M.2.2.2.2.1 ∧ 8 + (N.2.2.1 + 11) + N.2.2.2.2.2 ≤ M.2.2.2.2.2) (As : List Value) (rest : List Value) (hstk : stk = As.reverse ++ rest) (hla : As.length = na) (hlen : (lg_sl As).length ≤ N.2.2.1) (he : xm_en N.2.2.1 As = lv0) (hrest : (rest.map fun v => v.category).sum ≤ 8) (hN : xs_ (fun _ : Unit => none) sg_0 N 0 lv0 [] μ 0 0 oN) (k : ∀ q : Unit × xm_Y, xs_ em sg_0 M n lv (rest) q.2 bc bs ((F q).bind f)) : xs_ em sg_0 M pc lv stk μ bc bs ((oN.bind F).bind f) := xs_callsn (mc := 0) (ms := 0) (bc' := bc) (bs' := bs) hd hn hok hw hst hR As rest hstk hla hlen he hrest ⟨Nat.le_refl _, Nat.le_refl _⟩ (fun _ _ => rfl) hN (fun v σ1 => k (v, σ1))
theorem ys_callvi {N : xm_M} {na idx : Nat} {oN : Option (Int32 × xm_Y)} {F : Int32 × xm_Y → Option β} {stk : List Value} {lv0 : List (Option Value)} {kk ci nn : Nat} {T : u_T} {NF : Nat} (hd : decode M.2.1 pc = .ok (.invokevirtual idx, 3)) (hn : pc + 3 = n) (hok : xm_ok N na) (hw : Cond.methodLink M.1.cls idx N.1 ∈ xm_tb) (hin : Cond.instanceMethod N.1 ∈ xm_tb) (hse : Cond.selects N.1.cls N.1 N.1 ∈ xm_tb) (hR : N.2.2.2.2.1 + 1 ≤ M.2.2.2.2.1 ∧ 8 + (N.2.2.1 + 11) + N.2.2.2.2.2 ≤ M.2.2.2.2.2) (As : List Value) (rest : List Value) (hstk : stk = As.reverse ++ .ref kk :: rest) (hla : As.length = na) (hlen : (lg_sl (.ref kk :: As)).length ≤ N.2.2.1) (he : xm_en N.2.2.1 (.ref kk :: As) = lv0) (hrest : (rest.map fun v => v.category).sum ≤ 8) (hN : xs_ (fun x : Int32 => some (.int x)) sg_0 N 0 lv0 [] μ 0 0 oN) (hk : xsh_ kk ci nn) (hc13 : ci < 13) (hcl : vwCl[ci]? = some (N.1.cls, T, NF)) (k : ∀ q : Int32 × xm_Y, xs_ em sg_0 M n lv (.int q.1 :: rest) q.2 bc bs ((F q).bind f)) : xs_ em sg_0 M pc lv stk μ bc bs ((oN.bind F).bind f) := xs_callv (mc := 0) (ms := 0) (bc' := bc) (bs' := bs) hd hn hok hw hin hse hR As rest hstk hla hlen he hrest ⟨Nat.le_refl _, Nat.le_refl _⟩ (fun _ _ => rfl) hN (hk.is μ) hc13 hcl (fun v σ1 => k (v, σ1))
theorem ys_callvl {N : xm_M} {na idx : Nat} {oN : Option (Int64 × xm_Y)} {F : Int64 × xm_Y → Option β} {stk : List Value} {lv0 : List (Option Value)} {kk ci nn : Nat} {T : u_T} {NF : Nat} (hd : decode M.2.1 pc = .ok (.invokevirtual idx, 3)) (hn : pc + 3 = n) (hok : xm_ok N na) (hw : Cond.methodLink M.1.cls idx N.1 ∈ xm_tb) (hin : Cond.instanceMethod N.1 ∈ xm_tb) (hse : Cond.selects N.1.cls N.1 N.1 ∈ xm_tb) (hR : N.2.2.2.2.1 + 1 ≤ M.2.2.2.2.1 ∧ 8 + (N.2.2.1 + 11) + N.2.2.2.2.2 ≤ M.2.2.2.2.2) (As : List Value) (rest : List Value) (hstk : stk = As.reverse ++ .ref kk :: rest) (hla : As.length = na) (hlen : (lg_sl (.ref kk :: As)).length ≤ N.2.2.1) (he : xm_en N.2.2.1 (.ref kk :: As) = lv0) (hrest : (rest.map fun v => v.category).sum ≤ 8) (hN : xs_ (fun x : Int64 => some (.long x)) sg_0 N 0 lv0 [] μ 0 0 oN) (hk : xsh_ kk ci nn) (hc13 : ci < 13) (hcl : vwCl[ci]? = some (N.1.cls, T, NF)) (k : ∀ q : Int64 × xm_Y, xs_ em sg_0 M n lv (.long q.1 :: rest) q.2 bc bs ((F q).bind f)) : xs_ em sg_0 M pc lv stk μ bc bs ((oN.bind F).bind f) := xs_callv (mc := 0) (ms := 0) (bc' := bc) (bs' := bs) hd hn hok hw hin hse hR As rest hstk hla hlen he hrest ⟨Nat.le_refl _, Nat.le_refl _⟩ (fun _ _ => rfl) hN (hk.is μ) hc13 hcl (fun v σ1 => k (v, σ1))
theorem ys_callvv {N : xm_M} {na idx : Nat} {oN : Option (Unit × xm_Y)} {F : Unit × xm_Y → Option β} {stk : List Value} {lv0 : List (Option Value)} {kk ci nn : Nat} {T : u_T} {NF : Nat} (hd : decode M.2.1 pc = .ok (.invokevirtual idx, 3)) (hn : pc + 3 = n) (hok : xm_ok N na) (hw : Cond.methodLink M.1.cls idx N.1 ∈ xm_tb) (hin : Cond.instanceMethod N.1 ∈ xm_tb) (hse : Cond.selects N.1.cls N.1 N.1 ∈ xm_tb) (hR : N.2.2.2.2.1 + 1 ≤ M.2.2.2.2.1 ∧ 8 + (N.2.2.1 + 11) + N.2.2.2.2.2 ≤ M.2.2.2.2.2) (As : List Value) (rest : List Value) (hstk : stk = As.reverse ++ .ref kk :: rest) (hla : As.length = na) (hlen : (lg_sl (.ref kk :: As)).length ≤ N.2.2.1) (he : xm_en N.2.2.1 (.ref kk :: As) = lv0) (hrest : (rest.map fun v => v.category).sum ≤ 8) (hN : xs_ (fun _ : Unit => none) sg_0 N 0 lv0 [] μ 0 0 oN) (hk : xsh_ kk ci nn) (hc13 : ci < 13) (hcl : vwCl[ci]? = some (N.1.cls, T, NF)) (k : ∀ q : Unit × xm_Y, xs_ em sg_0 M n lv (rest) q.2 bc bs ((F q).bind f)) : xs_ em sg_0 M pc lv stk μ bc bs ((oN.bind F).bind f) := xs_callv (mc := 0) (ms := 0) (bc' := bc) (bs' := bs) hd hn hok hw hin hse hR As rest hstk hla hlen he hrest ⟨Nat.le_refl _, Nat.le_refl _⟩ (fun _ _ => rfl) hN (hk.is μ) hc13 hcl (fun v σ1 => k (v, σ1))
end XR_
end
