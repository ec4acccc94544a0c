section
/-- a private method of a class that the tables say can be made, by its rows of tables_1 -/
def lw_okq (q : MethodName × Nat) : Prop := (q.1.cls ≠ "java/lang/invoke/MethodHandle" ∧ q.1.cls ≠ "java/lang/invoke/VarHandle") ∧ Cond.instantiable q.1.cls q.2 ∈ tables_1 ∧ Cond.privateMethod q.1 ∈ tables_1 ∧ Cond.instanceMethod q.1 ∈ tables_1
theorem lw_p0 : lw_okq (⟨"EndingCourt", "openTheBox", "()V"⟩, 10) := ⟨⟨by decide +kernel, by decide +kernel⟩, List.mem_of_getElem? (i := 18) (by decide +kernel), List.mem_of_getElem? (i := 341) (by decide +kernel), List.mem_of_getElem? (i := 342) (by decide +kernel)⟩
theorem lw_p1 : lw_okq (⟨"EndingCourt", "forgetPlaces", "()V"⟩, 10) := ⟨⟨by decide +kernel, by decide +kernel⟩, List.mem_of_getElem? (i := 18) (by decide +kernel), List.mem_of_getElem? (i := 345) (by decide +kernel), List.mem_of_getElem? (i := 346) (by decide +kernel)⟩
theorem lw_p2 : lw_okq (⟨"EndingCourt$Course", "lengthWithin", "(LEndingCourt$Program;[JI)I"⟩, 3) := ⟨⟨by decide +kernel, by decide +kernel⟩, List.mem_of_getElem? (i := 122) (by decide +kernel), List.mem_of_getElem? (i := 461) (by decide +kernel), List.mem_of_getElem? (i := 462) (by decide +kernel)⟩
theorem lw_p3 : lw_okq (⟨"EndingCourt$Course", "isSame", "()Z"⟩, 3) := ⟨⟨by decide +kernel, by decide +kernel⟩, List.mem_of_getElem? (i := 122) (by decide +kernel), List.mem_of_getElem? (i := 472) (by decide +kernel), List.mem_of_getElem? (i := 473) (by decide +kernel)⟩
theorem lw_p4 : lw_okq (⟨"EndingCourt$Course", "leadOf", "(LEndingCourt$Program;[JII)I"⟩, 3) := ⟨⟨by decide +kernel, by decide +kernel⟩, List.mem_of_getElem? (i := 122) (by decide +kernel), List.mem_of_getElem? (i := 476) (by decide +kernel), List.mem_of_getElem? (i := 477) (by decide +kernel)⟩
theorem lw_p5 : lw_okq (⟨"EndingCourt", "ask", "(III)Z"⟩, 10) := ⟨⟨by decide +kernel, by decide +kernel⟩, List.mem_of_getElem? (i := 18) (by decide +kernel), List.mem_of_getElem? (i := 488) (by decide +kernel), List.mem_of_getElem? (i := 489) (by decide +kernel)⟩
theorem lw_p6 : lw_okq (⟨"EndingCourt", "learnPlaces", "()V"⟩, 10) := ⟨⟨by decide +kernel, by decide +kernel⟩, List.mem_of_getElem? (i := 18) (by decide +kernel), List.mem_of_getElem? (i := 492) (by decide +kernel), List.mem_of_getElem? (i := 493) (by decide +kernel)⟩
theorem lw_p7 : lw_okq (⟨"EndingCourt$Shaper", "gather", "(LEndingCourt$Body;LEndingCourt$Box;)V"⟩, 4) := ⟨⟨by decide +kernel, by decide +kernel⟩, List.mem_of_getElem? (i := 166) (by decide +kernel), List.mem_of_getElem? (i := 500) (by decide +kernel), List.mem_of_getElem? (i := 501) (by decide +kernel)⟩
theorem lw_p8 : lw_okq (⟨"EndingCourt$Shaper", "addPlane", "(JJJJ)V"⟩, 4) := ⟨⟨by decide +kernel, by decide +kernel⟩, List.mem_of_getElem? (i := 166) (by decide +kernel), List.mem_of_getElem? (i := 504) (by decide +kernel), List.mem_of_getElem? (i := 505) (by decide +kernel)⟩
theorem lw_p9 : lw_okq (⟨"EndingCourt$Shaper", "addAxisPlane", "(IJJ)V"⟩, 4) := ⟨⟨by decide +kernel, by decide +kernel⟩, List.mem_of_getElem? (i := 166) (by decide +kernel), List.mem_of_getElem? (i := 513) (by decide +kernel), List.mem_of_getElem? (i := 514) (by decide +kernel)⟩
theorem lw_p10 : lw_okq (⟨"EndingCourt$Shaper", "findCorners", "(LEndingCourt$Place;)V"⟩, 4) := ⟨⟨by decide +kernel, by decide +kernel⟩, List.mem_of_getElem? (i := 166) (by decide +kernel), List.mem_of_getElem? (i := 522) (by decide +kernel), List.mem_of_getElem? (i := 523) (by decide +kernel)⟩
theorem lw_p11 : lw_okq (⟨"EndingCourt$Shaper", "meet", "(III)Z"⟩, 4) := ⟨⟨by decide +kernel, by decide +kernel⟩, List.mem_of_getElem? (i := 166) (by decide +kernel), List.mem_of_getElem? (i := 526) (by decide +kernel), List.mem_of_getElem? (i := 527) (by decide +kernel)⟩
theorem lw_p12 : lw_okq (⟨"EndingCourt$Shaper", "cross", "(III)J"⟩, 4) := ⟨⟨by decide +kernel, by decide +kernel⟩, List.mem_of_getElem? (i := 166) (by decide +kernel), List.mem_of_getElem? (i := 530) (by decide +kernel), List.mem_of_getElem? (i := 531) (by decide +kernel)⟩
theorem lw_p13 : lw_okq (⟨"EndingCourt$Shaper", "isInside", "()Z"⟩, 4) := ⟨⟨by decide +kernel, by decide +kernel⟩, List.mem_of_getElem? (i := 166) (by decide +kernel), List.mem_of_getElem? (i := 537) (by decide +kernel), List.mem_of_getElem? (i := 538) (by decide +kernel)⟩
theorem lw_p14 : lw_okq (⟨"EndingCourt$Shaper", "shrink", "()V"⟩, 4) := ⟨⟨by decide +kernel, by decide +kernel⟩, List.mem_of_getElem? (i := 166) (by decide +kernel), List.mem_of_getElem? (i := 541) (by decide +kernel), List.mem_of_getElem? (i := 542) (by decide +kernel)⟩
theorem lw_p15 : lw_okq (⟨"EndingCourt$Place", "hasPoint", "([J)Z"⟩, 4) := ⟨⟨by decide +kernel, by decide +kernel⟩, List.mem_of_getElem? (i := 41) (by decide +kernel), List.mem_of_getElem? (i := 552) (by decide +kernel), List.mem_of_getElem? (i := 553) (by decide +kernel)⟩
def lw_privs_1 : List (MethodName × Nat) := [(⟨"EndingCourt", "openTheBox", "()V"⟩, 10), (⟨"EndingCourt", "forgetPlaces", "()V"⟩, 10), (⟨"EndingCourt$Course", "lengthWithin", "(LEndingCourt$Program;[JI)I"⟩, 3), (⟨"EndingCourt$Course", "isSame", "()Z"⟩, 3), (⟨"EndingCourt$Course", "leadOf", "(LEndingCourt$Program;[JII)I"⟩, 3), (⟨"EndingCourt", "ask", "(III)Z"⟩, 10), (⟨"EndingCourt", "learnPlaces", "()V"⟩, 10), (⟨"EndingCourt$Shaper", "gather", "(LEndingCourt$Body;LEndingCourt$Box;)V"⟩, 4), (⟨"EndingCourt$Shaper", "addPlane", "(JJJJ)V"⟩, 4), (⟨"EndingCourt$Shaper", "addAxisPlane", "(IJJ)V"⟩, 4), (⟨"EndingCourt$Shaper", "findCorners", "(LEndingCourt$Place;)V"⟩, 4), (⟨"EndingCourt$Shaper", "meet", "(III)Z"⟩, 4), (⟨"EndingCourt$Shaper", "cross", "(III)J"⟩, 4), (⟨"EndingCourt$Shaper", "isInside", "()Z"⟩, 4), (⟨"EndingCourt$Shaper", "shrink", "()V"⟩, 4), (⟨"EndingCourt$Place", "hasPoint", "([J)Z"⟩, 4)]
theorem lw_r1 : ∀ q ∈ lw_privs_1, lw_okq q := List.forall_mem_cons.mpr ⟨lw_p0, List.forall_mem_cons.mpr ⟨lw_p1, List.forall_mem_cons.mpr ⟨lw_p2, List.forall_mem_cons.mpr ⟨lw_p3, List.forall_mem_cons.mpr ⟨lw_p4, List.forall_mem_cons.mpr ⟨lw_p5, List.forall_mem_cons.mpr ⟨lw_p6, List.forall_mem_cons.mpr ⟨lw_p7, List.forall_mem_cons.mpr ⟨lw_p8, List.forall_mem_cons.mpr ⟨lw_p9, List.forall_mem_cons.mpr ⟨lw_p10, List.forall_mem_cons.mpr ⟨lw_p11, List.forall_mem_cons.mpr ⟨lw_p12, List.forall_mem_cons.mpr ⟨lw_p13, List.forall_mem_cons.mpr ⟨lw_p14, List.forall_mem_cons.mpr ⟨lw_p15, fun _ h => absurd h List.not_mem_nil⟩⟩⟩⟩⟩⟩⟩⟩⟩⟩⟩⟩⟩⟩⟩⟩
theorem lw_p16 : lw_okq (⟨"EndingCourt$Shaper", "findDirections", "(LEndingCourt$Place;)V"⟩, 4) := ⟨⟨by decide +kernel, by decide +kernel⟩, List.mem_of_getElem? (i := 166) (by decide +kernel), List.mem_of_getElem? (i := 561) (by decide +kernel), List.mem_of_getElem? (i := 562) (by decide +kernel)⟩
theorem lw_p17 : lw_okq (⟨"EndingCourt$Shaper", "follow", "(III)Z"⟩, 4) := ⟨⟨by decide +kernel, by decide +kernel⟩, List.mem_of_getElem? (i := 166) (by decide +kernel), List.mem_of_getElem? (i := 565) (by decide +kernel), List.mem_of_getElem? (i := 566) (by decide +kernel)⟩
theorem lw_p18 : lw_okq (⟨"EndingCourt$Place", "valueAt", "([II)J"⟩, 4) := ⟨⟨by decide +kernel, by decide +kernel⟩, List.mem_of_getElem? (i := 41) (by decide +kernel), List.mem_of_getElem? (i := 585) (by decide +kernel), List.mem_of_getElem? (i := 586) (by decide +kernel)⟩
theorem lw_p19 : lw_okq (⟨"EndingCourt$SumOrder", "nextPair", "()Z"⟩, 6) := ⟨⟨by decide +kernel, by decide +kernel⟩, List.mem_of_getElem? (i := 191) (by decide +kernel), List.mem_of_getElem? (i := 643) (by decide +kernel), List.mem_of_getElem? (i := 644) (by decide +kernel)⟩
theorem lw_p20 : lw_okq (⟨"EndingCourt$Findings", "keep", "(I)V"⟩, 7) := ⟨⟨by decide +kernel, by decide +kernel⟩, List.mem_of_getElem? (i := 185) (by decide +kernel), List.mem_of_getElem? (i := 653) (by decide +kernel), List.mem_of_getElem? (i := 654) (by decide +kernel)⟩
theorem lw_p21 : lw_okq (⟨"EndingCourt$Findings", "seekRow", "(LEndingCourt$Program;I)Z"⟩, 7) := ⟨⟨by decide +kernel, by decide +kernel⟩, List.mem_of_getElem? (i := 185) (by decide +kernel), List.mem_of_getElem? (i := 665) (by decide +kernel), List.mem_of_getElem? (i := 666) (by decide +kernel)⟩
theorem lw_p22 : lw_okq (⟨"EndingCourt$Findings", "isRow", "(LEndingCourt$Program;[I)Z"⟩, 7) := ⟨⟨by decide +kernel, by decide +kernel⟩, List.mem_of_getElem? (i := 185) (by decide +kernel), List.mem_of_getElem? (i := 669) (by decide +kernel), List.mem_of_getElem? (i := 670) (by decide +kernel)⟩
theorem lw_p23 : lw_okq (⟨"EndingCourt$Findings", "release", "(LEndingCourt$Program;I)I"⟩, 7) := ⟨⟨by decide +kernel, by decide +kernel⟩, List.mem_of_getElem? (i := 185) (by decide +kernel), List.mem_of_getElem? (i := 675) (by decide +kernel), List.mem_of_getElem? (i := 676) (by decide +kernel)⟩
theorem lw_p24 : lw_okq (⟨"EndingCourt$Rounds", "lookAtBodies", "(LEndingCourt$Program;)V"⟩, 2) := ⟨⟨by decide +kernel, by decide +kernel⟩, List.mem_of_getElem? (i := 150) (by decide +kernel), List.mem_of_getElem? (i := 736) (by decide +kernel), List.mem_of_getElem? (i := 737) (by decide +kernel)⟩
theorem lw_p25 : lw_okq (⟨"EndingCourt$Rounds", "settle", "(Z)Z"⟩, 2) := ⟨⟨by decide +kernel, by decide +kernel⟩, List.mem_of_getElem? (i := 150) (by decide +kernel), List.mem_of_getElem? (i := 759) (by decide +kernel), List.mem_of_getElem? (i := 760) (by decide +kernel)⟩
theorem lw_p26 : lw_okq (⟨"EndingCourt$Calls", "makeAll", "()Z"⟩, 8) := ⟨⟨by decide +kernel, by decide +kernel⟩, List.mem_of_getElem? (i := 246) (by decide +kernel), List.mem_of_getElem? (i := 815) (by decide +kernel), List.mem_of_getElem? (i := 816) (by decide +kernel)⟩
theorem lw_p27 : lw_okq (⟨"EndingCourt$Calls", "keep", "(J)Z"⟩, 8) := ⟨⟨by decide +kernel, by decide +kernel⟩, List.mem_of_getElem? (i := 246) (by decide +kernel), List.mem_of_getElem? (i := 820) (by decide +kernel), List.mem_of_getElem? (i := 821) (by decide +kernel)⟩
theorem lw_p28 : lw_okq (⟨"EndingCourt$Calls", "firstFault", "()I"⟩, 8) := ⟨⟨by decide +kernel, by decide +kernel⟩, List.mem_of_getElem? (i := 246) (by decide +kernel), List.mem_of_getElem? (i := 841) (by decide +kernel), List.mem_of_getElem? (i := 842) (by decide +kernel)⟩
theorem lw_p29 : lw_okq (⟨"EndingCourtModel", "openAll", "()V"⟩, 50) := ⟨⟨by decide +kernel, by decide +kernel⟩, List.mem_of_getElem? (i := 862) (by decide +kernel), List.mem_of_getElem? (i := 869) (by decide +kernel), List.mem_of_getElem? (i := 870) (by decide +kernel)⟩
theorem lw_p30 : lw_okq (⟨"EndingCourtModel", "isBody", "(I)Z"⟩, 50) := ⟨⟨by decide +kernel, by decide +kernel⟩, List.mem_of_getElem? (i := 862) (by decide +kernel), List.mem_of_getElem? (i := 1037) (by decide +kernel), List.mem_of_getElem? (i := 1038) (by decide +kernel)⟩
theorem lw_p31 : lw_okq (⟨"EndingCourtModel", "lay", "([IIII)V"⟩, 50) := ⟨⟨by decide +kernel, by decide +kernel⟩, List.mem_of_getElem? (i := 862) (by decide +kernel), List.mem_of_getElem? (i := 1045) (by decide +kernel), List.mem_of_getElem? (i := 1046) (by decide +kernel)⟩
def lw_privs_2 : List (MethodName × Nat) := [(⟨"EndingCourt$Shaper", "findDirections", "(LEndingCourt$Place;)V"⟩, 4), (⟨"EndingCourt$Shaper", "follow", "(III)Z"⟩, 4), (⟨"EndingCourt$Place", "valueAt", "([II)J"⟩, 4), (⟨"EndingCourt$SumOrder", "nextPair", "()Z"⟩, 6), (⟨"EndingCourt$Findings", "keep", "(I)V"⟩, 7), (⟨"EndingCourt$Findings", "seekRow", "(LEndingCourt$Program;I)Z"⟩, 7), (⟨"EndingCourt$Findings", "isRow", "(LEndingCourt$Program;[I)Z"⟩, 7), (⟨"EndingCourt$Findings", "release", "(LEndingCourt$Program;I)I"⟩, 7), (⟨"EndingCourt$Rounds", "lookAtBodies", "(LEndingCourt$Program;)V"⟩, 2), (⟨"EndingCourt$Rounds", "settle", "(Z)Z"⟩, 2), (⟨"EndingCourt$Calls", "makeAll", "()Z"⟩, 8), (⟨"EndingCourt$Calls", "keep", "(J)Z"⟩, 8), (⟨"EndingCourt$Calls", "firstFault", "()I"⟩, 8), (⟨"EndingCourtModel", "openAll", "()V"⟩, 50), (⟨"EndingCourtModel", "isBody", "(I)Z"⟩, 50), (⟨"EndingCourtModel", "lay", "([IIII)V"⟩, 50)]
theorem lw_r2 : ∀ q ∈ lw_privs_2, lw_okq q := List.forall_mem_cons.mpr ⟨lw_p16, List.forall_mem_cons.mpr ⟨lw_p17, List.forall_mem_cons.mpr ⟨lw_p18, List.forall_mem_cons.mpr ⟨lw_p19, List.forall_mem_cons.mpr ⟨lw_p20, List.forall_mem_cons.mpr ⟨lw_p21, List.forall_mem_cons.mpr ⟨lw_p22, List.forall_mem_cons.mpr ⟨lw_p23, List.forall_mem_cons.mpr ⟨lw_p24, List.forall_mem_cons.mpr ⟨lw_p25, List.forall_mem_cons.mpr ⟨lw_p26, List.forall_mem_cons.mpr ⟨lw_p27, List.forall_mem_cons.mpr ⟨lw_p28, List.forall_mem_cons.mpr ⟨lw_p29, List.forall_mem_cons.mpr ⟨lw_p30, List.forall_mem_cons.mpr ⟨lw_p31, fun _ h => absurd h List.not_mem_nil⟩⟩⟩⟩⟩⟩⟩⟩⟩⟩⟩⟩⟩⟩⟩⟩
theorem lw_p32 : lw_okq (⟨"EndingCourtModel", "turnFrom", "([J)I"⟩, 50) := ⟨⟨by decide +kernel, by decide +kernel⟩, List.mem_of_getElem? (i := 862) (by decide +kernel), List.mem_of_getElem? (i := 1071) (by decide +kernel), List.mem_of_getElem? (i := 1072) (by decide +kernel)⟩
theorem lw_p33 : lw_okq (⟨"EndingCourtModel", "turnAt", "([J)I"⟩, 50) := ⟨⟨by decide +kernel, by decide +kernel⟩, List.mem_of_getElem? (i := 862) (by decide +kernel), List.mem_of_getElem? (i := 1075) (by decide +kernel), List.mem_of_getElem? (i := 1076) (by decide +kernel)⟩
theorem lw_p34 : lw_okq (⟨"EndingCourtModel", "keep", "([JI)I"⟩, 50) := ⟨⟨by decide +kernel, by decide +kernel⟩, List.mem_of_getElem? (i := 862) (by decide +kernel), List.mem_of_getElem? (i := 1095) (by decide +kernel), List.mem_of_getElem? (i := 1096) (by decide +kernel)⟩
theorem lw_p35 : lw_okq (⟨"EndingCourtModel", "isSum", "(III)Z"⟩, 50) := ⟨⟨by decide +kernel, by decide +kernel⟩, List.mem_of_getElem? (i := 862) (by decide +kernel), List.mem_of_getElem? (i := 1110) (by decide +kernel), List.mem_of_getElem? (i := 1111) (by decide +kernel)⟩
theorem lw_p36 : lw_okq (⟨"EndingCourtModel", "doesRank", "(III)Z"⟩, 50) := ⟨⟨by decide +kernel, by decide +kernel⟩, List.mem_of_getElem? (i := 862) (by decide +kernel), List.mem_of_getElem? (i := 1114) (by decide +kernel), List.mem_of_getElem? (i := 1115) (by decide +kernel)⟩
theorem lw_p37 : lw_okq (⟨"EndingCourtModel", "tellsOf", "(IIII)I"⟩, 50) := ⟨⟨by decide +kernel, by decide +kernel⟩, List.mem_of_getElem? (i := 862) (by decide +kernel), List.mem_of_getElem? (i := 1118) (by decide +kernel), List.mem_of_getElem? (i := 1119) (by decide +kernel)⟩
theorem lw_p38 : lw_okq (⟨"EndingCourtModel", "laySides", "(I)V"⟩, 50) := ⟨⟨by decide +kernel, by decide +kernel⟩, List.mem_of_getElem? (i := 862) (by decide +kernel), List.mem_of_getElem? (i := 1122) (by decide +kernel), List.mem_of_getElem? (i := 1123) (by decide +kernel)⟩
theorem lw_p39 : lw_okq (⟨"EndingCourtModel", "addSide", "(JJJJ)V"⟩, 50) := ⟨⟨by decide +kernel, by decide +kernel⟩, List.mem_of_getElem? (i := 862) (by decide +kernel), List.mem_of_getElem? (i := 1126) (by decide +kernel), List.mem_of_getElem? (i := 1127) (by decide +kernel)⟩
theorem lw_p40 : lw_okq (⟨"EndingCourtModel", "isZero", "(I)Z"⟩, 50) := ⟨⟨by decide +kernel, by decide +kernel⟩, List.mem_of_getElem? (i := 862) (by decide +kernel), List.mem_of_getElem? (i := 1131) (by decide +kernel), List.mem_of_getElem? (i := 1132) (by decide +kernel)⟩
theorem lw_p41 : lw_okq (⟨"EndingCourtModel", "twoLeaveNothing", "(II)Z"⟩, 50) := ⟨⟨by decide +kernel, by decide +kernel⟩, List.mem_of_getElem? (i := 862) (by decide +kernel), List.mem_of_getElem? (i := 1135) (by decide +kernel), List.mem_of_getElem? (i := 1136) (by decide +kernel)⟩
theorem lw_p42 : lw_okq (⟨"EndingCourtModel", "areParallel", "(II)Z"⟩, 50) := ⟨⟨by decide +kernel, by decide +kernel⟩, List.mem_of_getElem? (i := 862) (by decide +kernel), List.mem_of_getElem? (i := 1139) (by decide +kernel), List.mem_of_getElem? (i := 1140) (by decide +kernel)⟩
theorem lw_p43 : lw_okq (⟨"EndingCourtModel", "cross", "(III)J"⟩, 50) := ⟨⟨by decide +kernel, by decide +kernel⟩, List.mem_of_getElem? (i := 862) (by decide +kernel), List.mem_of_getElem? (i := 1143) (by decide +kernel), List.mem_of_getElem? (i := 1144) (by decide +kernel)⟩
theorem lw_p44 : lw_okq (⟨"EndingCourtModel", "threeLeaveNothing", "(III)Z"⟩, 50) := ⟨⟨by decide +kernel, by decide +kernel⟩, List.mem_of_getElem? (i := 862) (by decide +kernel), List.mem_of_getElem? (i := 1148) (by decide +kernel), List.mem_of_getElem? (i := 1149) (by decide +kernel)⟩
theorem lw_p45 : lw_okq (⟨"EndingCourtModel", "determinant", "(III)J"⟩, 50) := ⟨⟨by decide +kernel, by decide +kernel⟩, List.mem_of_getElem? (i := 862) (by decide +kernel), List.mem_of_getElem? (i := 1152) (by decide +kernel), List.mem_of_getElem? (i := 1153) (by decide +kernel)⟩
theorem lw_p46 : lw_okq (⟨"EndingCourtModel", "leaveNothing", "(JJJJIIII)Z"⟩, 50) := ⟨⟨by decide +kernel, by decide +kernel⟩, List.mem_of_getElem? (i := 862) (by decide +kernel), List.mem_of_getElem? (i := 1156) (by decide +kernel), List.mem_of_getElem? (i := 1157) (by decide +kernel)⟩
theorem lw_p47 : lw_okq (⟨"EndingCourtModel", "fourLeaveNothing", "(IIII)Z"⟩, 50) := ⟨⟨by decide +kernel, by decide +kernel⟩, List.mem_of_getElem? (i := 862) (by decide +kernel), List.mem_of_getElem? (i := 1160) (by decide +kernel), List.mem_of_getElem? (i := 1161) (by decide +kernel)⟩
def lw_privs_3 : List (MethodName × Nat) := [(⟨"EndingCourtModel", "turnFrom", "([J)I"⟩, 50), (⟨"EndingCourtModel", "turnAt", "([J)I"⟩, 50), (⟨"EndingCourtModel", "keep", "([JI)I"⟩, 50), (⟨"EndingCourtModel", "isSum", "(III)Z"⟩, 50), (⟨"EndingCourtModel", "doesRank", "(III)Z"⟩, 50), (⟨"EndingCourtModel", "tellsOf", "(IIII)I"⟩, 50), (⟨"EndingCourtModel", "laySides", "(I)V"⟩, 50), (⟨"EndingCourtModel", "addSide", "(JJJJ)V"⟩, 50), (⟨"EndingCourtModel", "isZero", "(I)Z"⟩, 50), (⟨"EndingCourtModel", "twoLeaveNothing", "(II)Z"⟩, 50), (⟨"EndingCourtModel", "areParallel", "(II)Z"⟩, 50), (⟨"EndingCourtModel", "cross", "(III)J"⟩, 50), (⟨"EndingCourtModel", "threeLeaveNothing", "(III)Z"⟩, 50), (⟨"EndingCourtModel", "determinant", "(III)J"⟩, 50), (⟨"EndingCourtModel", "leaveNothing", "(JJJJIIII)Z"⟩, 50), (⟨"EndingCourtModel", "fourLeaveNothing", "(IIII)Z"⟩, 50)]
theorem lw_r3 : ∀ q ∈ lw_privs_3, lw_okq q := List.forall_mem_cons.mpr ⟨lw_p32, List.forall_mem_cons.mpr ⟨lw_p33, List.forall_mem_cons.mpr ⟨lw_p34, List.forall_mem_cons.mpr ⟨lw_p35, List.forall_mem_cons.mpr ⟨lw_p36, List.forall_mem_cons.mpr ⟨lw_p37, List.forall_mem_cons.mpr ⟨lw_p38, List.forall_mem_cons.mpr ⟨lw_p39, List.forall_mem_cons.mpr ⟨lw_p40, List.forall_mem_cons.mpr ⟨lw_p41, List.forall_mem_cons.mpr ⟨lw_p42, List.forall_mem_cons.mpr ⟨lw_p43, List.forall_mem_cons.mpr ⟨lw_p44, List.forall_mem_cons.mpr ⟨lw_p45, List.forall_mem_cons.mpr ⟨lw_p46, List.forall_mem_cons.mpr ⟨lw_p47, fun _ h => absurd h List.not_mem_nil⟩⟩⟩⟩⟩⟩⟩⟩⟩⟩⟩⟩⟩⟩⟩⟩
theorem lw_p48 : lw_okq (⟨"EndingCourtModel", "findLeast", "()V"⟩, 50) := ⟨⟨by decide +kernel, by decide +kernel⟩, List.mem_of_getElem? (i := 862) (by decide +kernel), List.mem_of_getElem? (i := 1164) (by decide +kernel), List.mem_of_getElem? (i := 1165) (by decide +kernel)⟩
theorem lw_p49 : lw_okq (⟨"EndingCourtModel", "byOne", "(I)V"⟩, 50) := ⟨⟨by decide +kernel, by decide +kernel⟩, List.mem_of_getElem? (i := 862) (by decide +kernel), List.mem_of_getElem? (i := 1168) (by decide +kernel), List.mem_of_getElem? (i := 1169) (by decide +kernel)⟩
theorem lw_p50 : lw_okq (⟨"EndingCourtModel", "crossWanted", "(II)J"⟩, 50) := ⟨⟨by decide +kernel, by decide +kernel⟩, List.mem_of_getElem? (i := 862) (by decide +kernel), List.mem_of_getElem? (i := 1172) (by decide +kernel), List.mem_of_getElem? (i := 1173) (by decide +kernel)⟩
theorem lw_p51 : lw_okq (⟨"EndingCourtModel", "offer", "(JJJJIII)V"⟩, 50) := ⟨⟨by decide +kernel, by decide +kernel⟩, List.mem_of_getElem? (i := 862) (by decide +kernel), List.mem_of_getElem? (i := 1176) (by decide +kernel), List.mem_of_getElem? (i := 1177) (by decide +kernel)⟩
theorem lw_p52 : lw_okq (⟨"EndingCourtModel", "byTwo", "(II)V"⟩, 50) := ⟨⟨by decide +kernel, by decide +kernel⟩, List.mem_of_getElem? (i := 862) (by decide +kernel), List.mem_of_getElem? (i := 1188) (by decide +kernel), List.mem_of_getElem? (i := 1189) (by decide +kernel)⟩
theorem lw_p53 : lw_okq (⟨"EndingCourtModel", "determinantWanted", "(II)J"⟩, 50) := ⟨⟨by decide +kernel, by decide +kernel⟩, List.mem_of_getElem? (i := 862) (by decide +kernel), List.mem_of_getElem? (i := 1192) (by decide +kernel), List.mem_of_getElem? (i := 1193) (by decide +kernel)⟩
theorem lw_p54 : lw_okq (⟨"EndingCourtModel", "isLeastAtLeast", "(J)Z"⟩, 50) := ⟨⟨by decide +kernel, by decide +kernel⟩, List.mem_of_getElem? (i := 862) (by decide +kernel), List.mem_of_getElem? (i := 1196) (by decide +kernel), List.mem_of_getElem? (i := 1197) (by decide +kernel)⟩
theorem lw_p55 : lw_okq (⟨"EndingCourtModel", "floorOf", "(III)J"⟩, 50) := ⟨⟨by decide +kernel, by decide +kernel⟩, List.mem_of_getElem? (i := 862) (by decide +kernel), List.mem_of_getElem? (i := 1208) (by decide +kernel), List.mem_of_getElem? (i := 1209) (by decide +kernel)⟩
theorem lw_p56 : lw_okq (⟨"EndingCourtModel", "firstSum", "(I)V"⟩, 50) := ⟨⟨by decide +kernel, by decide +kernel⟩, List.mem_of_getElem? (i := 862) (by decide +kernel), List.mem_of_getElem? (i := 1220) (by decide +kernel), List.mem_of_getElem? (i := 1221) (by decide +kernel)⟩
theorem lw_p57 : lw_okq (⟨"EndingCourtModel", "nextSum", "(I)Z"⟩, 50) := ⟨⟨by decide +kernel, by decide +kernel⟩, List.mem_of_getElem? (i := 862) (by decide +kernel), List.mem_of_getElem? (i := 1224) (by decide +kernel), List.mem_of_getElem? (i := 1225) (by decide +kernel)⟩
theorem lw_p58 : lw_okq (⟨"EndingCourtModel", "step", "(I)Z"⟩, 50) := ⟨⟨by decide +kernel, by decide +kernel⟩, List.mem_of_getElem? (i := 862) (by decide +kernel), List.mem_of_getElem? (i := 1229) (by decide +kernel), List.mem_of_getElem? (i := 1230) (by decide +kernel)⟩
theorem lw_p59 : lw_okq (⟨"EndingCourtModel", "takes", "()Z"⟩, 50) := ⟨⟨by decide +kernel, by decide +kernel⟩, List.mem_of_getElem? (i := 862) (by decide +kernel), List.mem_of_getElem? (i := 1237) (by decide +kernel), List.mem_of_getElem? (i := 1238) (by decide +kernel)⟩
theorem lw_p60 : lw_okq (⟨"EndingCourtModel", "goRound", "()Z"⟩, 50) := ⟨⟨by decide +kernel, by decide +kernel⟩, List.mem_of_getElem? (i := 862) (by decide +kernel), List.mem_of_getElem? (i := 1263) (by decide +kernel), List.mem_of_getElem? (i := 1264) (by decide +kernel)⟩
theorem lw_p61 : lw_okq (⟨"EndingCourtModel", "isPassed", "(I)Z"⟩, 50) := ⟨⟨by decide +kernel, by decide +kernel⟩, List.mem_of_getElem? (i := 862) (by decide +kernel), List.mem_of_getElem? (i := 1267) (by decide +kernel), List.mem_of_getElem? (i := 1268) (by decide +kernel)⟩
theorem lw_p62 : lw_okq (⟨"EndingCourtModel", "reach", "([III)V"⟩, 50) := ⟨⟨by decide +kernel, by decide +kernel⟩, List.mem_of_getElem? (i := 862) (by decide +kernel), List.mem_of_getElem? (i := 1271) (by decide +kernel), List.mem_of_getElem? (i := 1272) (by decide +kernel)⟩
theorem lw_p63 : lw_okq (⟨"EndingCourtModel", "isChanged", "(I)Z"⟩, 50) := ⟨⟨by decide +kernel, by decide +kernel⟩, List.mem_of_getElem? (i := 862) (by decide +kernel), List.mem_of_getElem? (i := 1275) (by decide +kernel), List.mem_of_getElem? (i := 1276) (by decide +kernel)⟩
def lw_privs_4 : List (MethodName × Nat) := [(⟨"EndingCourtModel", "findLeast", "()V"⟩, 50), (⟨"EndingCourtModel", "byOne", "(I)V"⟩, 50), (⟨"EndingCourtModel", "crossWanted", "(II)J"⟩, 50), (⟨"EndingCourtModel", "offer", "(JJJJIII)V"⟩, 50), (⟨"EndingCourtModel", "byTwo", "(II)V"⟩, 50), (⟨"EndingCourtModel", "determinantWanted", "(II)J"⟩, 50), (⟨"EndingCourtModel", "isLeastAtLeast", "(J)Z"⟩, 50), (⟨"EndingCourtModel", "floorOf", "(III)J"⟩, 50), (⟨"EndingCourtModel", "firstSum", "(I)V"⟩, 50), (⟨"EndingCourtModel", "nextSum", "(I)Z"⟩, 50), (⟨"EndingCourtModel", "step", "(I)Z"⟩, 50), (⟨"EndingCourtModel", "takes", "()Z"⟩, 50), (⟨"EndingCourtModel", "goRound", "()Z"⟩, 50), (⟨"EndingCourtModel", "isPassed", "(I)Z"⟩, 50), (⟨"EndingCourtModel", "reach", "([III)V"⟩, 50), (⟨"EndingCourtModel", "isChanged", "(I)Z"⟩, 50)]
theorem lw_r4 : ∀ q ∈ lw_privs_4, lw_okq q := List.forall_mem_cons.mpr ⟨lw_p48, List.forall_mem_cons.mpr ⟨lw_p49, List.forall_mem_cons.mpr ⟨lw_p50, List.forall_mem_cons.mpr ⟨lw_p51, List.forall_mem_cons.mpr ⟨lw_p52, List.forall_mem_cons.mpr ⟨lw_p53, List.forall_mem_cons.mpr ⟨lw_p54, List.forall_mem_cons.mpr ⟨lw_p55, List.forall_mem_cons.mpr ⟨lw_p56, List.forall_mem_cons.mpr ⟨lw_p57, List.forall_mem_cons.mpr ⟨lw_p58, List.forall_mem_cons.mpr ⟨lw_p59, List.forall_mem_cons.mpr ⟨lw_p60, List.forall_mem_cons.mpr ⟨lw_p61, List.forall_mem_cons.mpr ⟨lw_p62, List.forall_mem_cons.mpr ⟨lw_p63, fun _ h => absurd h List.not_mem_nil⟩⟩⟩⟩⟩⟩⟩⟩⟩⟩⟩⟩⟩⟩⟩⟩
theorem lw_p64 : lw_okq (⟨"EndingCourtModel", "makeAll", "()Z"⟩, 50) := ⟨⟨by decide +kernel, by decide +kernel⟩, List.mem_of_getElem? (i := 862) (by decide +kernel), List.mem_of_getElem? (i := 1303) (by decide +kernel), List.mem_of_getElem? (i := 1304) (by decide +kernel)⟩
theorem lw_p65 : lw_okq (⟨"EndingCourtModel", "make", "(III)Z"⟩, 50) := ⟨⟨by decide +kernel, by decide +kernel⟩, List.mem_of_getElem? (i := 862) (by decide +kernel), List.mem_of_getElem? (i := 1307) (by decide +kernel), List.mem_of_getElem? (i := 1308) (by decide +kernel)⟩
theorem lw_p66 : lw_okq (⟨"EndingCourtModel", "together", "(II)I"⟩, 50) := ⟨⟨by decide +kernel, by decide +kernel⟩, List.mem_of_getElem? (i := 862) (by decide +kernel), List.mem_of_getElem? (i := 1311) (by decide +kernel), List.mem_of_getElem? (i := 1312) (by decide +kernel)⟩
theorem lw_p67 : lw_okq (⟨"EndingCourtModel", "isAsked", "(I)Z"⟩, 50) := ⟨⟨by decide +kernel, by decide +kernel⟩, List.mem_of_getElem? (i := 862) (by decide +kernel), List.mem_of_getElem? (i := 1318) (by decide +kernel), List.mem_of_getElem? (i := 1319) (by decide +kernel)⟩
def lw_privs_5 : List (MethodName × Nat) := [(⟨"EndingCourtModel", "makeAll", "()Z"⟩, 50), (⟨"EndingCourtModel", "make", "(III)Z"⟩, 50), (⟨"EndingCourtModel", "together", "(II)I"⟩, 50), (⟨"EndingCourtModel", "isAsked", "(I)Z"⟩, 50)]
theorem lw_r5 : ∀ q ∈ lw_privs_5, lw_okq q := List.forall_mem_cons.mpr ⟨lw_p64, List.forall_mem_cons.mpr ⟨lw_p65, List.forall_mem_cons.mpr ⟨lw_p66, List.forall_mem_cons.mpr ⟨lw_p67, fun _ h => absurd h List.not_mem_nil⟩⟩⟩⟩
def lw_privs : List (MethodName × Nat) := lw_privs_1 ++ (lw_privs_2 ++ (lw_privs_3 ++ (lw_privs_4 ++ (lw_privs_5))))
def lw_tbl : List Cond := k2_sels lw_privs ++ tables_1
theorem lw_privs_ok : ∀ q ∈ lw_privs, lw_okq q := by
  show ∀ q ∈ lw_privs_1 ++ (lw_privs_2 ++ (lw_privs_3 ++ (lw_privs_4 ++ (lw_privs_5)))), lw_okq q
  exact List.forall_mem_append.mpr ⟨lw_r1, List.forall_mem_append.mpr ⟨lw_r2, List.forall_mem_append.mpr ⟨lw_r3, List.forall_mem_append.mpr ⟨lw_r4, lw_r5⟩⟩⟩⟩
end
section
/-! ===== BEGIN words of one list among another's, by their places ===== -/
theorem goodIn_r {big : List Cond} (ws : List Cond) (ps : List Nat) (hp : ws = ps.filterMap (fun i => big[i]?)) (h : ws.all goodWord = true) : GoodIn big ws := by
  intro w hw
  have h1 := List.all_eq_true.mp h w hw
  rw [hp] at hw
  obtain ⟨i, -, hi⟩ := List.mem_filterMap.mp hw
  have hm : w ∈ big := by first | exact List.mem_of_getElem? hi | exact List.getElem?_mem hi
  exact ⟨hm, good_of_word h1⟩
theorem goodIn_app {big a b : List Cond} (ha : GoodIn big a) (hb : GoodIn big b) : GoodIn big (a ++ b) := fun w h => (List.mem_append.mp h).elim (ha w) (hb w)
theorem goodIn_ca {big a b : List Cond} {c : Cond} (ha : GoodIn big (c :: a)) (hb : GoodIn big b) : GoodIn big (c :: (a ++ b)) := fun w h => (List.mem_cons.mp h).elim (fun e => ha w (List.mem_cons.mpr (Or.inl e))) (fun h => (List.mem_append.mp h).elim (fun h => ha w (List.mem_cons.mpr (Or.inr h))) (hb w))
theorem goodIn_sub {big ws : List Cond} (hm : ∀ w ∈ ws, w ∈ big) (h : ws.all goodWord = true) : GoodIn big ws := fun w hw => ⟨hm w hw, good_of_word (List.all_eq_true.mp h w hw)⟩
/-! ===== END ===== -/

/-! ===== BEGIN printed: names, fields, word lists, decode rows ===== -/
def RX0 : String := "EndingCourt$Affine"
def TX0 : u_T := fun k => match k with
  | 0 => ("EndingCourt$Affine", "weights", "[I", true)
  | _ => ("EndingCourt$Affine", "constant", "I", false)
def tyX0 : Nat → FieldType := fun k => match k with
  | 0 => .array .int
  | _ => .int
abbrev wsX00 : List Cond := u_ws RX0 TX0 2
theorem nmX0 : ∀ a, a < 2 → ∀ b, b < 2 → a ≠ b → (TX0 a).2.1 ≠ (TX0 b).2.1 := by decide +kernel
theorem tyX0_ok : ∀ k, k < 2 → parseFieldDescriptor (TX0 k).2.2.1 = some (tyX0 k) := by decide +kernel
abbrev cX0_init : ByteArray := prog_2_method_1_code
def yX0_init : MethodName := ⟨RX0, "<init>", "()V"⟩
abbrev cX0_put : ByteArray := prog_2_method_2_code
def yX0_put : MethodName := ⟨RX0, "put", "(III)V"⟩
abbrev cX0_putSame : ByteArray := prog_2_method_3_code
def yX0_putSame : MethodName := ⟨RX0, "putSame", "(I)V"⟩
abbrev cX0_valueAt : ByteArray := prog_2_method_4_code
def yX0_valueAt : MethodName := ⟨RX0, "valueAt", "([J)J"⟩
abbrev cX0_farthest : ByteArray := prog_2_method_5_code
def yX0_farthest : MethodName := ⟨RX0, "farthest", "(LEndingCourt$Box;I)J"⟩
def RX1 : String := "EndingCourt$Body"
def TX1 : u_T := fun k => match k with
  | 0 => ("EndingCourt$Body", "guards", "[LEndingCourt$Affine;", true)
  | 1 => ("EndingCourt$Body", "rules", "[LEndingCourt$Affine;", true)
  | 2 => ("EndingCourt$Body", "place", "LEndingCourt$Place;", true)
  | 3 => ("EndingCourt$Body", "change", "[J", true)
  | _ => ("EndingCourt$Body", "guardCount", "I", false)
def tyX1 : Nat → FieldType := fun k => match k with
  | 0 => .array (.object "EndingCourt$Affine")
  | 1 => .array (.object "EndingCourt$Affine")
  | 2 => .object "EndingCourt$Place"
  | 3 => .array .long
  | _ => .int
abbrev wsX10 : List Cond := u_ws RX1 TX1 5
theorem nmX1 : ∀ a, a < 5 → ∀ b, b < 5 → a ≠ b → (TX1 a).2.1 ≠ (TX1 b).2.1 := by decide +kernel
theorem tyX1_ok : ∀ k, k < 5 → parseFieldDescriptor (TX1 k).2.2.1 = some (tyX1 k) := by decide +kernel
abbrev cX1_init : ByteArray := prog_3_method_1_code
def yX1_init : MethodName := ⟨RX1, "<init>", "()V"⟩
abbrev cX1_startAnew : ByteArray := prog_3_method_2_code
def yX1_startAnew : MethodName := ⟨RX1, "startAnew", "()V"⟩
abbrev cX1_addGuard : ByteArray := prog_3_method_3_code
def yX1_addGuard : MethodName := ⟨RX1, "addGuard", "(III)V"⟩
abbrev cX1_holdsAt : ByteArray := prog_3_method_4_code
def yX1_holdsAt : MethodName := ⟨RX1, "holdsAt", "([J)Z"⟩
abbrev cX1_isPassedOver : ByteArray := prog_3_method_5_code
def yX1_isPassedOver : MethodName := ⟨RX1, "isPassedOver", "(LEndingCourt$Box;)Z"⟩
abbrev cX1_move : ByteArray := prog_3_method_6_code
def yX1_move : MethodName := ⟨RX1, "move", "([J)Z"⟩
abbrev cX1_binds : ByteArray := prog_3_method_7_code
def yX1_binds : MethodName := ⟨RX1, "binds", "([I)Z"⟩
abbrev cX1_changesAtMost : ByteArray := prog_3_method_8_code
def yX1_changesAtMost : MethodName := ⟨RX1, "changesAtMost", "([II)Z"⟩
abbrev cX1_ranksBy : ByteArray := prog_3_method_9_code
def yX1_ranksBy : MethodName := ⟨RX1, "ranksBy", "([I)Z"⟩
def RX2 : String := "EndingCourt$Box"
def TX2 : u_T := fun k => match k with
  | _ => ("EndingCourt$Box", "ends", "[J", true)
def tyX2 : Nat → FieldType := fun k => match k with
  | _ => .array .long
abbrev wsX20 : List Cond := u_ws RX2 TX2 1
theorem nmX2 : ∀ a, a < 1 → ∀ b, b < 1 → a ≠ b → (TX2 a).2.1 ≠ (TX2 b).2.1 := by decide +kernel
theorem tyX2_ok : ∀ k, k < 1 → parseFieldDescriptor (TX2 k).2.2.1 = some (tyX2 k) := by decide +kernel
abbrev cX2_init : ByteArray := prog_4_method_1_code
def yX2_init : MethodName := ⟨RX2, "<init>", "()V"⟩
abbrev cX2_end : ByteArray := prog_4_method_2_code
def yX2_end : MethodName := ⟨RX2, "end", "(II)J"⟩
abbrev cX2_put : ByteArray := prog_4_method_3_code
def yX2_put : MethodName := ⟨RX2, "put", "(IIJ)V"⟩
abbrev cX2_zeroAll : ByteArray := prog_4_method_4_code
def yX2_zeroAll : MethodName := ⟨RX2, "zeroAll", "()V"⟩
abbrev cX2_openAll : ByteArray := prog_4_method_5_code
def yX2_openAll : MethodName := ⟨RX2, "openAll", "(I)V"⟩
abbrev cX2_copyFrom : ByteArray := prog_4_method_6_code
def yX2_copyFrom : MethodName := ⟨RX2, "copyFrom", "(LEndingCourt$Box;)V"⟩
abbrev cX2_isCrossed : ByteArray := prog_4_method_7_code
def yX2_isCrossed : MethodName := ⟨RX2, "isCrossed", "()Z"⟩
abbrev cX2_encloses : ByteArray := prog_4_method_8_code
def yX2_encloses : MethodName := ⟨RX2, "encloses", "([J)Z"⟩
abbrev cX2_isOut : ByteArray := prog_4_method_9_code
def yX2_isOut : MethodName := ⟨RX2, "isOut", "()Z"⟩
abbrev cX2_widen : ByteArray := prog_4_method_10_code
def yX2_widen : MethodName := ⟨RX2, "widen", "(IIJ)V"⟩
def RX3 : String := "EndingCourt$Calls"
def TX3 : u_T := fun k => match k with
  | 0 => ("EndingCourt$Calls", "given", "[J", true)
  | 1 => ("EndingCourt$Calls", "count", "I", false)
  | 2 => ("EndingCourt$Calls", "all", "[J", true)
  | 3 => ("EndingCourt$Calls", "allCount", "I", false)
  | 4 => ("EndingCourt$Calls", "table", "[I", true)
  | 5 => ("EndingCourt$Calls", "latestMade", "I", false)
  | 6 => ("EndingCourt$Calls", "witnessFunction", "I", false)
  | _ => ("EndingCourt$Calls", "witnessTells", "I", false)
def tyX3 : Nat → FieldType := fun k => match k with
  | 0 => .array .long
  | 1 => .int
  | 2 => .array .long
  | 3 => .int
  | 4 => .array .int
  | 5 => .int
  | 6 => .int
  | _ => .int
abbrev wsX30 : List Cond := u_ws RX3 TX3 8
theorem nmX3 : ∀ a, a < 8 → ∀ b, b < 8 → a ≠ b → (TX3 a).2.1 ≠ (TX3 b).2.1 := by decide +kernel
theorem tyX3_ok : ∀ k, k < 8 → parseFieldDescriptor (TX3 k).2.2.1 = some (tyX3 k) := by decide +kernel
abbrev cX3_init : ByteArray := prog_5_method_1_code
def yX3_init : MethodName := ⟨RX3, "<init>", "()V"⟩
abbrev cX3_add : ByteArray := prog_5_method_2_code
def yX3_add : MethodName := ⟨RX3, "add", "(III)I"⟩
abbrev cX3_removeAll : ByteArray := prog_5_method_3_code
def yX3_removeAll : MethodName := ⟨RX3, "removeAll", "()I"⟩
abbrev cX3_judge : ByteArray := prog_5_method_4_code
def yX3_judge : MethodName := ⟨RX3, "judge", "()I"⟩
abbrev cX3_makeAll : ByteArray := prog_5_method_5_code
def yX3_makeAll : MethodName := ⟨RX3, "makeAll", "()Z"⟩
abbrev cX3_keep : ByteArray := prog_5_method_6_code
def yX3_keep : MethodName := ⟨RX3, "keep", "(J)Z"⟩
abbrev cX3_firstFault : ByteArray := prog_5_method_7_code
def yX3_firstFault : MethodName := ⟨RX3, "firstFault", "()I"⟩
abbrev cX3_isAhead : ByteArray := prog_5_method_8_code
def yX3_isAhead : MethodName := ⟨RX3, "isAhead", "(JJ)Z"⟩
abbrev cX3_isFault : ByteArray := prog_5_method_9_code
def yX3_isFault : MethodName := ⟨RX3, "isFault", "(J)Z"⟩
abbrev cX3_together : ByteArray := prog_5_method_10_code
def yX3_together : MethodName := ⟨RX3, "together", "(JJ)J"⟩
abbrev cX3_packed : ByteArray := prog_5_method_11_code
def yX3_packed : MethodName := ⟨RX3, "packed", "(III)J"⟩
abbrev cX3_fromOf : ByteArray := prog_5_method_12_code
def yX3_fromOf : MethodName := ⟨RX3, "fromOf", "(J)I"⟩
abbrev cX3_toOf : ByteArray := prog_5_method_13_code
def yX3_toOf : MethodName := ⟨RX3, "toOf", "(J)I"⟩
abbrev cX3_toldOf : ByteArray := prog_5_method_14_code
def yX3_toldOf : MethodName := ⟨RX3, "toldOf", "(J)I"⟩
abbrev cX3_lessOf : ByteArray := prog_5_method_15_code
def yX3_lessOf : MethodName := ⟨RX3, "lessOf", "(J)I"⟩
abbrev cX3_masksOf : ByteArray := prog_5_method_16_code
def yX3_masksOf : MethodName := ⟨RX3, "masksOf", "(I)I"⟩
abbrev cX3_numberOf : ByteArray := prog_5_method_17_code
def yX3_numberOf : MethodName := ⟨RX3, "numberOf", "(J)I"⟩
def RX4 : String := "EndingCourt$Course"
def TX4 : u_T := fun k => match k with
  | 0 => ("EndingCourt$Course", "far", "[J", true)
  | 1 => ("EndingCourt$Course", "near", "[J", true)
  | _ => ("EndingCourt$Course", "lead", "I", false)
def tyX4 : Nat → FieldType := fun k => match k with
  | 0 => .array .long
  | 1 => .array .long
  | _ => .int
abbrev wsX40 : List Cond := u_ws RX4 TX4 3
theorem nmX4 : ∀ a, a < 3 → ∀ b, b < 3 → a ≠ b → (TX4 a).2.1 ≠ (TX4 b).2.1 := by decide +kernel
theorem tyX4_ok : ∀ k, k < 3 → parseFieldDescriptor (TX4 k).2.2.1 = some (tyX4 k) := by decide +kernel
abbrev cX4_init : ByteArray := prog_6_method_1_code
def yX4_init : MethodName := ⟨RX4, "<init>", "()V"⟩
abbrev cX4_forgetRing : ByteArray := prog_6_method_2_code
def yX4_forgetRing : MethodName := ⟨RX4, "forgetRing", "()V"⟩
abbrev cX4_findRing : ByteArray := prog_6_method_3_code
def yX4_findRing : MethodName := ⟨RX4, "findRing", "(LEndingCourt$Program;[JI)I"⟩
abbrev cX4_lengthWithin : ByteArray := prog_6_method_4_code
def yX4_lengthWithin : MethodName := ⟨RX4, "lengthWithin", "(LEndingCourt$Program;[JI)I"⟩
abbrev cX4_leadOf : ByteArray := prog_6_method_5_code
def yX4_leadOf : MethodName := ⟨RX4, "leadOf", "(LEndingCourt$Program;[JII)I"⟩
abbrev cX4_isSame : ByteArray := prog_6_method_6_code
def yX4_isSame : MethodName := ⟨RX4, "isSame", "()Z"⟩
abbrev cX4_copy : ByteArray := prog_6_method_7_code
def yX4_copy : MethodName := ⟨RX4, "copy", "([J[J)V"⟩
def RX5 : String := "EndingCourt$Findings"
def TX5 : u_T := fun k => match k with
  | 0 => ("EndingCourt$Findings", "order", "LEndingCourt$SumOrder;", true)
  | 1 => ("EndingCourt$Findings", "sums", "[I", true)
  | 2 => ("EndingCourt$Findings", "count", "I", false)
  | 3 => ("EndingCourt$Findings", "rowOf", "[I", true)
  | 4 => ("EndingCourt$Findings", "ranking", "[I", true)
  | 5 => ("EndingCourt$Findings", "rankingFloor", "J", false)
  | _ => ("EndingCourt$Findings", "ranked", "Z", false)
def tyX5 : Nat → FieldType := fun k => match k with
  | 0 => .object "EndingCourt$SumOrder"
  | 1 => .array .int
  | 2 => .int
  | 3 => .array .int
  | 4 => .array .int
  | 5 => .long
  | _ => .boolean
abbrev wsX50 : List Cond := u_ws RX5 TX5 7
theorem nmX5 : ∀ a, a < 7 → ∀ b, b < 7 → a ≠ b → (TX5 a).2.1 ≠ (TX5 b).2.1 := by decide +kernel
theorem tyX5_ok : ∀ k, k < 7 → parseFieldDescriptor (TX5 k).2.2.1 = some (tyX5 k) := by decide +kernel
abbrev cX5_init : ByteArray := prog_7_method_1_code
def yX5_init : MethodName := ⟨RX5, "<init>", "()V"⟩
abbrev cX5_forgetAll : ByteArray := prog_7_method_2_code
def yX5_forgetAll : MethodName := ⟨RX5, "forgetAll", "()V"⟩
abbrev cX5_weightOf : ByteArray := prog_7_method_3_code
def yX5_weightOf : MethodName := ⟨RX5, "weightOf", "(II)I"⟩
abbrev cX5_seekRank : ByteArray := prog_7_method_4_code
def yX5_seekRank : MethodName := ⟨RX5, "seekRank", "(LEndingCourt$Program;I)Z"⟩
abbrev cX5_seekRows : ByteArray := prog_7_method_5_code
def yX5_seekRows : MethodName := ⟨RX5, "seekRows", "(LEndingCourt$Program;I)I"⟩
abbrev cX5_seekRow : ByteArray := prog_7_method_6_code
def yX5_seekRow : MethodName := ⟨RX5, "seekRow", "(LEndingCourt$Program;I)Z"⟩
abbrev cX5_isRow : ByteArray := prog_7_method_7_code
def yX5_isRow : MethodName := ⟨RX5, "isRow", "(LEndingCourt$Program;[I)Z"⟩
abbrev cX5_release : ByteArray := prog_7_method_8_code
def yX5_release : MethodName := ⟨RX5, "release", "(LEndingCourt$Program;I)I"⟩
abbrev cX5_keep : ByteArray := prog_7_method_9_code
def yX5_keep : MethodName := ⟨RX5, "keep", "(I)V"⟩
def RX6 : String := "EndingCourt$Place"
def TX6 : u_T := fun k => match k with
  | 0 => ("EndingCourt$Place", "points", "[J", true)
  | 1 => ("EndingCourt$Place", "count", "I", false)
  | 2 => ("EndingCourt$Place", "corners", "I", false)
  | _ => ("EndingCourt$Place", "known", "Z", false)
def tyX6 : Nat → FieldType := fun k => match k with
  | 0 => .array .long
  | 1 => .int
  | 2 => .int
  | _ => .boolean
abbrev wsX60 : List Cond := u_ws RX6 TX6 4
theorem nmX6 : ∀ a, a < 4 → ∀ b, b < 4 → a ≠ b → (TX6 a).2.1 ≠ (TX6 b).2.1 := by decide +kernel
theorem tyX6_ok : ∀ k, k < 4 → parseFieldDescriptor (TX6 k).2.2.1 = some (tyX6 k) := by decide +kernel
abbrev cX6_init : ByteArray := prog_8_method_1_code
def yX6_init : MethodName := ⟨RX6, "<init>", "()V"⟩
abbrev cX6_empty : ByteArray := prog_8_method_2_code
def yX6_empty : MethodName := ⟨RX6, "empty", "()V"⟩
abbrev cX6_isEmpty : ByteArray := prog_8_method_3_code
def yX6_isEmpty : MethodName := ⟨RX6, "isEmpty", "()Z"⟩
abbrev cX6_add : ByteArray := prog_8_method_4_code
def yX6_add : MethodName := ⟨RX6, "add", "([J)V"⟩
abbrev cX6_hasPoint : ByteArray := prog_8_method_5_code
def yX6_hasPoint : MethodName := ⟨RX6, "hasPoint", "([J)Z"⟩
abbrev cX6_valueAt : ByteArray := prog_8_method_6_code
def yX6_valueAt : MethodName := ⟨RX6, "valueAt", "([II)J"⟩
abbrev cX6_isBoundBelow : ByteArray := prog_8_method_7_code
def yX6_isBoundBelow : MethodName := ⟨RX6, "isBoundBelow", "([I)Z"⟩
abbrev cX6_isNowherePositive : ByteArray := prog_8_method_8_code
def yX6_isNowherePositive : MethodName := ⟨RX6, "isNowherePositive", "([JJ)Z"⟩
abbrev cX6_floorOf : ByteArray := prog_8_method_9_code
def yX6_floorOf : MethodName := ⟨RX6, "floorOf", "([I)J"⟩
def RX7 : String := "EndingCourt$Program"
def TX7 : u_T := fun k => match k with
  | 0 => ("EndingCourt$Program", "bodies", "[LEndingCourt$Body;", true)
  | 1 => ("EndingCourt$Program", "numbers", "I", false)
  | _ => ("EndingCourt$Program", "count", "I", false)
def tyX7 : Nat → FieldType := fun k => match k with
  | 0 => .array (.object "EndingCourt$Body")
  | 1 => .int
  | _ => .int
abbrev wsX70 : List Cond := u_ws RX7 TX7 3
theorem nmX7 : ∀ a, a < 3 → ∀ b, b < 3 → a ≠ b → (TX7 a).2.1 ≠ (TX7 b).2.1 := by decide +kernel
theorem tyX7_ok : ∀ k, k < 3 → parseFieldDescriptor (TX7 k).2.2.1 = some (tyX7 k) := by decide +kernel
abbrev cX7_init : ByteArray := prog_9_method_1_code
def yX7_init : MethodName := ⟨RX7, "<init>", "()V"⟩
abbrev cX7_startAnew : ByteArray := prog_9_method_2_code
def yX7_startAnew : MethodName := ⟨RX7, "startAnew", "(I)V"⟩
abbrev cX7_addBody : ByteArray := prog_9_method_3_code
def yX7_addBody : MethodName := ⟨RX7, "addBody", "()I"⟩
abbrev cX7_has : ByteArray := prog_9_method_4_code
def yX7_has : MethodName := ⟨RX7, "has", "(I)Z"⟩
abbrev cX7_hasNumber : ByteArray := prog_9_method_5_code
def yX7_hasNumber : MethodName := ⟨RX7, "hasNumber", "(I)Z"⟩
abbrev cX7_chosen : ByteArray := prog_9_method_6_code
def yX7_chosen : MethodName := ⟨RX7, "chosen", "([J)I"⟩
abbrev cX7_step : ByteArray := prog_9_method_7_code
def yX7_step : MethodName := ⟨RX7, "step", "([J)I"⟩
abbrev cX7_isRankedBy : ByteArray := prog_9_method_8_code
def yX7_isRankedBy : MethodName := ⟨RX7, "isRankedBy", "([I)Z"⟩
abbrev cX7_floorOf : ByteArray := prog_9_method_9_code
def yX7_floorOf : MethodName := ⟨RX7, "floorOf", "([I)J"⟩
def RX8 : String := "EndingCourt$Rounds"
def TX8 : u_T := fun k => match k with
  | 0 => ("EndingCourt$Rounds", "now", "LEndingCourt$Box;", true)
  | _ => ("EndingCourt$Rounds", "next", "LEndingCourt$Box;", true)
def tyX8 : Nat → FieldType := fun k => match k with
  | 0 => .object "EndingCourt$Box"
  | _ => .object "EndingCourt$Box"
abbrev wsX80 : List Cond := u_ws RX8 TX8 2
theorem nmX8 : ∀ a, a < 2 → ∀ b, b < 2 → a ≠ b → (TX8 a).2.1 ≠ (TX8 b).2.1 := by decide +kernel
theorem tyX8_ok : ∀ k, k < 2 → parseFieldDescriptor (TX8 k).2.2.1 = some (tyX8 k) := by decide +kernel
abbrev cX8_init : ByteArray := prog_10_method_1_code
def yX8_init : MethodName := ⟨RX8, "<init>", "()V"⟩
abbrev cX8_goRound : ByteArray := prog_10_method_2_code
def yX8_goRound : MethodName := ⟨RX8, "goRound", "(LEndingCourt$Program;LEndingCourt$Box;I)I"⟩
abbrev cX8_lookAtBodies : ByteArray := prog_10_method_3_code
def yX8_lookAtBodies : MethodName := ⟨RX8, "lookAtBodies", "(LEndingCourt$Program;)V"⟩
abbrev cX8_settle : ByteArray := prog_10_method_4_code
def yX8_settle : MethodName := ⟨RX8, "settle", "(Z)Z"⟩
def RX9 : String := "EndingCourt$Shaper"
def TX9 : u_T := fun k => match k with
  | 0 => ("EndingCourt$Shaper", "planes", "[J", true)
  | 1 => ("EndingCourt$Shaper", "count", "I", false)
  | 2 => ("EndingCourt$Shaper", "bounding", "I", false)
  | _ => ("EndingCourt$Shaper", "point", "[J", true)
def tyX9 : Nat → FieldType := fun k => match k with
  | 0 => .array .long
  | 1 => .int
  | 2 => .int
  | _ => .array .long
abbrev wsX90 : List Cond := u_ws RX9 TX9 4
theorem nmX9 : ∀ a, a < 4 → ∀ b, b < 4 → a ≠ b → (TX9 a).2.1 ≠ (TX9 b).2.1 := by decide +kernel
theorem tyX9_ok : ∀ k, k < 4 → parseFieldDescriptor (TX9 k).2.2.1 = some (tyX9 k) := by decide +kernel
abbrev cX9_init : ByteArray := prog_11_method_1_code
def yX9_init : MethodName := ⟨RX9, "<init>", "()V"⟩
abbrev cX9_shape : ByteArray := prog_11_method_2_code
def yX9_shape : MethodName := ⟨RX9, "shape", "(LEndingCourt$Body;LEndingCourt$Box;)V"⟩
abbrev cX9_gather : ByteArray := prog_11_method_3_code
def yX9_gather : MethodName := ⟨RX9, "gather", "(LEndingCourt$Body;LEndingCourt$Box;)V"⟩
abbrev cX9_addAxisPlane : ByteArray := prog_11_method_4_code
def yX9_addAxisPlane : MethodName := ⟨RX9, "addAxisPlane", "(IJJ)V"⟩
abbrev cX9_addPlane : ByteArray := prog_11_method_5_code
def yX9_addPlane : MethodName := ⟨RX9, "addPlane", "(JJJJ)V"⟩
abbrev cX9_findCorners : ByteArray := prog_11_method_6_code
def yX9_findCorners : MethodName := ⟨RX9, "findCorners", "(LEndingCourt$Place;)V"⟩
abbrev cX9_findDirections : ByteArray := prog_11_method_7_code
def yX9_findDirections : MethodName := ⟨RX9, "findDirections", "(LEndingCourt$Place;)V"⟩
abbrev cX9_cross : ByteArray := prog_11_method_8_code
def yX9_cross : MethodName := ⟨RX9, "cross", "(III)J"⟩
abbrev cX9_meet : ByteArray := prog_11_method_9_code
def yX9_meet : MethodName := ⟨RX9, "meet", "(III)Z"⟩
abbrev cX9_follow : ByteArray := prog_11_method_10_code
def yX9_follow : MethodName := ⟨RX9, "follow", "(III)Z"⟩
abbrev cX9_isInside : ByteArray := prog_11_method_11_code
def yX9_isInside : MethodName := ⟨RX9, "isInside", "()Z"⟩
abbrev cX9_shrink : ByteArray := prog_11_method_12_code
def yX9_shrink : MethodName := ⟨RX9, "shrink", "()V"⟩
abbrev cX9_commonPart : ByteArray := prog_11_method_13_code
def yX9_commonPart : MethodName := ⟨RX9, "commonPart", "(JJ)J"⟩
def RX10 : String := "EndingCourt$SumOrder"
def TX10 : u_T := fun k => match k with
  | 0 => ("EndingCourt$SumOrder", "weights", "[I", true)
  | 1 => ("EndingCourt$SumOrder", "size", "I", false)
  | 2 => ("EndingCourt$SumOrder", "reach1", "I", false)
  | 3 => ("EndingCourt$SumOrder", "reach2", "I", false)
  | 4 => ("EndingCourt$SumOrder", "total", "I", false)
  | _ => ("EndingCourt$SumOrder", "lastTotal", "I", false)
def tyX10 : Nat → FieldType := fun k => match k with
  | 0 => .array .int
  | 1 => .int
  | 2 => .int
  | 3 => .int
  | 4 => .int
  | _ => .int
abbrev wsX100 : List Cond := u_ws RX10 TX10 6
theorem nmX10 : ∀ a, a < 6 → ∀ b, b < 6 → a ≠ b → (TX10 a).2.1 ≠ (TX10 b).2.1 := by decide +kernel
theorem tyX10_ok : ∀ k, k < 6 → parseFieldDescriptor (TX10 k).2.2.1 = some (tyX10 k) := by decide +kernel
abbrev cX10_init : ByteArray := prog_12_method_1_code
def yX10_init : MethodName := ⟨RX10, "<init>", "()V"⟩
abbrev cX10_start : ByteArray := prog_12_method_2_code
def yX10_start : MethodName := ⟨RX10, "start", "(II)V"⟩
abbrev cX10_next : ByteArray := prog_12_method_3_code
def yX10_next : MethodName := ⟨RX10, "next", "()Z"⟩
abbrev cX10_nextPair : ByteArray := prog_12_method_4_code
def yX10_nextPair : MethodName := ⟨RX10, "nextPair", "()Z"⟩
def RX11 : String := "EndingCourt"
def TX11 : u_T := fun k => match k with
  | 0 => ("EndingCourt", "program", "LEndingCourt$Program;", true)
  | 1 => ("EndingCourt", "x", "[J", true)
  | 2 => ("EndingCourt", "course", "LEndingCourt$Course;", true)
  | 3 => ("EndingCourt", "theBox", "LEndingCourt$Box;", true)
  | 4 => ("EndingCourt", "beginning", "LEndingCourt$Box;", true)
  | 5 => ("EndingCourt", "rounds", "LEndingCourt$Rounds;", true)
  | 6 => ("EndingCourt", "shaper", "LEndingCourt$Shaper;", true)
  | 7 => ("EndingCourt", "findings", "LEndingCourt$Findings;", true)
  | 8 => ("EndingCourt", "asked", "[I", true)
  | _ => ("EndingCourt", "calls", "LEndingCourt$Calls;", true)
def tyX11 : Nat → FieldType := fun k => match k with
  | 0 => .object "EndingCourt$Program"
  | 1 => .array .long
  | 2 => .object "EndingCourt$Course"
  | 3 => .object "EndingCourt$Box"
  | 4 => .object "EndingCourt$Box"
  | 5 => .object "EndingCourt$Rounds"
  | 6 => .object "EndingCourt$Shaper"
  | 7 => .object "EndingCourt$Findings"
  | 8 => .array .int
  | _ => .object "EndingCourt$Calls"
abbrev wsX110 : List Cond := u_ws RX11 TX11 10
theorem nmX11 : ∀ a, a < 10 → ∀ b, b < 10 → a ≠ b → (TX11 a).2.1 ≠ (TX11 b).2.1 := by decide +kernel
theorem tyX11_ok : ∀ k, k < 10 → parseFieldDescriptor (TX11 k).2.2.1 = some (tyX11 k) := by decide +kernel
abbrev cX11_init : ByteArray := prog_1_method_1_code
def yX11_init : MethodName := ⟨RX11, "<init>", "()V"⟩
abbrev cX11_loop : ByteArray := prog_1_method_2_code
def yX11_loop : MethodName := ⟨RX11, "loop", "(I)I"⟩
abbrev cX11_body : ByteArray := prog_1_method_3_code
def yX11_body : MethodName := ⟨RX11, "body", "()I"⟩
abbrev cX11_guard : ByteArray := prog_1_method_4_code
def yX11_guard : MethodName := ⟨RX11, "guard", "(III)I"⟩
abbrev cX11_rule : ByteArray := prog_1_method_5_code
def yX11_rule : MethodName := ⟨RX11, "rule", "(IIII)I"⟩
abbrev cX11_many : ByteArray := prog_1_method_6_code
def yX11_many : MethodName := ⟨RX11, "many", "(I)I"⟩
abbrev cX11_set : ByteArray := prog_1_method_7_code
def yX11_set : MethodName := ⟨RX11, "set", "(II)I"⟩
abbrev cX11_at : ByteArray := prog_1_method_8_code
def yX11_at : MethodName := ⟨RX11, "at", "(I)J"⟩
abbrev cX11_run : ByteArray := prog_1_method_9_code
def yX11_run : MethodName := ⟨RX11, "run", "(I)I"⟩
abbrev cX11_turn : ByteArray := prog_1_method_10_code
def yX11_turn : MethodName := ⟨RX11, "turn", "()I"⟩
abbrev cX11_ring : ByteArray := prog_1_method_11_code
def yX11_ring : MethodName := ⟨RX11, "ring", "(I)I"⟩
abbrev cX11_ahead : ByteArray := prog_1_method_12_code
def yX11_ahead : MethodName := ⟨RX11, "ahead", "()I"⟩
abbrev cX11_ranks : ByteArray := prog_1_method_13_code
def yX11_ranks : MethodName := ⟨RX11, "ranks", "(III)I"⟩
abbrev cX11_tells : ByteArray := prog_1_method_14_code
def yX11_tells : MethodName := ⟨RX11, "tells", "(IIII)I"⟩
abbrev cX11_floor : ByteArray := prog_1_method_15_code
def yX11_floor : MethodName := ⟨RX11, "floor", "(III)J"⟩
abbrev cX11_rank : ByteArray := prog_1_method_16_code
def yX11_rank : MethodName := ⟨RX11, "rank", "(I)I"⟩
abbrev cX11_rows : ByteArray := prog_1_method_17_code
def yX11_rows : MethodName := ⟨RX11, "rows", "(I)I"⟩
abbrev cX11_found : ByteArray := prog_1_method_18_code
def yX11_found : MethodName := ⟨RX11, "found", "(II)I"⟩
abbrev cX11_by : ByteArray := prog_1_method_19_code
def yX11_by : MethodName := ⟨RX11, "by", "(I)I"⟩
abbrev cX11_bound : ByteArray := prog_1_method_20_code
def yX11_bound : MethodName := ⟨RX11, "bound", "()J"⟩
abbrev cX11_begin : ByteArray := prog_1_method_21_code
def yX11_begin : MethodName := ⟨RX11, "begin", "(III)I"⟩
abbrev cX11_round : ByteArray := prog_1_method_22_code
def yX11_round : MethodName := ⟨RX11, "round", "(I)I"⟩
abbrev cX11_box : ByteArray := prog_1_method_23_code
def yX11_box : MethodName := ⟨RX11, "box", "(II)J"⟩
abbrev cX11_open : ByteArray := prog_1_method_24_code
def yX11_open : MethodName := ⟨RX11, "open", "()I"⟩
abbrev cX11_call : ByteArray := prog_1_method_25_code
def yX11_call : MethodName := ⟨RX11, "call", "(III)I"⟩
abbrev cX11_clear : ByteArray := prog_1_method_26_code
def yX11_clear : MethodName := ⟨RX11, "clear", "()I"⟩
abbrev cX11_ending : ByteArray := prog_1_method_27_code
def yX11_ending : MethodName := ⟨RX11, "ending", "()I"⟩
abbrev cX11_made : ByteArray := prog_1_method_28_code
def yX11_made : MethodName := ⟨RX11, "made", "()I"⟩
abbrev cX11_witness : ByteArray := prog_1_method_29_code
def yX11_witness : MethodName := ⟨RX11, "witness", "(I)I"⟩
abbrev cX11_openTheBox : ByteArray := prog_1_method_30_code
def yX11_openTheBox : MethodName := ⟨RX11, "openTheBox", "()V"⟩
abbrev cX11_forgetPlaces : ByteArray := prog_1_method_31_code
def yX11_forgetPlaces : MethodName := ⟨RX11, "forgetPlaces", "()V"⟩
abbrev cX11_learnPlaces : ByteArray := prog_1_method_32_code
def yX11_learnPlaces : MethodName := ⟨RX11, "learnPlaces", "()V"⟩
abbrev cX11_ask : ByteArray := prog_1_method_33_code
def yX11_ask : MethodName := ⟨RX11, "ask", "(III)Z"⟩
abbrev cX11_isCode : ByteArray := prog_1_method_34_code
def yX11_isCode : MethodName := ⟨RX11, "isCode", "(I)Z"⟩
abbrev cX11_isConstant : ByteArray := prog_1_method_35_code
def yX11_isConstant : MethodName := ⟨RX11, "isConstant", "(I)Z"⟩
abbrev cX11_isGiven : ByteArray := prog_1_method_36_code
def yX11_isGiven : MethodName := ⟨RX11, "isGiven", "(I)Z"⟩
abbrev cX11_isTurns : ByteArray := prog_1_method_37_code
def yX11_isTurns : MethodName := ⟨RX11, "isTurns", "(I)Z"⟩
abbrev cX11_isSize : ByteArray := prog_1_method_38_code
def yX11_isSize : MethodName := ⟨RX11, "isSize", "(I)Z"⟩
abbrev cX11_isSide : ByteArray := prog_1_method_39_code
def yX11_isSide : MethodName := ⟨RX11, "isSide", "(I)Z"⟩
abbrev cX11_isFunction : ByteArray := prog_1_method_40_code
def yX11_isFunction : MethodName := ⟨RX11, "isFunction", "(I)Z"⟩
abbrev cX11_isBeyond : ByteArray := prog_1_method_41_code
def yX11_isBeyond : MethodName := ⟨RX11, "isBeyond", "(JJ)Z"⟩
abbrev cX11_valueOf : ByteArray := prog_1_method_42_code
def yX11_valueOf : MethodName := ⟨RX11, "valueOf", "([I[J)J"⟩
def RX12 : String := "EndingCourtModel"
def TX12 : u_T := fun k => match k with
  | 0 => ("EndingCourtModel", "numbers", "I", false)
  | 1 => ("EndingCourtModel", "bodies", "I", false)
  | 2 => ("EndingCourtModel", "guards", "[I", true)
  | 3 => ("EndingCourtModel", "guard", "[I", true)
  | 4 => ("EndingCourtModel", "rules", "[I", true)
  | 5 => ("EndingCourtModel", "x", "[J", true)
  | 6 => ("EndingCourtModel", "box", "[J", true)
  | 7 => ("EndingCourtModel", "boxOpen", "[Z", true)
  | 8 => ("EndingCourtModel", "first", "[J", true)
  | 9 => ("EndingCourtModel", "firstOpen", "[Z", true)
  | 10 => ("EndingCourtModel", "side", "[J", true)
  | 11 => ("EndingCourtModel", "sides", "I", false)
  | 12 => ("EndingCourtModel", "made", "[J", true)
  | 13 => ("EndingCourtModel", "leastUpper", "J", false)
  | 14 => ("EndingCourtModel", "leastLower", "J", false)
  | 15 => ("EndingCourtModel", "leastBy", "J", false)
  | 16 => ("EndingCourtModel", "hasLeast", "Z", false)
  | 17 => ("EndingCourtModel", "isEmpty", "Z", false)
  | 18 => ("EndingCourtModel", "found", "[I", true)
  | 19 => ("EndingCourtModel", "foundMany", "I", false)
  | 20 => ("EndingCourtModel", "ranked", "[I", true)
  | 21 => ("EndingCourtModel", "hasRanked", "Z", false)
  | 22 => ("EndingCourtModel", "leftBy", "[I", true)
  | 23 => ("EndingCourtModel", "isLeft", "[Z", true)
  | 24 => ("EndingCourtModel", "place", "[J", true)
  | 25 => ("EndingCourtModel", "table", "[I", true)
  | 26 => ("EndingCourtModel", "ahead", "I", false)
  | 27 => ("EndingCourtModel", "now", "[J", true)
  | 28 => ("EndingCourtModel", "then", "[J", true)
  | 29 => ("EndingCourtModel", "end", "[J", true)
  | 30 => ("EndingCourtModel", "isOpen", "[Z", true)
  | 31 => ("EndingCourtModel", "next", "[J", true)
  | 32 => ("EndingCourtModel", "nextOpen", "[Z", true)
  | 33 => ("EndingCourtModel", "callFrom", "[I", true)
  | 34 => ("EndingCourtModel", "callTo", "[I", true)
  | 35 => ("EndingCourtModel", "callTells", "[I", true)
  | 36 => ("EndingCourtModel", "calls", "I", false)
  | 37 => ("EndingCourtModel", "madeFrom", "[I", true)
  | 38 => ("EndingCourtModel", "madeTo", "[I", true)
  | 39 => ("EndingCourtModel", "madeTells", "[I", true)
  | 40 => ("EndingCourtModel", "madeMany", "I", false)
  | 41 => ("EndingCourtModel", "witnessAt", "I", false)
  | 42 => ("EndingCourtModel", "witnessFunction", "I", false)
  | 43 => ("EndingCourtModel", "witnessTells", "I", false)
  | 44 => ("EndingCourtModel", "digitsA", "[I", true)
  | 45 => ("EndingCourtModel", "digitsB", "[I", true)
  | 46 => ("EndingCourtModel", "want", "[J", true)
  | 47 => ("EndingCourtModel", "sum", "[I", true)
  | 48 => ("EndingCourtModel", "valueOpen", "Z", false)
  | _ => ("EndingCourtModel", "value", "J", false)
def tyX12 : Nat → FieldType := fun k => match k with
  | 0 => .int
  | 1 => .int
  | 2 => .array .int
  | 3 => .array .int
  | 4 => .array .int
  | 5 => .array .long
  | 6 => .array .long
  | 7 => .array .boolean
  | 8 => .array .long
  | 9 => .array .boolean
  | 10 => .array .long
  | 11 => .int
  | 12 => .array .long
  | 13 => .long
  | 14 => .long
  | 15 => .long
  | 16 => .boolean
  | 17 => .boolean
  | 18 => .array .int
  | 19 => .int
  | 20 => .array .int
  | 21 => .boolean
  | 22 => .array .int
  | 23 => .array .boolean
  | 24 => .array .long
  | 25 => .array .int
  | 26 => .int
  | 27 => .array .long
  | 28 => .array .long
  | 29 => .array .long
  | 30 => .array .boolean
  | 31 => .array .long
  | 32 => .array .boolean
  | 33 => .array .int
  | 34 => .array .int
  | 35 => .array .int
  | 36 => .int
  | 37 => .array .int
  | 38 => .array .int
  | 39 => .array .int
  | 40 => .int
  | 41 => .int
  | 42 => .int
  | 43 => .int
  | 44 => .array .int
  | 45 => .array .int
  | 46 => .array .long
  | 47 => .array .int
  | 48 => .boolean
  | _ => .long
abbrev wsX120 : List Cond := u_ws RX12 TX12 50
theorem nmX12 : ∀ a, a < 50 → ∀ b, b < 50 → a ≠ b → (TX12 a).2.1 ≠ (TX12 b).2.1 := by decide +kernel
theorem tyX12_ok : ∀ k, k < 50 → parseFieldDescriptor (TX12 k).2.2.1 = some (tyX12 k) := by decide +kernel
abbrev cX12_init : ByteArray := prog_14_method_1_code
def yX12_init : MethodName := ⟨RX12, "<init>", "()V"⟩
abbrev cX12_openAll : ByteArray := prog_14_method_2_code
def yX12_openAll : MethodName := ⟨RX12, "openAll", "()V"⟩
abbrev cX12_loop : ByteArray := prog_14_method_3_code
def yX12_loop : MethodName := ⟨RX12, "loop", "(I)I"⟩
abbrev cX12_body : ByteArray := prog_14_method_4_code
def yX12_body : MethodName := ⟨RX12, "body", "()I"⟩
abbrev cX12_areWeights : ByteArray := prog_14_method_5_code
def yX12_areWeights : MethodName := ⟨RX12, "areWeights", "(II)Z"⟩
abbrev cX12_lay : ByteArray := prog_14_method_6_code
def yX12_lay : MethodName := ⟨RX12, "lay", "([IIII)V"⟩
abbrev cX12_isBody : ByteArray := prog_14_method_7_code
def yX12_isBody : MethodName := ⟨RX12, "isBody", "(I)Z"⟩
abbrev cX12_guard : ByteArray := prog_14_method_8_code
def yX12_guard : MethodName := ⟨RX12, "guard", "(III)I"⟩
abbrev cX12_rule : ByteArray := prog_14_method_9_code
def yX12_rule : MethodName := ⟨RX12, "rule", "(IIII)I"⟩
abbrev cX12_many : ByteArray := prog_14_method_10_code
def yX12_many : MethodName := ⟨RX12, "many", "(I)I"⟩
abbrev cX12_set : ByteArray := prog_14_method_11_code
def yX12_set : MethodName := ⟨RX12, "set", "(II)I"⟩
abbrev cX12_at : ByteArray := prog_14_method_12_code
def yX12_at : MethodName := ⟨RX12, "at", "(I)J"⟩
abbrev cX12_of : ByteArray := prog_14_method_13_code
def yX12_of : MethodName := ⟨RX12, "of", "([II[J)J"⟩
abbrev cX12_turnAt : ByteArray := prog_14_method_14_code
def yX12_turnAt : MethodName := ⟨RX12, "turnAt", "([J)I"⟩
abbrev cX12_isFar : ByteArray := prog_14_method_15_code
def yX12_isFar : MethodName := ⟨RX12, "isFar", "(J)Z"⟩
abbrev cX12_turnFrom : ByteArray := prog_14_method_16_code
def yX12_turnFrom : MethodName := ⟨RX12, "turnFrom", "([J)I"⟩
abbrev cX12_run : ByteArray := prog_14_method_17_code
def yX12_run : MethodName := ⟨RX12, "run", "(I)I"⟩
abbrev cX12_turn : ByteArray := prog_14_method_18_code
def yX12_turn : MethodName := ⟨RX12, "turn", "()I"⟩
abbrev cX12_keep : ByteArray := prog_14_method_19_code
def yX12_keep : MethodName := ⟨RX12, "keep", "([JI)I"⟩
abbrev cX12_ring : ByteArray := prog_14_method_20_code
def yX12_ring : MethodName := ⟨RX12, "ring", "(I)I"⟩
abbrev cX12_ahead : ByteArray := prog_14_method_21_code
def yX12_ahead : MethodName := ⟨RX12, "ahead", "()I"⟩
abbrev cX12_addSide : ByteArray := prog_14_method_22_code
def yX12_addSide : MethodName := ⟨RX12, "addSide", "(JJJJ)V"⟩
abbrev cX12_laySides : ByteArray := prog_14_method_23_code
def yX12_laySides : MethodName := ⟨RX12, "laySides", "(I)V"⟩
abbrev cX12_isZero : ByteArray := prog_14_method_24_code
def yX12_isZero : MethodName := ⟨RX12, "isZero", "(I)Z"⟩
abbrev cX12_cross : ByteArray := prog_14_method_25_code
def yX12_cross : MethodName := ⟨RX12, "cross", "(III)J"⟩
abbrev cX12_determinant : ByteArray := prog_14_method_26_code
def yX12_determinant : MethodName := ⟨RX12, "determinant", "(III)J"⟩
abbrev cX12_areParallel : ByteArray := prog_14_method_27_code
def yX12_areParallel : MethodName := ⟨RX12, "areParallel", "(II)Z"⟩
abbrev cX12_twoLeaveNothing : ByteArray := prog_14_method_28_code
def yX12_twoLeaveNothing : MethodName := ⟨RX12, "twoLeaveNothing", "(II)Z"⟩
abbrev cX12_threeLeaveNothing : ByteArray := prog_14_method_29_code
def yX12_threeLeaveNothing : MethodName := ⟨RX12, "threeLeaveNothing", "(III)Z"⟩
abbrev cX12_fourLeaveNothing : ByteArray := prog_14_method_30_code
def yX12_fourLeaveNothing : MethodName := ⟨RX12, "fourLeaveNothing", "(IIII)Z"⟩
abbrev cX12_leaveNothing : ByteArray := prog_14_method_31_code
def yX12_leaveNothing : MethodName := ⟨RX12, "leaveNothing", "(JJJJIIII)Z"⟩
abbrev cX12_offer : ByteArray := prog_14_method_32_code
def yX12_offer : MethodName := ⟨RX12, "offer", "(JJJJIII)V"⟩
abbrev cX12_isAbove : ByteArray := prog_14_method_33_code
def yX12_isAbove : MethodName := ⟨RX12, "isAbove", "(JJJJJJ)Z"⟩
abbrev cX12_crossWanted : ByteArray := prog_14_method_34_code
def yX12_crossWanted : MethodName := ⟨RX12, "crossWanted", "(II)J"⟩
abbrev cX12_determinantWanted : ByteArray := prog_14_method_35_code
def yX12_determinantWanted : MethodName := ⟨RX12, "determinantWanted", "(II)J"⟩
abbrev cX12_findLeast : ByteArray := prog_14_method_36_code
def yX12_findLeast : MethodName := ⟨RX12, "findLeast", "()V"⟩
abbrev cX12_byOne : ByteArray := prog_14_method_37_code
def yX12_byOne : MethodName := ⟨RX12, "byOne", "(I)V"⟩
abbrev cX12_byTwo : ByteArray := prog_14_method_38_code
def yX12_byTwo : MethodName := ⟨RX12, "byTwo", "(II)V"⟩
abbrev cX12_isLeastAtLeast : ByteArray := prog_14_method_39_code
def yX12_isLeastAtLeast : MethodName := ⟨RX12, "isLeastAtLeast", "(J)Z"⟩
abbrev cX12_isSum : ByteArray := prog_14_method_40_code
def yX12_isSum : MethodName := ⟨RX12, "isSum", "(III)Z"⟩
abbrev cX12_tellsOf : ByteArray := prog_14_method_41_code
def yX12_tellsOf : MethodName := ⟨RX12, "tellsOf", "(IIII)I"⟩
abbrev cX12_doesRank : ByteArray := prog_14_method_42_code
def yX12_doesRank : MethodName := ⟨RX12, "doesRank", "(III)Z"⟩
abbrev cX12_ranks : ByteArray := prog_14_method_43_code
def yX12_ranks : MethodName := ⟨RX12, "ranks", "(III)I"⟩
abbrev cX12_tells : ByteArray := prog_14_method_44_code
def yX12_tells : MethodName := ⟨RX12, "tells", "(IIII)I"⟩
abbrev cX12_floorOf : ByteArray := prog_14_method_45_code
def yX12_floorOf : MethodName := ⟨RX12, "floorOf", "(III)J"⟩
abbrev cX12_floor : ByteArray := prog_14_method_46_code
def yX12_floor : MethodName := ⟨RX12, "floor", "(III)J"⟩
abbrev cX12_nextSum : ByteArray := prog_14_method_47_code
def yX12_nextSum : MethodName := ⟨RX12, "nextSum", "(I)Z"⟩
abbrev cX12_step : ByteArray := prog_14_method_48_code
def yX12_step : MethodName := ⟨RX12, "step", "(I)Z"⟩
abbrev cX12_firstSum : ByteArray := prog_14_method_49_code
def yX12_firstSum : MethodName := ⟨RX12, "firstSum", "(I)V"⟩
abbrev cX12_isSize : ByteArray := prog_14_method_50_code
def yX12_isSize : MethodName := ⟨RX12, "isSize", "(I)Z"⟩
abbrev cX12_rank : ByteArray := prog_14_method_51_code
def yX12_rank : MethodName := ⟨RX12, "rank", "(I)I"⟩
abbrev cX12_takes : ByteArray := prog_14_method_52_code
def yX12_takes : MethodName := ⟨RX12, "takes", "()Z"⟩
abbrev cX12_rows : ByteArray := prog_14_method_53_code
def yX12_rows : MethodName := ⟨RX12, "rows", "(I)I"⟩
abbrev cX12_found : ByteArray := prog_14_method_54_code
def yX12_found : MethodName := ⟨RX12, "found", "(II)I"⟩
abbrev cX12_by : ByteArray := prog_14_method_55_code
def yX12_by : MethodName := ⟨RX12, "by", "(I)I"⟩
abbrev cX12_bound : ByteArray := prog_14_method_56_code
def yX12_bound : MethodName := ⟨RX12, "bound", "()J"⟩
abbrev cX12_begin : ByteArray := prog_14_method_57_code
def yX12_begin : MethodName := ⟨RX12, "begin", "(III)I"⟩
abbrev cX12_reach : ByteArray := prog_14_method_58_code
def yX12_reach : MethodName := ⟨RX12, "reach", "([III)V"⟩
abbrev cX12_isPassed : ByteArray := prog_14_method_59_code
def yX12_isPassed : MethodName := ⟨RX12, "isPassed", "(I)Z"⟩
abbrev cX12_goRound : ByteArray := prog_14_method_60_code
def yX12_goRound : MethodName := ⟨RX12, "goRound", "()Z"⟩
abbrev cX12_isChanged : ByteArray := prog_14_method_61_code
def yX12_isChanged : MethodName := ⟨RX12, "isChanged", "(I)Z"⟩
abbrev cX12_round : ByteArray := prog_14_method_62_code
def yX12_round : MethodName := ⟨RX12, "round", "(I)I"⟩
abbrev cX12_box : ByteArray := prog_14_method_63_code
def yX12_box : MethodName := ⟨RX12, "box", "(II)J"⟩
abbrev cX12_open : ByteArray := prog_14_method_64_code
def yX12_open : MethodName := ⟨RX12, "open", "()I"⟩
abbrev cX12_call : ByteArray := prog_14_method_65_code
def yX12_call : MethodName := ⟨RX12, "call", "(III)I"⟩
abbrev cX12_clear : ByteArray := prog_14_method_66_code
def yX12_clear : MethodName := ⟨RX12, "clear", "()I"⟩
abbrev cX12_spread : ByteArray := prog_14_method_67_code
def yX12_spread : MethodName := ⟨RX12, "spread", "(I[I)V"⟩
abbrev cX12_together : ByteArray := prog_14_method_68_code
def yX12_together : MethodName := ⟨RX12, "together", "(II)I"⟩
abbrev cX12_make : ByteArray := prog_14_method_69_code
def yX12_make : MethodName := ⟨RX12, "make", "(III)Z"⟩
abbrev cX12_makeAll : ByteArray := prog_14_method_70_code
def yX12_makeAll : MethodName := ⟨RX12, "makeAll", "()Z"⟩
abbrev cX12_isAsked : ByteArray := prog_14_method_71_code
def yX12_isAsked : MethodName := ⟨RX12, "isAsked", "(I)Z"⟩
abbrev cX12_ending : ByteArray := prog_14_method_72_code
def yX12_ending : MethodName := ⟨RX12, "ending", "()I"⟩
abbrev cX12_made : ByteArray := prog_14_method_73_code
def yX12_made : MethodName := ⟨RX12, "made", "()I"⟩
abbrev cX12_witness : ByteArray := prog_14_method_74_code
def yX12_witness : MethodName := ⟨RX12, "witness", "(I)I"⟩
def RJ9 : String := "java/lang/Math"
def TJ9 : u_T := fun k => match k with
  | _ => ("", "", "", false)
def tyJ9 : Nat → FieldType := fun k => match k with
  | _ => .int
abbrev wsJ90 : List Cond := u_ws RJ9 TJ9 0
theorem nmJ9 : ∀ a, a < 0 → ∀ b, b < 0 → a ≠ b → (TJ9 a).2.1 ≠ (TJ9 b).2.1 := by decide +kernel
theorem tyJ9_ok : ∀ k, k < 0 → parseFieldDescriptor (TJ9 k).2.2.1 = some (tyJ9 k) := by decide +kernel
abbrev cJ9_floorDiv_f86c9 : ByteArray := prog_15_method_49_code
def yJ9_floorDiv_f86c9 : MethodName := ⟨RJ9, "floorDiv", "(JJ)J"⟩
abbrev cJ9_floorMod_f86c9 : ByteArray := prog_15_method_52_code
def yJ9_floorMod_f86c9 : MethodName := ⟨RJ9, "floorMod", "(JJ)J"⟩
abbrev cJ9_abs_0f7a4 : ByteArray := prog_15_method_59_code
def yJ9_abs_0f7a4 : MethodName := ⟨RJ9, "abs", "(I)I"⟩
abbrev cJ9_abs_067f4 : ByteArray := prog_15_method_61_code
def yJ9_abs_067f4 : MethodName := ⟨RJ9, "abs", "(J)J"⟩
abbrev cJ9_max_f86c9 : ByteArray := prog_15_method_66_code
def yJ9_max_f86c9 : MethodName := ⟨RJ9, "max", "(JJ)J"⟩
abbrev cJ9_min_f86c9 : ByteArray := prog_15_method_70_code
def yJ9_min_f86c9 : MethodName := ⟨RJ9, "min", "(JJ)J"⟩
def RJ10 : String := "java/lang/System"
def TJ10 : u_T := fun k => match k with
  | _ => ("", "", "", false)
def tyJ10 : Nat → FieldType := fun k => match k with
  | _ => .int
abbrev wsJ100 : List Cond := u_ws RJ10 TJ10 0
theorem nmJ10 : ∀ a, a < 0 → ∀ b, b < 0 → a ≠ b → (TJ10 a).2.1 ≠ (TJ10 b).2.1 := by decide +kernel
theorem tyJ10_ok : ∀ k, k < 0 → parseFieldDescriptor (TJ10 k).2.2.1 = some (tyJ10 k) := by decide +kernel
def RJ7 : String := "java/util/Arrays"
def TJ7 : u_T := fun k => match k with
  | _ => ("", "", "", false)
def tyJ7 : Nat → FieldType := fun k => match k with
  | _ => .int
abbrev wsJ70 : List Cond := u_ws RJ7 TJ7 0
theorem nmJ7 : ∀ a, a < 0 → ∀ b, b < 0 → a ≠ b → (TJ7 a).2.1 ≠ (TJ7 b).2.1 := by decide +kernel
theorem tyJ7_ok : ∀ k, k < 0 → parseFieldDescriptor (TJ7 k).2.2.1 = some (tyJ7 k) := by decide +kernel
abbrev cJ7_fill_d0a16 : ByteArray := prog_17_method_101_code
def yJ7_fill_d0a16 : MethodName := ⟨RJ7, "fill", "([JJ)V"⟩
abbrev cJ7_fill_53178 : ByteArray := prog_17_method_103_code
def yJ7_fill_53178 : MethodName := ⟨RJ7, "fill", "([II)V"⟩
def RL : String := "EndingCourtLaw"
abbrev cL_law : ByteArray := code
def yL_law : MethodName := ⟨RL, "law", "([I)Z"⟩
abbrev vwCl : List vw_C := [(RX0, TX0, 2), (RX1, TX1, 5), (RX2, TX2, 1), (RX3, TX3, 8), (RX4, TX4, 3), (RX5, TX5, 7), (RX6, TX6, 4), (RX7, TX7, 3), (RX8, TX8, 2), (RX9, TX9, 4), (RX10, TX10, 6), (RX11, TX11, 10), (RX12, TX12, 50)]
def xm_tb : List Cond := lw_tbl.filter goodWord
theorem ix_X0 : ∀ w ∈ wsX00, w ∈ xm_tb := by decide +kernel
theorem ix_X1 : ∀ w ∈ wsX10, w ∈ xm_tb := by decide +kernel
theorem ix_X2 : ∀ w ∈ wsX20, w ∈ xm_tb := by decide +kernel
theorem ix_X3 : ∀ w ∈ wsX30, w ∈ xm_tb := by decide +kernel
theorem ix_X4 : ∀ w ∈ wsX40, w ∈ xm_tb := by decide +kernel
theorem ix_X5 : ∀ w ∈ wsX50, w ∈ xm_tb := by decide +kernel
theorem ix_X6 : ∀ w ∈ wsX60, w ∈ xm_tb := by decide +kernel
theorem ix_X7 : ∀ w ∈ wsX70, w ∈ xm_tb := by decide +kernel
theorem ix_X8 : ∀ w ∈ wsX80, w ∈ xm_tb := by decide +kernel
theorem ix_X9 : ∀ w ∈ wsX90, w ∈ xm_tb := by decide +kernel
theorem ix_X10 : ∀ w ∈ wsX100, w ∈ xm_tb := by decide +kernel
theorem ix_X11 : ∀ w ∈ wsX110, w ∈ xm_tb := by decide +kernel
theorem ix_X12 : ∀ w ∈ wsX120, w ∈ xm_tb := by decide +kernel
theorem xm_goodin {w : Cond} (hw : w ∈ xm_tb) : GoodIn xm_tb (w :: xm_tb) := fun v hv => by
  have hm : v ∈ xm_tb := (List.mem_cons.mp hv).elim (fun e => e ▸ hw) id
  exact ⟨hm, good_of_word (List.mem_filter.mp hm).2⟩
end
section
/-! the pure machine: memory of numbered cells; a method's run against a pure function of its memory -/
abbrev xm_S : Type := Nat × (Nat → Nat × Nat) × (Nat → Nat → Option Nat) × (Nat → Nat → Int32) × (Nat → Nat → Int64)
abbrev xm_M : Type := MethodName × ByteArray × Nat × Option FieldType × Nat × Nat
abbrev xm_G : Type := va_G × ClassId × ClassId × ClassId × ClassId × ClassId
def xm_tys (G : xm_G) : List (ClassId × FieldType) := [(G.2.1, .int), (G.2.2.1, .long), (G.2.2.2.1, .boolean), (G.2.2.2.2.1, .object RX0), (G.2.2.2.2.2, .object RX1)]
/-- kinds of the slots of a class: 0 int, 1 long, 2 reference, 3 boolean -/
def xm_ft (ci : Nat) : List Nat := match ci with
  | 0 => [2, 0]
  | 1 => [2, 2, 2, 2, 0]
  | 2 => [2]
  | 3 => [2, 0, 2, 0, 2, 0, 0, 0]
  | 4 => [2, 2, 0]
  | 5 => [2, 2, 0, 2, 2, 1, 3]
  | 6 => [2, 0, 0, 3]
  | 7 => [2, 0, 0]
  | 8 => [2, 2]
  | 9 => [2, 0, 0, 2]
  | 10 => [2, 0, 0, 0, 0, 0]
  | 11 => [2, 2, 2, 2, 2, 2, 2, 2, 2, 2]
  | 12 => [0, 0, 2, 2, 2, 2, 2, 2, 2, 2, 2, 0, 2, 1, 1, 1, 3, 3, 2, 0, 2, 3, 2, 2, 2, 2, 0, 2, 2, 2, 2, 2, 2, 2, 2, 2, 0, 2, 2, 2, 0, 0, 0, 0, 2, 2, 2, 2, 3, 1]
  | _ => []
def xm_val (base : Nat) (σ : xm_S) (k j t : Nat) : Value := if t = 1 then .long (σ.2.2.2.2 k j) else if t = 2 then va_rf ((σ.2.2.1 k j).map (fun a => base + a)) else .int (σ.2.2.2.1 k j)
def xm_ent (G : xm_G) (base : Nat) (σ : xm_S) (k : Nat) : va_E :=
  if (σ.2.1 k).1 = 13 then .inl (G.2.1, (σ.2.1 k).2, .inl (σ.2.2.2.1 k))
  else if (σ.2.1 k).1 = 14 then .inl (G.2.2.1, (σ.2.1 k).2, .inr (.inl (σ.2.2.2.2 k)))
  else if (σ.2.1 k).1 = 15 then .inl (G.2.2.2.1, (σ.2.1 k).2, .inl (σ.2.2.2.1 k))
  else if (σ.2.1 k).1 = 16 then .inl (G.2.2.2.2.1, (σ.2.1 k).2, .inr (.inr (.inr (.inr (fun j => (σ.2.2.1 k j).map (fun a => base + a))))))
  else if (σ.2.1 k).1 = 17 then .inl (G.2.2.2.2.2, (σ.2.1 k).2, .inr (.inr (.inr (.inr (fun j => (σ.2.2.1 k j).map (fun a => base + a))))))
  else .inr ((σ.2.1 k).1, (xm_ft (σ.2.1 k).1).mapIdx (fun j t => xm_val base σ k j t))
def xm_ws (G : xm_G) (base : Nat) (σ : xm_S) : va_W := (List.range σ.1).map (fun k => (base + k, xm_ent G base σ k))
def xm_is (σ : xm_S) (k kd n : Nat) : Prop := k < σ.1 ∧ σ.2.1 k = (kd, n)
theorem xm_ws_at {G : xm_G} {base : Nat} {σ : xm_S} {k : Nat} (h : k < σ.1) : (xm_ws G base σ)[k]? = some (base + k, xm_ent G base σ k) := by
  simp [xm_ws, h]
theorem xm_ws_inv {G : xm_G} {base : Nat} {σ : xm_S} {k : Nat} {q : Nat × va_E} (h : (xm_ws G base σ)[k]? = some q) : k < σ.1 ∧ q = (base + k, xm_ent G base σ k) := by
  have hk : k < σ.1 := by
    have := (List.getElem?_eq_some_iff.mp h).1
    simpa [xm_ws] using this
  exact ⟨hk, (Option.some.inj ((xm_ws_at hk).symm.trans h)).symm⟩
theorem xm_D {G : xm_G} {base : Nat} {σ : xm_S} : va_D (fun q => base ≤ q) (xm_ws G base σ) := by
  refine ⟨fun i j p q hp hq he => ?_, fun k q hq => ?_⟩
  · obtain ⟨-, rfl⟩ := xm_ws_inv hp
    obtain ⟨-, rfl⟩ := xm_ws_inv hq
    dsimp only at he
    omega
  · obtain ⟨-, rfl⟩ := xm_ws_inv hq
    exact Nat.le_add_right _ _
theorem xm_set {G : xm_G} {base : Nat} {σ σ' : xm_S} {k : Nat} {e : va_E} (h1 : σ'.1 = σ.1) (hk : k < σ.1) (he : xm_ent G base σ' k = e) (hne : ∀ j, j ≠ k → xm_ent G base σ' j = xm_ent G base σ j) : (xm_ws G base σ).set k (base + k, e) = xm_ws G base σ' := by
  apply List.ext_getElem?
  intro i
  rw [List.getElem?_set]
  by_cases hi : k = i
  · subst hi
    rw [if_pos rfl, xm_ws_at (by rw [h1]; exact hk), if_pos (by simpa [xm_ws] using hk), he]
  · rw [if_neg hi]
    by_cases hl : i < σ.1
    · rw [xm_ws_at hl, xm_ws_at (by rw [h1]; exact hl), hne i (fun q => hi q.symm)]
    · rw [List.getElem?_eq_none (by simpa [xm_ws] using hl), List.getElem?_eq_none (by simpa [xm_ws, h1] using hl)]
def xm_W (G : xm_G) (base : Nat) (σ : xm_S) (H : Heap) : Prop := va_P G.1 vwCl (xm_ws G base σ) H
/-- words that a caller keeps by their own rows -/
def xm_N (s : State) : Prop := (∀ (a : String) (i : Nat) (x : MethodName) (h : String), Cond.methodLinkNest a i x h ∈ lw_tbl → va_Nw (.methodLinkNest a i x h) s) ∧ va_AO RX0 s ∧ va_AO RX1 s
def xm_C (G : xm_G) (base b L : Nat) (xs : Nat → Int32) (M : xm_M) (p : Program) (s : State) (m : MethodId) (args : Array Value) (meth : Method) (c : Code) : Prop :=
  p.tables.exec = Jvm.exec ∧ c.code = M.2.1 ∧ meth.sig.returnType = M.2.2.2.1 ∧ c.maxLocals = M.2.2.1 ∧ s.vm.findClass M.1.cls = some m.cls ∧ (∀ w ∈ xm_tb, w.before args s = true) ∧ meth.locks = false ∧ meth.name = M.1.name ∧ va_K G.1 vwCl (xm_tys G) s ∧ base ≤ s.heap.size ∧ va_X b L xs s s.heap ∧ b < base ∧ xm_N s
/-- a pure value, as the machine holds it: cells by their numbers from base on; a float stands for the law's own script -/
def xm_r (base b : Nat) (v : Value) : Value := match v with
  | .ref a => .ref (base + a)
  | .float _ => .ref b
  | v => v
theorem xm_r_cat (base b : Nat) (v : Value) : (xm_r base b v).category = v.category := by cases v <;> rfl
def xm_L (base b : Nat) (ls : Array Slot) (n : Nat) (lv : List (Option Value)) : Prop := ∃ l : List (Nat × Value), lv_has ls n l ∧ ∀ (i : Nat) (v : Value), lv[i]? = some (some v) → (i, xm_r base b v) ∈ l
theorem xm_L.at {base b : Nat} {ls : Array Slot} {n : Nat} {lv : List (Option Value)} (h : xm_L base b ls n lv) {i : Nat} {v : Value} (hi : lv[i]? = some (some v)) : ls[i]? = some (.val (xm_r base b v)) := by
  obtain ⟨l, h1, h2⟩ := h
  exact h1.2.2 _ (h2 i v hi)
theorem xm_L.size {base b : Nat} {ls : Array Slot} {n : Nat} {lv : List (Option Value)} (h : xm_L base b ls n lv) : ls.size = n := by
  obtain ⟨l, h1, -⟩ := h
  exact h1.1
/-- a return of the fitting kind at pc -/
def xm_rt (M : xm_M) (pc : Nat) (v : Option Value) : Prop := match v with
  | some (.int x) => decode M.2.1 pc = .ok (.ireturn, 1) ∧ (M.2.2.2.1 = some .int ∨ (M.2.2.2.1 = some .boolean ∧ (x = 0 ∨ x = 1)))
  | some (.long _) => decode M.2.1 pc = .ok (.lreturn, 1) ∧ M.2.2.2.1 = some .long
  | none => decode M.2.1 pc = .ok (.return_, 1) ∧ M.2.2.2.1 = none
  | _ => False
/-- from pc on, with locals lv, stack st and memory σ, the method comes to a return with what o says, if it says anything -/
def xs_ {α S : Type} (em : α → Option Value) (sg : S → xm_S) (M : xm_M) (pc : Nat) (lv : List (Option Value)) (st : List Value) (σ : S) (bc bs : Nat) (o : Option (α × S)) : Prop :=
  ∀ (r : α) (σ' : S), o = some (r, σ') → ∀ (G : xm_G) (base b L : Nat) (xs : Nat → Int32) (l : Launch) (p : Program) (e : Env) (R : Room) (s : State) (m : MethodId) (args : Array Value) (below : List Frame) (meth : Method) (c : Code) (H : Heap) (locs : List Loc) (cells slots : Nat) (ls : Array Slot) (Q : State → Prop),
    xm_C G base b L xs M p s m args meth c → M.2.2.2.2.1 ≤ R.frames → M.2.2.2.2.2 ≤ R.locals → cells + bc ≤ R.cells → slots + bs ≤ R.slots → xm_L base b ls M.2.2.1 lv → xm_W G base (sg σ) H → s.heap.size + cells = base + (sg σ).1 → va_S (fun q => base ≤ q) s.heap H locs →
    (∀ (H1 : Heap) (locs1 : List Loc) (cells1 slots1 pc1 : Nat) (ls1 : Array Slot), cells1 ≤ cells + bc → slots1 ≤ slots + bs → xm_W G base (sg σ') H1 → va_S (fun q => base ≤ q) s.heap H1 locs1 → xm_rt M pc1 (em r) → W p l e R s m args below meth c H1 locs1 cells1 slots1 Q (F0 m pc1 ls1 ((em r).map (xm_r base b)).toList)) →
    W p l e R s m args below meth c H locs cells slots Q (F0 m pc ls (st.map (xm_r base b)))
end
section
def xm_let {α β : Type} (e : α) (f : α → β) : β := f e
def xm_chk {β : Type} (c : Prop) [Decidable c] (a : Option β) : Option β := if c then a else none
abbrev xm_in (i : Int32) (n : Nat) : Prop := 0 ≤ i.toInt ∧ i.toInt < (n : Int)
theorem xm_in_vp {i : Int32} {n : Nat} (h : xm_in i n) : vp_in i n := by
  rintro (q | q)
  · have := Int32.lt_iff_toInt_lt.mp q
    have h0 : (0 : Int32).toInt = 0 := rfl
    rw [h0] at this
    exact absurd h.1 (by omega)
  · have h1 := h.1
    have h2 := h.2
    have e1 : i.toNatClampNeg = i.toInt.toNat := rfl
    rw [e1] at q
    omega
def xm_kl (lv : List (Option Value)) (i : Nat) : List (Option Value) := match i with
  | 0 => lv
  | j + 1 => match lv[j]? with
    | some (some w) => if w.category = 2 then lv.set j none else lv
    | _ => lv
def xm_s1 (lv : List (Option Value)) (i : Nat) (v : Value) : List (Option Value) := (xm_kl lv i).set i (some v)
def xm_s2 (lv : List (Option Value)) (i : Nat) (v : Value) : List (Option Value) := ((xm_kl lv i).set (i + 1) none).set i (some v)
theorem xm_kl_at {lv : List (Option Value)} {i j : Nat} {w : Value} (h : (xm_kl lv i)[j]? = some (some w)) : lv[j]? = some (some w) ∧ ¬ (j + 1 = i ∧ w.category = 2) := by
  cases i with
  | zero => exact ⟨h, fun q => by omega⟩
  | succ t =>
    dsimp only [xm_kl] at h
    split at h
    · rename_i w' hw'
      split at h
      · rename_i hc
        rw [List.getElem?_set] at h
        split at h
        · split at h <;> cases h
        · rename_i hne
          exact ⟨h, fun q => hne (by omega)⟩
      · rename_i hc
        refine ⟨h, fun q => ?_⟩
        have e : j = t := by omega
        subst e
        rw [hw'] at h
        cases h
        exact hc q.2
    · rename_i hno
      refine ⟨h, fun q => ?_⟩
      have e : j = t := by omega
      subst e
      exact hno w h
theorem xm_L.st1 {base b : Nat} {ls' : Array Slot} {nn i : Nat} {v : Value} {l : List (Nat × Value)} {lv lv' : List (Option Value)} (hm : ∀ (i : Nat) (v : Value), lv[i]? = some (some v) → (i, xm_r base b v) ∈ l) (he : lv' = xm_s1 lv i v) (h' : lv_has ls' nn ((i, xm_r base b v) :: l.filter (fun q => !(q.1 == i) && !(q.1 + 1 == i && q.2.category == 2)))) : xm_L base b ls' nn lv' := by
  refine ⟨_, h', fun j w hj => ?_⟩
  rw [he, xm_s1, List.getElem?_set] at hj
  split at hj
  · rename_i hij
    subst hij
    split at hj
    · cases hj
      exact List.mem_cons_self
    · cases hj
  · rename_i hij
    obtain ⟨h1, h2⟩ := xm_kl_at hj
    refine List.mem_cons_of_mem _ (List.mem_filter.mpr ⟨hm j w h1, ?_⟩)
    simp only [Bool.and_eq_true, Bool.not_eq_true', beq_eq_false_iff_ne, Bool.and_eq_false_imp, beq_iff_eq, xm_r_cat]
    exact ⟨fun q => hij q.symm, fun q1 q2 => h2 ⟨q1, q2⟩⟩
theorem xm_L.st2 {base b : Nat} {ls' : Array Slot} {nn i : Nat} {v : Value} {l : List (Nat × Value)} {lv lv' : List (Option Value)} (hm : ∀ (i : Nat) (v : Value), lv[i]? = some (some v) → (i, xm_r base b v) ∈ l) (he : lv' = xm_s2 lv i v) (h' : lv_has ls' nn ((i, xm_r base b v) :: l.filter (fun q => !(q.1 == i) && (!(q.1 == i + 1) && !(q.1 + 1 == i && q.2.category == 2))))) : xm_L base b ls' nn lv' := by
  refine ⟨_, h', fun j w hj => ?_⟩
  rw [he, xm_s2, List.getElem?_set] at hj
  split at hj
  · rename_i hij
    subst hij
    split at hj
    · cases hj
      exact List.mem_cons_self
    · cases hj
  · rename_i hij
    rw [List.getElem?_set] at hj
    split at hj
    · split at hj <;> cases hj
    · rename_i hij2
      obtain ⟨h1, h2⟩ := xm_kl_at hj
      refine List.mem_cons_of_mem _ (List.mem_filter.mpr ⟨hm j w h1, ?_⟩)
      simp only [Bool.and_eq_true, Bool.not_eq_true', beq_eq_false_iff_ne, Bool.and_eq_false_imp, beq_iff_eq, xm_r_cat]
      exact ⟨fun q => hij q.symm, fun q => hij2 q.symm, fun q1 q2 => h2 ⟨q1, q2⟩⟩
theorem xm_cmp_ge (x y : Int64) : (0 ≤ lg_cmp x y) ↔ y ≤ x := lg_cmp_ge x y
theorem xm_cmp_lt (x y : Int64) : (lg_cmp x y < 0) ↔ x < y := by
  rw [← Int32.not_le, lg_cmp_ge, Int64.not_le]
theorem xm_cmp_gt (x y : Int64) : (0 < lg_cmp x y) ↔ y < x := by
  unfold lg_cmp
  by_cases h : y < x
  · simp [h]
  · by_cases h2 : x = y
    · simp [h2]
    · simp [h, h2]
theorem xm_cmp_le (x y : Int64) : (lg_cmp x y ≤ 0) ↔ x ≤ y := by
  rw [← Int32.not_lt, xm_cmp_gt, Int64.not_lt]
theorem xm_cmp_eq (x y : Int64) : (lg_cmp x y = 0) ↔ x = y := by
  unfold lg_cmp
  by_cases h : y < x
  · simp [h]
    intro e
    subst e
    exact absurd h (fun z => Int64.lt_irrefl z)
  · by_cases h2 : x = y
    · simp [h2]
    · simp [h, h2]
section XR_
variable {α S : Type} {em : α → Option Value} {sg : S → xm_S} {M : xm_M} {pc n : Nat} {lv : List (Option Value)} {st : List Value} {σ : S} {bc bs : Nat} {o : Option (α × S)}
theorem xs_iadd {x y : Int32} (hd : decode M.2.1 pc = .ok (.iadd, 1)) (hn : pc + 1 = n) (k : xs_ em sg M n lv (.int (x + y) :: st) σ bc bs o) : xs_ em sg M pc lv (.int y :: .int x :: st) σ bc bs o := by
  subst hn
  intro r σ' ho G base b L xs l p e R s m args below meth c H locs cells slots ls Q hC hf hlo hc hs hL hW hz hS kret
  exact lv_iadd hC.1 hC.2.1 hd (k r σ' ho G base b L xs l p e R s m args below meth c H locs cells slots ls Q hC hf hlo hc hs hL hW hz hS kret)
theorem xs_isub {x y : Int32} (hd : decode M.2.1 pc = .ok (.isub, 1)) (hn : pc + 1 = n) (k : xs_ em sg M n lv (.int (x - y) :: st) σ bc bs o) : xs_ em sg M pc lv (.int y :: .int x :: st) σ bc bs o := by
  subst hn
  intro r σ' ho G base b L xs l p e R s m args below meth c H locs cells slots ls Q hC hf hlo hc hs hL hW hz hS kret
  exact lv_isub hC.1 hC.2.1 hd (k r σ' ho G base b L xs l p e R s m args below meth c H locs cells slots ls Q hC hf hlo hc hs hL hW hz hS kret)
theorem xs_imul {x y : Int32} (hd : decode M.2.1 pc = .ok (.imul, 1)) (hn : pc + 1 = n) (k : xs_ em sg M n lv (.int (x * y) :: st) σ bc bs o) : xs_ em sg M pc lv (.int y :: .int x :: st) σ bc bs o := by
  subst hn
  intro r σ' ho G base b L xs l p e R s m args below meth c H locs cells slots ls Q hC hf hlo hc hs hL hW hz hS kret
  exact lv_imul hC.1 hC.2.1 hd (k r σ' ho G base b L xs l p e R s m args below meth c H locs cells slots ls Q hC hf hlo hc hs hL hW hz hS kret)
theorem xs_iand {x y : Int32} (hd : decode M.2.1 pc = .ok (.iand, 1)) (hn : pc + 1 = n) (k : xs_ em sg M n lv (.int (x &&& y) :: st) σ bc bs o) : xs_ em sg M pc lv (.int y :: .int x :: st) σ bc bs o := by
  subst hn
  intro r σ' ho G base b L xs l p e R s m args below meth c H locs cells slots ls Q hC hf hlo hc hs hL hW hz hS kret
  exact lv_iand hC.1 hC.2.1 hd (k r σ' ho G base b L xs l p e R s m args below meth c H locs cells slots ls Q hC hf hlo hc hs hL hW hz hS kret)
theorem xs_ior {x y : Int32} (hd : decode M.2.1 pc = .ok (.ior, 1)) (hn : pc + 1 = n) (k : xs_ em sg M n lv (.int (x ||| y) :: st) σ bc bs o) : xs_ em sg M pc lv (.int y :: .int x :: st) σ bc bs o := by
  subst hn
  intro r σ' ho G base b L xs l p e R s m args below meth c H locs cells slots ls Q hC hf hlo hc hs hL hW hz hS kret
  exact lv_ior hC.1 hC.2.1 hd (k r σ' ho G base b L xs l p e R s m args below meth c H locs cells slots ls Q hC hf hlo hc hs hL hW hz hS kret)
theorem xs_ishl {x y : Int32} (hd : decode M.2.1 pc = .ok (.ishl, 1)) (hn : pc + 1 = n) (k : xs_ em sg M n lv (.int (x <<< (y &&& 31)) :: st) σ bc bs o) : xs_ em sg M pc lv (.int y :: .int x :: st) σ bc bs o := by
  subst hn
  intro r σ' ho G base b L xs l p e R s m args below meth c H locs cells slots ls Q hC hf hlo hc hs hL hW hz hS kret
  exact lv_ishl hC.1 hC.2.1 hd (k r σ' ho G base b L xs l p e R s m args below meth c H locs cells slots ls Q hC hf hlo hc hs hL hW hz hS kret)
theorem xs_ishr {x y : Int32} (hd : decode M.2.1 pc = .ok (.ishr, 1)) (hn : pc + 1 = n) (k : xs_ em sg M n lv (.int (x >>> (y &&& 31)) :: st) σ bc bs o) : xs_ em sg M pc lv (.int y :: .int x :: st) σ bc bs o := by
  subst hn
  intro r σ' ho G base b L xs l p e R s m args below meth c H locs cells slots ls Q hC hf hlo hc hs hL hW hz hS kret
  exact lv_ishr hC.1 hC.2.1 hd (k r σ' ho G base b L xs l p e R s m args below meth c H locs cells slots ls Q hC hf hlo hc hs hL hW hz hS kret)
theorem xs_ineg {x : Int32} (hd : decode M.2.1 pc = .ok (.ineg, 1)) (hn : pc + 1 = n) (k : xs_ em sg M n lv (.int (-x) :: st) σ bc bs o) : xs_ em sg M pc lv (.int x :: st) σ bc bs o := by
  subst hn
  intro r σ' ho G base b L xs l p e R s m args below meth c H locs cells slots ls Q hC hf hlo hc hs hL hW hz hS kret
  exact lv_ineg hC.1 hC.2.1 hd (k r σ' ho G base b L xs l p e R s m args below meth c H locs cells slots ls Q hC hf hlo hc hs hL hW hz hS kret)
theorem xs_ladd {x y : Int64} (hd : decode M.2.1 pc = .ok (.ladd, 1)) (hn : pc + 1 = n) (k : xs_ em sg M n lv (.long (x + y) :: st) σ bc bs o) : xs_ em sg M pc lv (.long y :: .long x :: st) σ bc bs o := by
  subst hn
  intro r σ' ho G base b L xs l p e R s m args below meth c H locs cells slots ls Q hC hf hlo hc hs hL hW hz hS kret
  exact lv_ladd hC.1 hC.2.1 hd (k r σ' ho G base b L xs l p e R s m args below meth c H locs cells slots ls Q hC hf hlo hc hs hL hW hz hS kret)
theorem xs_lsub {x y : Int64} (hd : decode M.2.1 pc = .ok (.lsub, 1)) (hn : pc + 1 = n) (k : xs_ em sg M n lv (.long (x - y) :: st) σ bc bs o) : xs_ em sg M pc lv (.long y :: .long x :: st) σ bc bs o := by
  subst hn
  intro r σ' ho G base b L xs l p e R s m args below meth c H locs cells slots ls Q hC hf hlo hc hs hL hW hz hS kret
  exact lv_lsub hC.1 hC.2.1 hd (k r σ' ho G base b L xs l p e R s m args below meth c H locs cells slots ls Q hC hf hlo hc hs hL hW hz hS kret)
theorem xs_lmul {x y : Int64} (hd : decode M.2.1 pc = .ok (.lmul, 1)) (hn : pc + 1 = n) (k : xs_ em sg M n lv (.long (x * y) :: st) σ bc bs o) : xs_ em sg M pc lv (.long y :: .long x :: st) σ bc bs o := by
  subst hn
  intro r σ' ho G base b L xs l p e R s m args below meth c H locs cells slots ls Q hC hf hlo hc hs hL hW hz hS kret
  exact lv_lmul hC.1 hC.2.1 hd (k r σ' ho G base b L xs l p e R s m args below meth c H locs cells slots ls Q hC hf hlo hc hs hL hW hz hS kret)
theorem xs_land {x y : Int64} (hd : decode M.2.1 pc = .ok (.land, 1)) (hn : pc + 1 = n) (k : xs_ em sg M n lv (.long (x &&& y) :: st) σ bc bs o) : xs_ em sg M pc lv (.long y :: .long x :: st) σ bc bs o := by
  subst hn
  intro r σ' ho G base b L xs l p e R s m args below meth c H locs cells slots ls Q hC hf hlo hc hs hL hW hz hS kret
  exact lv_land hC.1 hC.2.1 hd (k r σ' ho G base b L xs l p e R s m args below meth c H locs cells slots ls Q hC hf hlo hc hs hL hW hz hS kret)
theorem xs_lor {x y : Int64} (hd : decode M.2.1 pc = .ok (.lor, 1)) (hn : pc + 1 = n) (k : xs_ em sg M n lv (.long (x ||| y) :: st) σ bc bs o) : xs_ em sg M pc lv (.long y :: .long x :: st) σ bc bs o := by
  subst hn
  intro r σ' ho G base b L xs l p e R s m args below meth c H locs cells slots ls Q hC hf hlo hc hs hL hW hz hS kret
  exact lv_lor hC.1 hC.2.1 hd (k r σ' ho G base b L xs l p e R s m args below meth c H locs cells slots ls Q hC hf hlo hc hs hL hW hz hS kret)
theorem xs_lxor {x y : Int64} (hd : decode M.2.1 pc = .ok (.lxor, 1)) (hn : pc + 1 = n) (k : xs_ em sg M n lv (.long (x ^^^ y) :: st) σ bc bs o) : xs_ em sg M pc lv (.long y :: .long x :: st) σ bc bs o := by
  subst hn
  intro r σ' ho G base b L xs l p e R s m args below meth c H locs cells slots ls Q hC hf hlo hc hs hL hW hz hS kret
  exact lv_lxor hC.1 hC.2.1 hd (k r σ' ho G base b L xs l p e R s m args below meth c H locs cells slots ls Q hC hf hlo hc hs hL hW hz hS kret)
theorem xs_lneg {x : Int64} (hd : decode M.2.1 pc = .ok (.lneg, 1)) (hn : pc + 1 = n) (k : xs_ em sg M n lv (.long (-x) :: st) σ bc bs o) : xs_ em sg M pc lv (.long x :: st) σ bc bs o := by
  subst hn
  intro r σ' ho G base b L xs l p e R s m args below meth c H locs cells slots ls Q hC hf hlo hc hs hL hW hz hS kret
  exact lv_lneg hC.1 hC.2.1 hd (k r σ' ho G base b L xs l p e R s m args below meth c H locs cells slots ls Q hC hf hlo hc hs hL hW hz hS kret)
theorem xs_i2l {x : Int32} (hd : decode M.2.1 pc = .ok (.i2l, 1)) (hn : pc + 1 = n) (k : xs_ em sg M n lv (.long x.toInt64 :: st) σ bc bs o) : xs_ em sg M pc lv (.int x :: st) σ bc bs o := by
  subst hn
  intro r σ' ho G base b L xs l p e R s m args below meth c H locs cells slots ls Q hC hf hlo hc hs hL hW hz hS kret
  exact lv_i2l hC.1 hC.2.1 hd rfl (k r σ' ho G base b L xs l p e R s m args below meth c H locs cells slots ls Q hC hf hlo hc hs hL hW hz hS kret)
theorem xs_l2i {x : Int64} (hd : decode M.2.1 pc = .ok (.l2i, 1)) (hn : pc + 1 = n) (k : xs_ em sg M n lv (.int x.toInt32 :: st) σ bc bs o) : xs_ em sg M pc lv (.long x :: st) σ bc bs o := by
  subst hn
  intro r σ' ho G base b L xs l p e R s m args below meth c H locs cells slots ls Q hC hf hlo hc hs hL hW hz hS kret
  exact lv_l2i hC.1 hC.2.1 hd rfl (k r σ' ho G base b L xs l p e R s m args below meth c H locs cells slots ls Q hC hf hlo hc hs hL hW hz hS kret)
theorem xs_lushr {x : Int64} {y : Int32} (hd : decode M.2.1 pc = .ok (.lushr, 1)) (hn : pc + 1 = n) (k : xs_ em sg M n lv (.long (x.toUInt64 >>> (y.toInt64.toUInt64 &&& Int64.toUInt64 63)).toInt64 :: st) σ bc bs o) : xs_ em sg M pc lv (.int y :: .long x :: st) σ bc bs o := by
  subst hn
  intro r σ' ho G base b L xs l p e R s m args below meth c H locs cells slots ls Q hC hf hlo hc hs hL hW hz hS kret
  exact lv_lushr hC.1 hC.2.1 hd rfl (k r σ' ho G base b L xs l p e R s m args below meth c H locs cells slots ls Q hC hf hlo hc hs hL hW hz hS kret)
theorem xs_lshl {x : Int64} {y : Int32} (hd : decode M.2.1 pc = .ok (.lshl, 1)) (hn : pc + 1 = n) (k : xs_ em sg M n lv (.long (x <<< (y.toInt64 &&& 63)) :: st) σ bc bs o) : xs_ em sg M pc lv (.int y :: .long x :: st) σ bc bs o := by
  subst hn
  intro r σ' ho G base b L xs l p e R s m args below meth c H locs cells slots ls Q hC hf hlo hc hs hL hW hz hS kret
  exact lv_lshl hC.1 hC.2.1 hd rfl (k r σ' ho G base b L xs l p e R s m args below meth c H locs cells slots ls Q hC hf hlo hc hs hL hW hz hS kret)
theorem xs_iconst {i : Int} {v : Int32} (hd : decode M.2.1 pc = .ok (.iconst i, 1)) (hn : pc + 1 = n) (hv : Int32.ofInt i = v) (k : xs_ em sg M n lv (.int v :: st) σ bc bs o) : xs_ em sg M pc lv (st) σ bc bs o := by
  subst hn
  intro r σ' ho G base b L xs l p e R s m args below meth c H locs cells slots ls Q hC hf hlo hc hs hL hW hz hS kret
  exact lv_iconst hC.1 hC.2.1 hd hv (k r σ' ho G base b L xs l p e R s m args below meth c H locs cells slots ls Q hC hf hlo hc hs hL hW hz hS kret)
theorem xs_bipush {i : Int} {v : Int32} (hd : decode M.2.1 pc = .ok (.bipush i, 2)) (hn : pc + 2 = n) (hv : (Int8.ofInt i).toInt32 = v) (k : xs_ em sg M n lv (.int v :: st) σ bc bs o) : xs_ em sg M pc lv (st) σ bc bs o := by
  subst hn
  intro r σ' ho G base b L xs l p e R s m args below meth c H locs cells slots ls Q hC hf hlo hc hs hL hW hz hS kret
  exact lv_bipush hC.1 hC.2.1 hd hv (k r σ' ho G base b L xs l p e R s m args below meth c H locs cells slots ls Q hC hf hlo hc hs hL hW hz hS kret)
theorem xs_sipush {i : Int} {v : Int32} (hd : decode M.2.1 pc = .ok (.sipush i, 3)) (hn : pc + 3 = n) (hv : (Int16.ofInt i).toInt32 = v) (k : xs_ em sg M n lv (.int v :: st) σ bc bs o) : xs_ em sg M pc lv (st) σ bc bs o := by
  subst hn
  intro r σ' ho G base b L xs l p e R s m args below meth c H locs cells slots ls Q hC hf hlo hc hs hL hW hz hS kret
  exact lv_sipush hC.1 hC.2.1 hd hv (k r σ' ho G base b L xs l p e R s m args below meth c H locs cells slots ls Q hC hf hlo hc hs hL hW hz hS kret)
theorem xs_lconst {i : Fin 2} {v : Int64} (hd : decode M.2.1 pc = .ok (.lconst i, 1)) (hn : pc + 1 = n) (hv : Int64.ofNat (i : Nat) = v) (k : xs_ em sg M n lv (.long v :: st) σ bc bs o) : xs_ em sg M pc lv (st) σ bc bs o := by
  subst hn
  intro r σ' ho G base b L xs l p e R s m args below meth c H locs cells slots ls Q hC hf hlo hc hs hL hW hz hS kret
  exact lv_lconst hC.1 hC.2.1 hd hv (k r σ' ho G base b L xs l p e R s m args below meth c H locs cells slots ls Q hC hf hlo hc hs hL hW hz hS kret)
theorem xs_iload_n {i : Fin 4} {x : Int32} (hd : decode M.2.1 pc = .ok (.iload_n i, 1)) (hn : pc + 1 = n) (hl : lv[(i : Nat)]? = some (some (.int x))) (k : xs_ em sg M n lv (.int x :: st) σ bc bs o) : xs_ em sg M pc lv (st) σ bc bs o := by
  subst hn
  intro r σ' ho G base b L xs l p e R s m args below meth c H locs cells slots ls Q hC hf hlo hc hs hL hW hz hS kret
  exact lv_iload_n hC.1 hC.2.1 hd rfl (hL.at hl) (k r σ' ho G base b L xs l p e R s m args below meth c H locs cells slots ls Q hC hf hlo hc hs hL hW hz hS kret)
theorem xs_iload {i : Nat} {x : Int32} (hd : decode M.2.1 pc = .ok (.iload i, 2)) (hn : pc + 2 = n) (hl : lv[i]? = some (some (.int x))) (k : xs_ em sg M n lv (.int x :: st) σ bc bs o) : xs_ em sg M pc lv (st) σ bc bs o := by
  subst hn
  intro r σ' ho G base b L xs l p e R s m args below meth c H locs cells slots ls Q hC hf hlo hc hs hL hW hz hS kret
  exact lv_iload hC.1 hC.2.1 hd (hL.at hl) (k r σ' ho G base b L xs l p e R s m args below meth c H locs cells slots ls Q hC hf hlo hc hs hL hW hz hS kret)
theorem xs_lload_n {i : Fin 4} {x : Int64} (hd : decode M.2.1 pc = .ok (.lload_n i, 1)) (hn : pc + 1 = n) (hl : lv[(i : Nat)]? = some (some (.long x))) (k : xs_ em sg M n lv (.long x :: st) σ bc bs o) : xs_ em sg M pc lv (st) σ bc bs o := by
  subst hn
  intro r σ' ho G base b L xs l p e R s m args below meth c H locs cells slots ls Q hC hf hlo hc hs hL hW hz hS kret
  exact lv_lload_n hC.1 hC.2.1 hd rfl (hL.at hl) (k r σ' ho G base b L xs l p e R s m args below meth c H locs cells slots ls Q hC hf hlo hc hs hL hW hz hS kret)
theorem xs_lload {i : Nat} {x : Int64} (hd : decode M.2.1 pc = .ok (.lload i, 2)) (hn : pc + 2 = n) (hl : lv[i]? = some (some (.long x))) (k : xs_ em sg M n lv (.long x :: st) σ bc bs o) : xs_ em sg M pc lv (st) σ bc bs o := by
  subst hn
  intro r σ' ho G base b L xs l p e R s m args below meth c H locs cells slots ls Q hC hf hlo hc hs hL hW hz hS kret
  exact lv_lload hC.1 hC.2.1 hd (hL.at hl) (k r σ' ho G base b L xs l p e R s m args below meth c H locs cells slots ls Q hC hf hlo hc hs hL hW hz hS kret)
theorem xs_aload_n {i : Fin 4} {x : Nat} (hd : decode M.2.1 pc = .ok (.aload_n i, 1)) (hn : pc + 1 = n) (hl : lv[(i : Nat)]? = some (some (.ref x))) (k : xs_ em sg M n lv (.ref x :: st) σ bc bs o) : xs_ em sg M pc lv (st) σ bc bs o := by
  subst hn
  intro r σ' ho G base b L xs l p e R s m args below meth c H locs cells slots ls Q hC hf hlo hc hs hL hW hz hS kret
  exact lv_aload_n hC.1 hC.2.1 hd rfl (hL.at hl) (k r σ' ho G base b L xs l p e R s m args below meth c H locs cells slots ls Q hC hf hlo hc hs hL hW hz hS kret)
theorem xs_aload {i : Nat} {x : Nat} (hd : decode M.2.1 pc = .ok (.aload i, 2)) (hn : pc + 2 = n) (hl : lv[i]? = some (some (.ref x))) (k : xs_ em sg M n lv (.ref x :: st) σ bc bs o) : xs_ em sg M pc lv (st) σ bc bs o := by
  subst hn
  intro r σ' ho G base b L xs l p e R s m args below meth c H locs cells slots ls Q hC hf hlo hc hs hL hW hz hS kret
  exact lv_aload hC.1 hC.2.1 hd (hL.at hl) (k r σ' ho G base b L xs l p e R s m args below meth c H locs cells slots ls Q hC hf hlo hc hs hL hW hz hS kret)
theorem xs_sload_n {i : Fin 4} {x : UInt32} (hd : decode M.2.1 pc = .ok (.aload_n i, 1)) (hn : pc + 1 = n) (hl : lv[(i : Nat)]? = some (some (.float x))) (k : xs_ em sg M n lv (.float x :: st) σ bc bs o) : xs_ em sg M pc lv (st) σ bc bs o := by
  subst hn
  intro r σ' ho G base b L xs l p e R s m args below meth c H locs cells slots ls Q hC hf hlo hc hs hL hW hz hS kret
  exact lv_aload_n hC.1 hC.2.1 hd rfl (hL.at hl) (k r σ' ho G base b L xs l p e R s m args below meth c H locs cells slots ls Q hC hf hlo hc hs hL hW hz hS kret)
theorem xs_istore_n {i : Fin 4} {x : Int32} {lv' : List (Option Value)} (hd : decode M.2.1 pc = .ok (.istore_n i, 1)) (hn : pc + 1 = n) (hi : (i : Nat) < M.2.2.1) (he : xm_s1 lv (i : Nat) (.int x) = lv') (k : xs_ em sg M n lv' st σ bc bs o) : xs_ em sg M pc lv (.int x :: st) σ bc bs o := by
  subst hn
  intro r σ' ho G base b L xs l p e R s m args below meth c H locs cells slots ls Q hC hf hlo hc hs hL hW hz hS kret
  obtain ⟨l0, hl0, hm⟩ := hL
  exact lv_istore_n hC.1 hC.2.1 hd rfl hl0 hi rfl (fun ls' h' => k r σ' ho G base b L xs l p e R s m args below meth c H locs cells slots ls' Q hC hf hlo hc hs (xm_L.st1 hm he.symm h') hW hz hS kret)
theorem xs_istore {i : Nat} {x : Int32} {lv' : List (Option Value)} (hd : decode M.2.1 pc = .ok (.istore i, 2)) (hn : pc + 2 = n) (hi : i < M.2.2.1) (he : xm_s1 lv i (.int x) = lv') (k : xs_ em sg M n lv' st σ bc bs o) : xs_ em sg M pc lv (.int x :: st) σ bc bs o := by
  subst hn
  intro r σ' ho G base b L xs l p e R s m args below meth c H locs cells slots ls Q hC hf hlo hc hs hL hW hz hS kret
  obtain ⟨l0, hl0, hm⟩ := hL
  exact lv_istore hC.1 hC.2.1 hd hl0 hi rfl (fun ls' h' => k r σ' ho G base b L xs l p e R s m args below meth c H locs cells slots ls' Q hC hf hlo hc hs (xm_L.st1 hm he.symm h') hW hz hS kret)
theorem xs_lstore_n {i : Fin 4} {x : Int64} {lv' : List (Option Value)} (hd : decode M.2.1 pc = .ok (.lstore_n i, 1)) (hn : pc + 1 = n) (hi : (i : Nat) + 1 < M.2.2.1) (he : xm_s2 lv (i : Nat) (.long x) = lv') (k : xs_ em sg M n lv' st σ bc bs o) : xs_ em sg M pc lv (.long x :: st) σ bc bs o := by
  subst hn
  intro r σ' ho G base b L xs l p e R s m args below meth c H locs cells slots ls Q hC hf hlo hc hs hL hW hz hS kret
  obtain ⟨l0, hl0, hm⟩ := hL
  exact lv_lstore_n hC.1 hC.2.1 hd rfl hl0 hi rfl (fun ls' h' => k r σ' ho G base b L xs l p e R s m args below meth c H locs cells slots ls' Q hC hf hlo hc hs (xm_L.st2 hm he.symm h') hW hz hS kret)
theorem xs_lstore {i : Nat} {x : Int64} {lv' : List (Option Value)} (hd : decode M.2.1 pc = .ok (.lstore i, 2)) (hn : pc + 2 = n) (hi : i + 1 < M.2.2.1) (he : xm_s2 lv i (.long x) = lv') (k : xs_ em sg M n lv' st σ bc bs o) : xs_ em sg M pc lv (.long x :: st) σ bc bs o := by
  subst hn
  intro r σ' ho G base b L xs l p e R s m args below meth c H locs cells slots ls Q hC hf hlo hc hs hL hW hz hS kret
  obtain ⟨l0, hl0, hm⟩ := hL
  exact lv_lstore hC.1 hC.2.1 hd hl0 hi rfl (fun ls' h' => k r σ' ho G base b L xs l p e R s m args below meth c H locs cells slots ls' Q hC hf hlo hc hs (xm_L.st2 hm he.symm h') hW hz hS kret)
theorem xs_astore_n {i : Fin 4} {x : Nat} {lv' : List (Option Value)} (hd : decode M.2.1 pc = .ok (.astore_n i, 1)) (hn : pc + 1 = n) (hi : (i : Nat) < M.2.2.1) (he : xm_s1 lv (i : Nat) (.ref x) = lv') (k : xs_ em sg M n lv' st σ bc bs o) : xs_ em sg M pc lv (.ref x :: st) σ bc bs o := by
  subst hn
  intro r σ' ho G base b L xs l p e R s m args below meth c H locs cells slots ls Q hC hf hlo hc hs hL hW hz hS kret
  obtain ⟨l0, hl0, hm⟩ := hL
  exact lv_astore_n hC.1 hC.2.1 hd rfl hl0 hi rfl (fun ls' h' => k r σ' ho G base b L xs l p e R s m args below meth c H locs cells slots ls' Q hC hf hlo hc hs (xm_L.st1 hm he.symm h') hW hz hS kret)
theorem xs_astore {i : Nat} {x : Nat} {lv' : List (Option Value)} (hd : decode M.2.1 pc = .ok (.astore i, 2)) (hn : pc + 2 = n) (hi : i < M.2.2.1) (he : xm_s1 lv i (.ref x) = lv') (k : xs_ em sg M n lv' st σ bc bs o) : xs_ em sg M pc lv (.ref x :: st) σ bc bs o := by
  subst hn
  intro r σ' ho G base b L xs l p e R s m args below meth c H locs cells slots ls Q hC hf hlo hc hs hL hW hz hS kret
  obtain ⟨l0, hl0, hm⟩ := hL
  exact lv_astore hC.1 hC.2.1 hd hl0 hi rfl (fun ls' h' => k r σ' ho G base b L xs l p e R s m args below meth c H locs cells slots ls' Q hC hf hlo hc hs (xm_L.st1 hm he.symm h') hW hz hS kret)
theorem xs_iinc {i : Nat} {d : Int} {x v : Int32} {lv' : List (Option Value)} (hd : decode M.2.1 pc = .ok (.iinc i d, 3)) (hn : pc + 3 = n) (hl : lv[i]? = some (some (.int x))) (hv : x + Int32.ofInt d = v) (hi : i < M.2.2.1) (he : xm_s1 lv i (.int v) = lv') (k : xs_ em sg M n lv' st σ bc bs o) : xs_ em sg M pc lv st σ bc bs o := by
  subst hn
  intro r σ' ho G base b L xs l p e R s m args below meth c H locs cells slots ls Q hC hf hlo hc hs hL hW hz hS kret
  obtain ⟨l0, hl0, hm⟩ := hL
  obtain ⟨kk, hkk⟩ := List.getElem?_of_mem (hm i _ hl)
  exact lv_iinc hC.1 hC.2.1 hd hl0 hkk hv hi rfl (fun ls' h' => k r σ' ho G base b L xs l p e R s m args below meth c H locs cells slots ls' Q hC hf hlo hc hs (xm_L.st1 hm he.symm h') hW hz hS kret)
theorem xs_dup {v : Value} (hd : decode M.2.1 pc = .ok (.dup, 1)) (hn : pc + 1 = n) (hv : v.category = 1) (k : xs_ em sg M n lv (v :: v :: st) σ bc bs o) : xs_ em sg M pc lv (v :: st) σ bc bs o := by
  subst hn
  intro r σ' ho G base b L xs l p e R s m args below meth c H locs cells slots ls Q hC hf hlo hc hs hL hW hz hS kret
  exact lv_dup hC.1 hC.2.1 hd ((xm_r_cat base b v).trans hv) (k r σ' ho G base b L xs l p e R s m args below meth c H locs cells slots ls Q hC hf hlo hc hs hL hW hz hS kret)
theorem xs_pop {v : Value} (hd : decode M.2.1 pc = .ok (.pop, 1)) (hn : pc + 1 = n) (hv : v.category = 1) (k : xs_ em sg M n lv (st) σ bc bs o) : xs_ em sg M pc lv (v :: st) σ bc bs o := by
  subst hn
  intro r σ' ho G base b L xs l p e R s m args below meth c H locs cells slots ls Q hC hf hlo hc hs hL hW hz hS kret
  exact lv_pop hC.1 hC.2.1 hd ((xm_r_cat base b v).trans hv) (k r σ' ho G base b L xs l p e R s m args below meth c H locs cells slots ls Q hC hf hlo hc hs hL hW hz hS kret)
theorem xs_dup2_11 {v w : Value} (hd : decode M.2.1 pc = .ok (.dup2, 1)) (hn : pc + 1 = n) (hv : v.category = 1) (hw : w.category = 1) (k : xs_ em sg M n lv (v :: w :: v :: w :: st) σ bc bs o) : xs_ em sg M pc lv (v :: w :: st) σ bc bs o := by
  subst hn
  intro r σ' ho G base b L xs l p e R s m args below meth c H locs cells slots ls Q hC hf hlo hc hs hL hW hz hS kret
  exact lv_dup2_11 hC.1 hC.2.1 hd ((xm_r_cat base b v).trans hv) ((xm_r_cat base b w).trans hw) (k r σ' ho G base b L xs l p e R s m args below meth c H locs cells slots ls Q hC hf hlo hc hs hL hW hz hS kret)
theorem xs_dup2_2 {v : Value} (hd : decode M.2.1 pc = .ok (.dup2, 1)) (hn : pc + 1 = n) (hv : v.category = 2) (k : xs_ em sg M n lv (v :: v :: st) σ bc bs o) : xs_ em sg M pc lv (v :: st) σ bc bs o := by
  subst hn
  intro r σ' ho G base b L xs l p e R s m args below meth c H locs cells slots ls Q hC hf hlo hc hs hL hW hz hS kret
  exact lv_dup2_2 hC.1 hC.2.1 hd ((xm_r_cat base b v).trans hv) (k r σ' ho G base b L xs l p e R s m args below meth c H locs cells slots ls Q hC hf hlo hc hs hL hW hz hS kret)
theorem xs_goto {off : Int} (hd : decode M.2.1 pc = .ok (.goto off, 3)) (ht : (pc : Int) + off = (n : Int)) (k : xs_ em sg M n lv st σ bc bs o) : xs_ em sg M pc lv st σ bc bs o := by
  intro r σ' ho G base b L xs l p e R s m args below meth c H locs cells slots ls Q hC hf hlo hc hs hL hW hz hS kret
  exact lv_goto hC.1 hC.2.1 hd ht (k r σ' ho G base b L xs l p e R s m args below meth c H locs cells slots ls Q hC hf hlo hc hs hL hW hz hS kret)
theorem xs_idiv {β : Type} {x y : Int32} {a : Option β} {f : β → Option (α × S)} (hd : decode M.2.1 pc = .ok (.idiv, 1)) (hn : pc + 1 = n) (k : ¬ y = 0 → xs_ em sg M n lv (.int (x / y) :: st) σ bc bs (a.bind f)) : xs_ em sg M pc lv (.int y :: .int x :: st) σ bc bs ((xm_chk (¬ y = 0) a).bind f) := by
  subst hn
  intro r σ' ho G base b L xs l p e R s m args below meth c H locs cells slots ls Q hC hf hlo hc hs hL hW hz hS kret
  by_cases hch : ¬ y = 0
  · rw [xm_chk, if_pos hch] at ho
    exact lv_idiv hC.1 hC.2.1 hd hch (k hch r σ' ho G base b L xs l p e R s m args below meth c H locs cells slots ls Q hC hf hlo hc hs hL hW hz hS kret)
  · rw [xm_chk, if_neg hch] at ho
    cases ho
theorem xs_ldiv {β : Type} {x y : Int64} {a : Option β} {f : β → Option (α × S)} (hd : decode M.2.1 pc = .ok (.ldiv, 1)) (hn : pc + 1 = n) (k : ¬ y = 0 → xs_ em sg M n lv (.long (x / y) :: st) σ bc bs (a.bind f)) : xs_ em sg M pc lv (.long y :: .long x :: st) σ bc bs ((xm_chk (¬ y = 0) a).bind f) := by
  subst hn
  intro r σ' ho G base b L xs l p e R s m args below meth c H locs cells slots ls Q hC hf hlo hc hs hL hW hz hS kret
  by_cases hch : ¬ y = 0
  · rw [xm_chk, if_pos hch] at ho
    exact lv_ldiv hC.1 hC.2.1 hd hch (k hch r σ' ho G base b L xs l p e R s m args below meth c H locs cells slots ls Q hC hf hlo hc hs hL hW hz hS kret)
  · rw [xm_chk, if_neg hch] at ho
    cases ho
theorem xs_irem {β : Type} {x y : Int32} {a : Option β} {f : β → Option (α × S)} (hd : decode M.2.1 pc = .ok (.irem, 1)) (hn : pc + 1 = n) (k : ¬ y = 0 → xs_ em sg M n lv (.int (x - x / y * y) :: st) σ bc bs (a.bind f)) : xs_ em sg M pc lv (.int y :: .int x :: st) σ bc bs ((xm_chk (¬ y = 0) a).bind f) := by
  subst hn
  intro r σ' ho G base b L xs l p e R s m args below meth c H locs cells slots ls Q hC hf hlo hc hs hL hW hz hS kret
  by_cases hch : ¬ y = 0
  · rw [xm_chk, if_pos hch] at ho
    exact lv_irem hC.1 hC.2.1 hd hch (k hch r σ' ho G base b L xs l p e R s m args below meth c H locs cells slots ls Q hC hf hlo hc hs hL hW hz hS kret)
  · rw [xm_chk, if_neg hch] at ho
    cases ho
theorem xs_lrem {β : Type} {x y : Int64} {a : Option β} {f : β → Option (α × S)} (hd : decode M.2.1 pc = .ok (.lrem, 1)) (hn : pc + 1 = n) (k : ¬ y = 0 → xs_ em sg M n lv (.long (x - x / y * y) :: st) σ bc bs (a.bind f)) : xs_ em sg M pc lv (.long y :: .long x :: st) σ bc bs ((xm_chk (¬ y = 0) a).bind f) := by
  subst hn
  intro r σ' ho G base b L xs l p e R s m args below meth c H locs cells slots ls Q hC hf hlo hc hs hL hW hz hS kret
  by_cases hch : ¬ y = 0
  · rw [xm_chk, if_pos hch] at ho
    exact lv_lrem hC.1 hC.2.1 hd hch (k hch r σ' ho G base b L xs l p e R s m args below meth c H locs cells slots ls Q hC hf hlo hc hs hL hW hz hS kret)
  · rw [xm_chk, if_neg hch] at ho
    cases ho
theorem xs_icmp_eq {β : Type} {x y : Int32} {off : Int} {tgt : Nat} {a1 a2 : Option β} {f : β → Option (α × S)} (hd : decode M.2.1 pc = .ok (.if_icmp .eq off, 3)) (ht : (pc : Int) + off = (tgt : Int)) (hn : pc + 3 = n) (k1 : x = y → xs_ em sg M tgt lv st σ bc bs (a1.bind f)) (k2 : ¬ (x = y) → xs_ em sg M n lv st σ bc bs (a2.bind f)) : xs_ em sg M pc lv (.int y :: .int x :: st) σ bc bs ((if x = y then a1 else a2).bind f) := by
  subst hn
  intro r σ' ho G base b L xs l p e R s m args below meth c H locs cells slots ls Q hC hf hlo hc hs hL hW hz hS kret
  refine lv_icmp_eq hC.1 hC.2.1 hd ht (fun hcd => ?_) (fun hcd => ?_)
  · exact k1 hcd r σ' (by rw [if_pos hcd] at ho; exact ho) G base b L xs l p e R s m args below meth c H locs cells slots ls Q hC hf hlo hc hs hL hW hz hS kret
  · exact k2 hcd r σ' (by rw [if_neg hcd] at ho; exact ho) G base b L xs l p e R s m args below meth c H locs cells slots ls Q hC hf hlo hc hs hL hW hz hS kret
theorem xs_icmp_lt {β : Type} {x y : Int32} {off : Int} {tgt : Nat} {a1 a2 : Option β} {f : β → Option (α × S)} (hd : decode M.2.1 pc = .ok (.if_icmp .lt off, 3)) (ht : (pc : Int) + off = (tgt : Int)) (hn : pc + 3 = n) (k1 : x < y → xs_ em sg M tgt lv st σ bc bs (a1.bind f)) (k2 : ¬ (x < y) → xs_ em sg M n lv st σ bc bs (a2.bind f)) : xs_ em sg M pc lv (.int y :: .int x :: st) σ bc bs ((if x < y then a1 else a2).bind f) := by
  subst hn
  intro r σ' ho G base b L xs l p e R s m args below meth c H locs cells slots ls Q hC hf hlo hc hs hL hW hz hS kret
  refine lv_icmp_lt hC.1 hC.2.1 hd ht (fun hcd => ?_) (fun hcd => ?_)
  · exact k1 hcd r σ' (by rw [if_pos hcd] at ho; exact ho) G base b L xs l p e R s m args below meth c H locs cells slots ls Q hC hf hlo hc hs hL hW hz hS kret
  · exact k2 hcd r σ' (by rw [if_neg hcd] at ho; exact ho) G base b L xs l p e R s m args below meth c H locs cells slots ls Q hC hf hlo hc hs hL hW hz hS kret
theorem xs_icmp_ge {β : Type} {x y : Int32} {off : Int} {tgt : Nat} {a1 a2 : Option β} {f : β → Option (α × S)} (hd : decode M.2.1 pc = .ok (.if_icmp .ge off, 3)) (ht : (pc : Int) + off = (tgt : Int)) (hn : pc + 3 = n) (k1 : y ≤ x → xs_ em sg M tgt lv st σ bc bs (a1.bind f)) (k2 : ¬ (y ≤ x) → xs_ em sg M n lv st σ bc bs (a2.bind f)) : xs_ em sg M pc lv (.int y :: .int x :: st) σ bc bs ((if y ≤ x then a1 else a2).bind f) := by
  subst hn
  intro r σ' ho G base b L xs l p e R s m args below meth c H locs cells slots ls Q hC hf hlo hc hs hL hW hz hS kret
  refine lv_icmp_ge hC.1 hC.2.1 hd ht (fun hcd => ?_) (fun hcd => ?_)
  · exact k1 hcd r σ' (by rw [if_pos hcd] at ho; exact ho) G base b L xs l p e R s m args below meth c H locs cells slots ls Q hC hf hlo hc hs hL hW hz hS kret
  · exact k2 hcd r σ' (by rw [if_neg hcd] at ho; exact ho) G base b L xs l p e R s m args below meth c H locs cells slots ls Q hC hf hlo hc hs hL hW hz hS kret
theorem xs_icmp_gt {β : Type} {x y : Int32} {off : Int} {tgt : Nat} {a1 a2 : Option β} {f : β → Option (α × S)} (hd : decode M.2.1 pc = .ok (.if_icmp .gt off, 3)) (ht : (pc : Int) + off = (tgt : Int)) (hn : pc + 3 = n) (k1 : y < x → xs_ em sg M tgt lv st σ bc bs (a1.bind f)) (k2 : ¬ (y < x) → xs_ em sg M n lv st σ bc bs (a2.bind f)) : xs_ em sg M pc lv (.int y :: .int x :: st) σ bc bs ((if y < x then a1 else a2).bind f) := by
  subst hn
  intro r σ' ho G base b L xs l p e R s m args below meth c H locs cells slots ls Q hC hf hlo hc hs hL hW hz hS kret
  refine lv_icmp_gt hC.1 hC.2.1 hd ht (fun hcd => ?_) (fun hcd => ?_)
  · exact k1 hcd r σ' (by rw [if_pos hcd] at ho; exact ho) G base b L xs l p e R s m args below meth c H locs cells slots ls Q hC hf hlo hc hs hL hW hz hS kret
  · exact k2 hcd r σ' (by rw [if_neg hcd] at ho; exact ho) G base b L xs l p e R s m args below meth c H locs cells slots ls Q hC hf hlo hc hs hL hW hz hS kret
theorem xs_icmp_le {β : Type} {x y : Int32} {off : Int} {tgt : Nat} {a1 a2 : Option β} {f : β → Option (α × S)} (hd : decode M.2.1 pc = .ok (.if_icmp .le off, 3)) (ht : (pc : Int) + off = (tgt : Int)) (hn : pc + 3 = n) (k1 : x ≤ y → xs_ em sg M tgt lv st σ bc bs (a1.bind f)) (k2 : ¬ (x ≤ y) → xs_ em sg M n lv st σ bc bs (a2.bind f)) : xs_ em sg M pc lv (.int y :: .int x :: st) σ bc bs ((if x ≤ y then a1 else a2).bind f) := by
  subst hn
  intro r σ' ho G base b L xs l p e R s m args below meth c H locs cells slots ls Q hC hf hlo hc hs hL hW hz hS kret
  refine lv_icmp_le hC.1 hC.2.1 hd ht (fun hcd => ?_) (fun hcd => ?_)
  · exact k1 hcd r σ' (by rw [if_pos hcd] at ho; exact ho) G base b L xs l p e R s m args below meth c H locs cells slots ls Q hC hf hlo hc hs hL hW hz hS kret
  · exact k2 hcd r σ' (by rw [if_neg hcd] at ho; exact ho) G base b L xs l p e R s m args below meth c H locs cells slots ls Q hC hf hlo hc hs hL hW hz hS kret
theorem xs_if_eq {β : Type} {x : Int32} {off : Int} {tgt : Nat} {a1 a2 : Option β} {f : β → Option (α × S)} (hd : decode M.2.1 pc = .ok (.ifCond .eq off, 3)) (ht : (pc : Int) + off = (tgt : Int)) (hn : pc + 3 = n) (k1 : x = 0 → xs_ em sg M tgt lv st σ bc bs (a1.bind f)) (k2 : ¬ (x = 0) → xs_ em sg M n lv st σ bc bs (a2.bind f)) : xs_ em sg M pc lv (.int x :: st) σ bc bs ((if x = 0 then a1 else a2).bind f) := by
  subst hn
  intro r σ' ho G base b L xs l p e R s m args below meth c H locs cells slots ls Q hC hf hlo hc hs hL hW hz hS kret
  refine lv_if_eq hC.1 hC.2.1 hd ht (fun hcd => ?_) (fun hcd => ?_)
  · exact k1 hcd r σ' (by rw [if_pos hcd] at ho; exact ho) G base b L xs l p e R s m args below meth c H locs cells slots ls Q hC hf hlo hc hs hL hW hz hS kret
  · exact k2 hcd r σ' (by rw [if_neg hcd] at ho; exact ho) G base b L xs l p e R s m args below meth c H locs cells slots ls Q hC hf hlo hc hs hL hW hz hS kret
theorem xs_if_lt {β : Type} {x : Int32} {off : Int} {tgt : Nat} {a1 a2 : Option β} {f : β → Option (α × S)} (hd : decode M.2.1 pc = .ok (.ifCond .lt off, 3)) (ht : (pc : Int) + off = (tgt : Int)) (hn : pc + 3 = n) (k1 : x < 0 → xs_ em sg M tgt lv st σ bc bs (a1.bind f)) (k2 : ¬ (x < 0) → xs_ em sg M n lv st σ bc bs (a2.bind f)) : xs_ em sg M pc lv (.int x :: st) σ bc bs ((if x < 0 then a1 else a2).bind f) := by
  subst hn
  intro r σ' ho G base b L xs l p e R s m args below meth c H locs cells slots ls Q hC hf hlo hc hs hL hW hz hS kret
  refine lv_if_lt hC.1 hC.2.1 hd ht (fun hcd => ?_) (fun hcd => ?_)
  · exact k1 hcd r σ' (by rw [if_pos hcd] at ho; exact ho) G base b L xs l p e R s m args below meth c H locs cells slots ls Q hC hf hlo hc hs hL hW hz hS kret
  · exact k2 hcd r σ' (by rw [if_neg hcd] at ho; exact ho) G base b L xs l p e R s m args below meth c H locs cells slots ls Q hC hf hlo hc hs hL hW hz hS kret
theorem xs_if_ge {β : Type} {x : Int32} {off : Int} {tgt : Nat} {a1 a2 : Option β} {f : β → Option (α × S)} (hd : decode M.2.1 pc = .ok (.ifCond .ge off, 3)) (ht : (pc : Int) + off = (tgt : Int)) (hn : pc + 3 = n) (k1 : 0 ≤ x → xs_ em sg M tgt lv st σ bc bs (a1.bind f)) (k2 : ¬ (0 ≤ x) → xs_ em sg M n lv st σ bc bs (a2.bind f)) : xs_ em sg M pc lv (.int x :: st) σ bc bs ((if 0 ≤ x then a1 else a2).bind f) := by
  subst hn
  intro r σ' ho G base b L xs l p e R s m args below meth c H locs cells slots ls Q hC hf hlo hc hs hL hW hz hS kret
  refine lv_if_ge hC.1 hC.2.1 hd ht (fun hcd => ?_) (fun hcd => ?_)
  · exact k1 hcd r σ' (by rw [if_pos hcd] at ho; exact ho) G base b L xs l p e R s m args below meth c H locs cells slots ls Q hC hf hlo hc hs hL hW hz hS kret
  · exact k2 hcd r σ' (by rw [if_neg hcd] at ho; exact ho) G base b L xs l p e R s m args below meth c H locs cells slots ls Q hC hf hlo hc hs hL hW hz hS kret
theorem xs_if_gt {β : Type} {x : Int32} {off : Int} {tgt : Nat} {a1 a2 : Option β} {f : β → Option (α × S)} (hd : decode M.2.1 pc = .ok (.ifCond .gt off, 3)) (ht : (pc : Int) + off = (tgt : Int)) (hn : pc + 3 = n) (k1 : 0 < x → xs_ em sg M tgt lv st σ bc bs (a1.bind f)) (k2 : ¬ (0 < x) → xs_ em sg M n lv st σ bc bs (a2.bind f)) : xs_ em sg M pc lv (.int x :: st) σ bc bs ((if 0 < x then a1 else a2).bind f) := by
  subst hn
  intro r σ' ho G base b L xs l p e R s m args below meth c H locs cells slots ls Q hC hf hlo hc hs hL hW hz hS kret
  refine lv_if_gt hC.1 hC.2.1 hd ht (fun hcd => ?_) (fun hcd => ?_)
  · exact k1 hcd r σ' (by rw [if_pos hcd] at ho; exact ho) G base b L xs l p e R s m args below meth c H locs cells slots ls Q hC hf hlo hc hs hL hW hz hS kret
  · exact k2 hcd r σ' (by rw [if_neg hcd] at ho; exact ho) G base b L xs l p e R s m args below meth c H locs cells slots ls Q hC hf hlo hc hs hL hW hz hS kret
theorem xs_if_le {β : Type} {x : Int32} {off : Int} {tgt : Nat} {a1 a2 : Option β} {f : β → Option (α × S)} (hd : decode M.2.1 pc = .ok (.ifCond .le off, 3)) (ht : (pc : Int) + off = (tgt : Int)) (hn : pc + 3 = n) (k1 : x ≤ 0 → xs_ em sg M tgt lv st σ bc bs (a1.bind f)) (k2 : ¬ (x ≤ 0) → xs_ em sg M n lv st σ bc bs (a2.bind f)) : xs_ em sg M pc lv (.int x :: st) σ bc bs ((if x ≤ 0 then a1 else a2).bind f) := by
  subst hn
  intro r σ' ho G base b L xs l p e R s m args below meth c H locs cells slots ls Q hC hf hlo hc hs hL hW hz hS kret
  refine lv_if_le hC.1 hC.2.1 hd ht (fun hcd => ?_) (fun hcd => ?_)
  · exact k1 hcd r σ' (by rw [if_pos hcd] at ho; exact ho) G base b L xs l p e R s m args below meth c H locs cells slots ls Q hC hf hlo hc hs hL hW hz hS kret
  · exact k2 hcd r σ' (by rw [if_neg hcd] at ho; exact ho) G base b L xs l p e R s m args below meth c H locs cells slots ls Q hC hf hlo hc hs hL hW hz hS kret
theorem xs_icmp_ne {β : Type} {x y : Int32} {off : Int} {tgt : Nat} {a1 a2 : Option β} {f : β → Option (α × S)} (hd : decode M.2.1 pc = .ok (.if_icmp .ne off, 3)) (ht : (pc : Int) + off = (tgt : Int)) (hn : pc + 3 = n) (k1 : x = y → xs_ em sg M n lv st σ bc bs (a1.bind f)) (k2 : ¬ (x = y) → xs_ em sg M tgt lv st σ bc bs (a2.bind f)) : xs_ em sg M pc lv (.int y :: .int x :: st) σ bc bs ((if x = y then a1 else a2).bind f) := by
  subst hn
  intro r σ' ho G base b L xs l p e R s m args below meth c H locs cells slots ls Q hC hf hlo hc hs hL hW hz hS kret
  refine lv_icmp_ne hC.1 hC.2.1 hd ht (fun hcd => ?_) (fun hcd => ?_)
  · exact k2 hcd r σ' (by rw [if_neg hcd] at ho; exact ho) G base b L xs l p e R s m args below meth c H locs cells slots ls Q hC hf hlo hc hs hL hW hz hS kret
  · exact k1 hcd r σ' (by rw [if_pos hcd] at ho; exact ho) G base b L xs l p e R s m args below meth c H locs cells slots ls Q hC hf hlo hc hs hL hW hz hS kret
theorem xs_if_ne {β : Type} {x : Int32} {off : Int} {tgt : Nat} {a1 a2 : Option β} {f : β → Option (α × S)} (hd : decode M.2.1 pc = .ok (.ifCond .ne off, 3)) (ht : (pc : Int) + off = (tgt : Int)) (hn : pc + 3 = n) (k1 : x = 0 → xs_ em sg M n lv st σ bc bs (a1.bind f)) (k2 : ¬ (x = 0) → xs_ em sg M tgt lv st σ bc bs (a2.bind f)) : xs_ em sg M pc lv (.int x :: st) σ bc bs ((if x = 0 then a1 else a2).bind f) := by
  subst hn
  intro r σ' ho G base b L xs l p e R s m args below meth c H locs cells slots ls Q hC hf hlo hc hs hL hW hz hS kret
  refine lv_if_ne hC.1 hC.2.1 hd ht (fun hcd => ?_) (fun hcd => ?_)
  · exact k2 hcd r σ' (by rw [if_neg hcd] at ho; exact ho) G base b L xs l p e R s m args below meth c H locs cells slots ls Q hC hf hlo hc hs hL hW hz hS kret
  · exact k1 hcd r σ' (by rw [if_pos hcd] at ho; exact ho) G base b L xs l p e R s m args below meth c H locs cells slots ls Q hC hf hlo hc hs hL hW hz hS kret
theorem xs_lif_ge {β : Type} {x y : Int64} {pc1 : Nat} {off : Int} {tgt : Nat} {a1 a2 : Option β} {f : β → Option (α × S)} (hd : decode M.2.1 pc = .ok (.lcmp, 1)) (hp : pc + 1 = pc1) (hd1 : decode M.2.1 pc1 = .ok (.ifCond .ge off, 3)) (ht : (pc1 : Int) + off = (tgt : Int)) (hn : pc1 + 3 = n) (k1 : y ≤ x → xs_ em sg M tgt lv st σ bc bs (a1.bind f)) (k2 : ¬ (y ≤ x) → xs_ em sg M n lv st σ bc bs (a2.bind f)) : xs_ em sg M pc lv (.long y :: .long x :: st) σ bc bs ((if y ≤ x then a1 else a2).bind f) := by
  subst hn
  subst hp
  intro r σ' ho G base b L xs l p e R s m args below meth c H locs cells slots ls Q hC hf hlo hc hs hL hW hz hS kret
  refine W.lcmp hC.1 hC.2.1 hd (lv_if_ge hC.1 hC.2.1 hd1 ht (fun hcd => ?_) (fun hcd => ?_))
  · have hq : y ≤ x := (xm_cmp_ge x y).mp hcd
    exact k1 hq r σ' (by rw [if_pos hq] at ho; exact ho) G base b L xs l p e R s m args below meth c H locs cells slots ls Q hC hf hlo hc hs hL hW hz hS kret
  · have hq : ¬ (y ≤ x) := fun z => hcd ((xm_cmp_ge x y).mpr z)
    exact k2 hq r σ' (by rw [if_neg hq] at ho; exact ho) G base b L xs l p e R s m args below meth c H locs cells slots ls Q hC hf hlo hc hs hL hW hz hS kret
theorem xs_lif_lt {β : Type} {x y : Int64} {pc1 : Nat} {off : Int} {tgt : Nat} {a1 a2 : Option β} {f : β → Option (α × S)} (hd : decode M.2.1 pc = .ok (.lcmp, 1)) (hp : pc + 1 = pc1) (hd1 : decode M.2.1 pc1 = .ok (.ifCond .lt off, 3)) (ht : (pc1 : Int) + off = (tgt : Int)) (hn : pc1 + 3 = n) (k1 : x < y → xs_ em sg M tgt lv st σ bc bs (a1.bind f)) (k2 : ¬ (x < y) → xs_ em sg M n lv st σ bc bs (a2.bind f)) : xs_ em sg M pc lv (.long y :: .long x :: st) σ bc bs ((if x < y then a1 else a2).bind f) := by
  subst hn
  subst hp
  intro r σ' ho G base b L xs l p e R s m args below meth c H locs cells slots ls Q hC hf hlo hc hs hL hW hz hS kret
  refine W.lcmp hC.1 hC.2.1 hd (lv_if_lt hC.1 hC.2.1 hd1 ht (fun hcd => ?_) (fun hcd => ?_))
  · have hq : x < y := (xm_cmp_lt x y).mp hcd
    exact k1 hq r σ' (by rw [if_pos hq] at ho; exact ho) G base b L xs l p e R s m args below meth c H locs cells slots ls Q hC hf hlo hc hs hL hW hz hS kret
  · have hq : ¬ (x < y) := fun z => hcd ((xm_cmp_lt x y).mpr z)
    exact k2 hq r σ' (by rw [if_neg hq] at ho; exact ho) G base b L xs l p e R s m args below meth c H locs cells slots ls Q hC hf hlo hc hs hL hW hz hS kret
theorem xs_lif_gt {β : Type} {x y : Int64} {pc1 : Nat} {off : Int} {tgt : Nat} {a1 a2 : Option β} {f : β → Option (α × S)} (hd : decode M.2.1 pc = .ok (.lcmp, 1)) (hp : pc + 1 = pc1) (hd1 : decode M.2.1 pc1 = .ok (.ifCond .gt off, 3)) (ht : (pc1 : Int) + off = (tgt : Int)) (hn : pc1 + 3 = n) (k1 : y < x → xs_ em sg M tgt lv st σ bc bs (a1.bind f)) (k2 : ¬ (y < x) → xs_ em sg M n lv st σ bc bs (a2.bind f)) : xs_ em sg M pc lv (.long y :: .long x :: st) σ bc bs ((if y < x then a1 else a2).bind f) := by
  subst hn
  subst hp
  intro r σ' ho G base b L xs l p e R s m args below meth c H locs cells slots ls Q hC hf hlo hc hs hL hW hz hS kret
  refine W.lcmp hC.1 hC.2.1 hd (lv_if_gt hC.1 hC.2.1 hd1 ht (fun hcd => ?_) (fun hcd => ?_))
  · have hq : y < x := (xm_cmp_gt x y).mp hcd
    exact k1 hq r σ' (by rw [if_pos hq] at ho; exact ho) G base b L xs l p e R s m args below meth c H locs cells slots ls Q hC hf hlo hc hs hL hW hz hS kret
  · have hq : ¬ (y < x) := fun z => hcd ((xm_cmp_gt x y).mpr z)
    exact k2 hq r σ' (by rw [if_neg hq] at ho; exact ho) G base b L xs l p e R s m args below meth c H locs cells slots ls Q hC hf hlo hc hs hL hW hz hS kret
theorem xs_lif_le {β : Type} {x y : Int64} {pc1 : Nat} {off : Int} {tgt : Nat} {a1 a2 : Option β} {f : β → Option (α × S)} (hd : decode M.2.1 pc = .ok (.lcmp, 1)) (hp : pc + 1 = pc1) (hd1 : decode M.2.1 pc1 = .ok (.ifCond .le off, 3)) (ht : (pc1 : Int) + off = (tgt : Int)) (hn : pc1 + 3 = n) (k1 : x ≤ y → xs_ em sg M tgt lv st σ bc bs (a1.bind f)) (k2 : ¬ (x ≤ y) → xs_ em sg M n lv st σ bc bs (a2.bind f)) : xs_ em sg M pc lv (.long y :: .long x :: st) σ bc bs ((if x ≤ y then a1 else a2).bind f) := by
  subst hn
  subst hp
  intro r σ' ho G base b L xs l p e R s m args below meth c H locs cells slots ls Q hC hf hlo hc hs hL hW hz hS kret
  refine W.lcmp hC.1 hC.2.1 hd (lv_if_le hC.1 hC.2.1 hd1 ht (fun hcd => ?_) (fun hcd => ?_))
  · have hq : x ≤ y := (xm_cmp_le x y).mp hcd
    exact k1 hq r σ' (by rw [if_pos hq] at ho; exact ho) G base b L xs l p e R s m args below meth c H locs cells slots ls Q hC hf hlo hc hs hL hW hz hS kret
  · have hq : ¬ (x ≤ y) := fun z => hcd ((xm_cmp_le x y).mpr z)
    exact k2 hq r σ' (by rw [if_neg hq] at ho; exact ho) G base b L xs l p e R s m args below meth c H locs cells slots ls Q hC hf hlo hc hs hL hW hz hS kret
theorem xs_lif_eq {β : Type} {x y : Int64} {pc1 : Nat} {off : Int} {tgt : Nat} {a1 a2 : Option β} {f : β → Option (α × S)} (hd : decode M.2.1 pc = .ok (.lcmp, 1)) (hp : pc + 1 = pc1) (hd1 : decode M.2.1 pc1 = .ok (.ifCond .eq off, 3)) (ht : (pc1 : Int) + off = (tgt : Int)) (hn : pc1 + 3 = n) (k1 : x = y → xs_ em sg M tgt lv st σ bc bs (a1.bind f)) (k2 : ¬ (x = y) → xs_ em sg M n lv st σ bc bs (a2.bind f)) : xs_ em sg M pc lv (.long y :: .long x :: st) σ bc bs ((if x = y then a1 else a2).bind f) := by
  subst hn
  subst hp
  intro r σ' ho G base b L xs l p e R s m args below meth c H locs cells slots ls Q hC hf hlo hc hs hL hW hz hS kret
  refine W.lcmp hC.1 hC.2.1 hd (lv_if_eq hC.1 hC.2.1 hd1 ht (fun hcd => ?_) (fun hcd => ?_))
  · have hq : x = y := (xm_cmp_eq x y).mp hcd
    exact k1 hq r σ' (by rw [if_pos hq] at ho; exact ho) G base b L xs l p e R s m args below meth c H locs cells slots ls Q hC hf hlo hc hs hL hW hz hS kret
  · have hq : ¬ (x = y) := fun z => hcd ((xm_cmp_eq x y).mpr z)
    exact k2 hq r σ' (by rw [if_neg hq] at ho; exact ho) G base b L xs l p e R s m args below meth c H locs cells slots ls Q hC hf hlo hc hs hL hW hz hS kret
theorem xs_lif_ne {β : Type} {x y : Int64} {pc1 : Nat} {off : Int} {tgt : Nat} {a1 a2 : Option β} {f : β → Option (α × S)} (hd : decode M.2.1 pc = .ok (.lcmp, 1)) (hp : pc + 1 = pc1) (hd1 : decode M.2.1 pc1 = .ok (.ifCond .ne off, 3)) (ht : (pc1 : Int) + off = (tgt : Int)) (hn : pc1 + 3 = n) (k1 : x = y → xs_ em sg M n lv st σ bc bs (a1.bind f)) (k2 : ¬ (x = y) → xs_ em sg M tgt lv st σ bc bs (a2.bind f)) : xs_ em sg M pc lv (.long y :: .long x :: st) σ bc bs ((if x = y then a1 else a2).bind f) := by
  subst hn
  subst hp
  intro r σ' ho G base b L xs l p e R s m args below meth c H locs cells slots ls Q hC hf hlo hc hs hL hW hz hS kret
  refine W.lcmp hC.1 hC.2.1 hd (lv_if_ne hC.1 hC.2.1 hd1 ht (fun hcd => ?_) (fun hcd => ?_))
  · have hq : ¬ (x = y) := fun z => hcd ((xm_cmp_eq x y).mpr z)
    exact k2 hq r σ' (by rw [if_neg hq] at ho; exact ho) G base b L xs l p e R s m args below meth c H locs cells slots ls Q hC hf hlo hc hs hL hW hz hS kret
  · have hq : x = y := (xm_cmp_eq x y).mp hcd
    exact k1 hq r σ' (by rw [if_pos hq] at ho; exact ho) G base b L xs l p e R s m args below meth c H locs cells slots ls Q hC hf hlo hc hs hL hW hz hS kret
theorem xs_none {β : Type} {f : β → Option (α × S)} : xs_ em sg M pc lv st σ bc bs ((none : Option β).bind f) := by
  intro r σ' ho
  cases ho
theorem xs_top (k : xs_ em sg M pc lv st σ bc bs (o.bind some)) : xs_ em sg M pc lv st σ bc bs o := by
  cases o <;> exact k
theorem xs_reg {β γ : Type} {B : Option β} {g : β → Option γ} {f : γ → Option (α × S)} (k : xs_ em sg M pc lv st σ bc bs (B.bind (fun v => (g v).bind f))) : xs_ em sg M pc lv st σ bc bs ((B.bind g).bind f) := by
  rwa [Option.bind_assoc]
theorem xs_end {β : Type} {v : β} {f : β → Option (α × S)} (k : xs_ em sg M pc lv st σ bc bs (f v)) : xs_ em sg M pc lv st σ bc bs ((some v).bind f) := k
theorem xs_leti {β : Type} {e : Int32} {g : Int32 → Option β} {f : β → Option (α × S)} (k : ∀ v : Int32, xs_ em sg M pc lv (.int v :: st) σ bc bs ((g v).bind f)) : xs_ em sg M pc lv (.int e :: st) σ bc bs ((xm_let e g).bind f) := k e
theorem xs_letl {β : Type} {e : Int64} {g : Int64 → Option β} {f : β → Option (α × S)} (k : ∀ v : Int64, xs_ em sg M pc lv (.long v :: st) σ bc bs ((g v).bind f)) : xs_ em sg M pc lv (.long e :: st) σ bc bs ((xm_let e g).bind f) := k e
theorem xs_lets {β : Type} {e : S} {g : S → Option β} {f : β → Option (α × S)} (k : ∀ v : S, xs_ em sg M pc lv st v bc bs ((g v).bind f)) : xs_ em sg M pc lv st e bc bs ((xm_let e g).bind f) := k e
/-- returns -/
theorem xs_iret {S : Type} {sg : S → xm_S} {σ : S} {x : Int32} {β : Type} {v : β} {f : β → Option (Int32 × S)} (hd : decode M.2.1 pc = .ok (.ireturn, 1)) (hr : M.2.2.2.1 = some .int) (hf : f v = some (x, σ)) : xs_ (fun x : Int32 => some (.int x)) sg M pc lv [.int x] σ bc bs ((some v).bind f) := by
  intro r σ' ho G base b L xs l p e R s m args below meth c H locs cells slots ls Q hC hfr hlo hc hs hL hW hz hS kret
  have ho2 : f v = some (r, σ') := ho
  rw [hf] at ho2
  cases ho2
  exact kret H locs cells slots pc ls (Nat.le_add_right _ _) (Nat.le_add_right _ _) hW hS ⟨hd, Or.inl hr⟩
theorem xs_zret {S : Type} {sg : S → xm_S} {σ : S} {x : Int32} {β : Type} {v : β} {f : β → Option (Int32 × S)} (hd : decode M.2.1 pc = .ok (.ireturn, 1)) (hr : M.2.2.2.1 = some .boolean) (hf : f v = some (x, σ)) : xs_ (fun x : Int32 => some (.int x)) sg M pc lv [.int x] σ bc bs ((xm_chk (x = 0 ∨ x = 1) (some v)).bind f) := by
  intro r σ' ho G base b L xs l p e R s m args below meth c H locs cells slots ls Q hC hfr hlo hc hs hL hW hz hS kret
  by_cases hch : x = 0 ∨ x = 1
  · rw [xm_chk, if_pos hch] at ho
    have ho2 : f v = some (r, σ') := ho
    rw [hf] at ho2
    cases ho2
    exact kret H locs cells slots pc ls (Nat.le_add_right _ _) (Nat.le_add_right _ _) hW hS ⟨hd, Or.inr ⟨hr, hch⟩⟩
  · rw [xm_chk, if_neg hch] at ho
    cases ho
theorem xs_lret {S : Type} {sg : S → xm_S} {σ : S} {x : Int64} {β : Type} {v : β} {f : β → Option (Int64 × S)} (hd : decode M.2.1 pc = .ok (.lreturn, 1)) (hr : M.2.2.2.1 = some .long) (hf : f v = some (x, σ)) : xs_ (fun x : Int64 => some (.long x)) sg M pc lv [.long x] σ bc bs ((some v).bind f) := by
  intro r σ' ho G base b L xs l p e R s m args below meth c H locs cells slots ls Q hC hfr hlo hc hs hL hW hz hS kret
  have ho2 : f v = some (r, σ') := ho
  rw [hf] at ho2
  cases ho2
  exact kret H locs cells slots pc ls (Nat.le_add_right _ _) (Nat.le_add_right _ _) hW hS ⟨hd, hr⟩
theorem xs_vret {S : Type} {sg : S → xm_S} {σ : S} {β : Type} {v : β} {f : β → Option (Unit × S)} (hd : decode M.2.1 pc = .ok (.return_, 1)) (hr : M.2.2.2.1 = none) (hf : f v = some ((), σ)) : xs_ (fun _ : Unit => none) sg M pc lv [] σ bc bs ((some v).bind f) := by
  intro r σ' ho G base b L xs l p e R s m args below meth c H locs cells slots ls Q hC hfr hlo hc hs hL hW hz hS kret
  have ho2 : f v = some (r, σ') := ho
  rw [hf] at ho2
  cases ho2
  exact kret H locs cells slots pc ls (Nat.le_add_right _ _) (Nat.le_add_right _ _) hW hS ⟨hd, hr⟩
end XR_
end
section
def xm_u2 {α : Type} (f : Nat → Nat → α) (k j : Nat) (v : α) : Nat → Nat → α := fun a b => if a = k then (if b = j then v else f a b) else f a b
def xm_u1 {α : Type} (f : Nat → α) (k : Nat) (v : α) : Nat → α := fun a => if a = k then v else f a
theorem xm_u2_ne {α : Type} {f : Nat → Nat → α} {k j : Nat} {v : α} {a : Nat} (h : a ≠ k) : xm_u2 f k j v a = f a := by
  funext b
  simp [xm_u2, h]
theorem xm_u1_ne {α : Type} {f : Nat → α} {k : Nat} {v : α} {a : Nat} (h : a ≠ k) : xm_u1 f k v a = f a := by
  simp [xm_u1, h]
theorem xm_u1_eq {α : Type} {f : Nat → α} {k : Nat} {v : α} : xm_u1 f k v k = v := by
  simp [xm_u1]
theorem xm_u2_i {f : Nat → Nat → Int32} {k j : Nat} {v : Int32} : xm_u2 f k j v k = upd (f k) j v := by
  funext b
  simp [xm_u2, upd]
theorem xm_u2_l {f : Nat → Nat → Int64} {k j : Nat} {v : Int64} : xm_u2 f k j v k = vp_updL (f k) j v := by
  funext b
  simp [xm_u2, vp_updL]
theorem xm_ent_congr {G : xm_G} {base : Nat} {σ σ' : xm_S} {k : Nat} (h1 : σ'.2.1 k = σ.2.1 k) (h2 : σ'.2.2.1 k = σ.2.2.1 k) (h3 : σ'.2.2.2.1 k = σ.2.2.2.1 k) (h4 : σ'.2.2.2.2 k = σ.2.2.2.2 k) : xm_ent G base σ' k = xm_ent G base σ k := by
  unfold xm_ent xm_val
  rw [h1, h2, h3, h4]
section XA_
variable {G : xm_G} {base : Nat} {σ : xm_S} {k n : Nat}
theorem xm_at13 (h : xm_is σ k 13 n) : (xm_ws G base σ)[k]? = some (base + k, .inl (G.2.1, n, .inl (σ.2.2.2.1 k))) := by
  rw [xm_ws_at h.1, xm_ent, h.2]; rfl
theorem xm_at14 (h : xm_is σ k 14 n) : (xm_ws G base σ)[k]? = some (base + k, .inl (G.2.2.1, n, .inr (.inl (σ.2.2.2.2 k)))) := by
  rw [xm_ws_at h.1, xm_ent, h.2]; rfl
theorem xm_at15 (h : xm_is σ k 15 n) : (xm_ws G base σ)[k]? = some (base + k, .inl (G.2.2.2.1, n, .inl (σ.2.2.2.1 k))) := by
  rw [xm_ws_at h.1, xm_ent, h.2]; rfl
theorem xm_at16 (h : xm_is σ k 16 n) : (xm_ws G base σ)[k]? = some (base + k, .inl (G.2.2.2.2.1, n, .inr (.inr (.inr (.inr (fun j => (σ.2.2.1 k j).map (fun a => base + a))))))) := by
  rw [xm_ws_at h.1, xm_ent, h.2]; rfl
theorem xm_at17 (h : xm_is σ k 17 n) : (xm_ws G base σ)[k]? = some (base + k, .inl (G.2.2.2.2.2, n, .inr (.inr (.inr (.inr (fun j => (σ.2.2.1 k j).map (fun a => base + a))))))) := by
  rw [xm_ws_at h.1, xm_ent, h.2]; rfl
theorem xm_ent_ob {ci : Nat} (hc : ci < 13) (h : σ.2.1 k = (ci, n)) : xm_ent G base σ k = .inr (ci, (xm_ft ci).mapIdx (fun j t => xm_val base σ k j t)) := by
  unfold xm_ent
  rw [h]
  dsimp only
  rw [if_neg (by omega), if_neg (by omega), if_neg (by omega), if_neg (by omega), if_neg (by omega)]
theorem xm_atob {ci : Nat} (hc : ci < 13) (h : xm_is σ k ci n) : (xm_ws G base σ)[k]? = some (base + k, .inr (ci, (xm_ft ci).mapIdx (fun j t => xm_val base σ k j t))) := by
  rw [xm_ws_at h.1, xm_ent_ob hc h.2]
end XA_
/-- a class's rows -/
def xm_cl (ci : Nat) (C : String) (T : u_T) (N : Nat) (ty : Nat → FieldType) : Prop := vwCl[ci]? = some (C, T, N) ∧ (∀ w ∈ u_ws C T N, w ∈ xm_tb) ∧ ci < 13 ∧ (∀ k, k < N → parseFieldDescriptor (T k).2.2.1 = some (ty k)) ∧ (∀ a, a < N → ∀ b, b < N → a ≠ b → (T a).2.1 ≠ (T b).2.1) ∧ (xm_ft ci).length = N
theorem xc_0 : xm_cl 0 RX0 TX0 2 tyX0 := ⟨rfl, ix_X0, by decide, tyX0_ok, nmX0, rfl⟩
theorem xc_1 : xm_cl 1 RX1 TX1 5 tyX1 := ⟨rfl, ix_X1, by decide, tyX1_ok, nmX1, rfl⟩
theorem xc_2 : xm_cl 2 RX2 TX2 1 tyX2 := ⟨rfl, ix_X2, by decide, tyX2_ok, nmX2, rfl⟩
theorem xc_3 : xm_cl 3 RX3 TX3 8 tyX3 := ⟨rfl, ix_X3, by decide, tyX3_ok, nmX3, rfl⟩
theorem xc_4 : xm_cl 4 RX4 TX4 3 tyX4 := ⟨rfl, ix_X4, by decide, tyX4_ok, nmX4, rfl⟩
theorem xc_5 : xm_cl 5 RX5 TX5 7 tyX5 := ⟨rfl, ix_X5, by decide, tyX5_ok, nmX5, rfl⟩
theorem xc_6 : xm_cl 6 RX6 TX6 4 tyX6 := ⟨rfl, ix_X6, by decide, tyX6_ok, nmX6, rfl⟩
theorem xc_7 : xm_cl 7 RX7 TX7 3 tyX7 := ⟨rfl, ix_X7, by decide, tyX7_ok, nmX7, rfl⟩
theorem xc_8 : xm_cl 8 RX8 TX8 2 tyX8 := ⟨rfl, ix_X8, by decide, tyX8_ok, nmX8, rfl⟩
theorem xc_9 : xm_cl 9 RX9 TX9 4 tyX9 := ⟨rfl, ix_X9, by decide, tyX9_ok, nmX9, rfl⟩
theorem xc_10 : xm_cl 10 RX10 TX10 6 tyX10 := ⟨rfl, ix_X10, by decide, tyX10_ok, nmX10, rfl⟩
theorem xc_11 : xm_cl 11 RX11 TX11 10 tyX11 := ⟨rfl, ix_X11, by decide, tyX11_ok, nmX11, rfl⟩
theorem xc_12 : xm_cl 12 RX12 TX12 50 tyX12 := ⟨rfl, ix_X12, by decide, tyX12_ok, nmX12, rfl⟩
def xm_tk (t : FieldType) : Nat := match t with
  | .int => 0
  | .long => 1
  | .boolean => 3
  | .object _ => 2
  | .array _ => 2
  | _ => 9
/-- a field's link: own class and entry, class number, slot and its kind -/
def xm_fl (own : String) (idx ci j t : Nat) (C : String) (T : u_T) (N : Nat) (ty : Nat → FieldType) : Prop := xm_cl ci C T N ty ∧ j < N ∧ Cond.fieldLink own idx (T j).1 (T j).2.1 (T j).2.2.1 ∈ xm_tb ∧ (xm_ft ci)[j]? = some t ∧ xm_tk (ty j) = t
theorem xm_fs_at {base : Nat} {σ : xm_S} {k ci j t : Nat} (h : (xm_ft ci)[j]? = some t) : ((xm_ft ci).mapIdx (fun j t => xm_val base σ k j t))[j]? = some (xm_val base σ k j t) := by
  rw [List.getElem?_mapIdx, h]; rfl
theorem xm_fs_set {base : Nat} {σ σ' : xm_S} {k ci j t : Nat} {v : Value} (h : (xm_ft ci)[j]? = some t) (hv : xm_val base σ' k j t = v) (hne : ∀ j' t', j' ≠ j → xm_val base σ' k j' t' = xm_val base σ k j' t') : ((xm_ft ci).mapIdx (fun j t => xm_val base σ k j t)).set j v = (xm_ft ci).mapIdx (fun j t => xm_val base σ' k j t) := by
  apply List.ext_getElem?
  intro i
  rw [List.getElem?_set, List.getElem?_mapIdx, List.getElem?_mapIdx]
  by_cases hi : j = i
  · subst hi
    have hl : j < (xm_ft ci).length := (List.getElem?_eq_some_iff.mp h).1
    rw [if_pos rfl, if_pos (by simpa using hl), h]
    simp [hv]
  · rw [if_neg hi]
    cases (xm_ft ci)[i]? with
    | none => rfl
    | some t' => simp [hne i t' (fun q => hi q.symm)]
section XR_
variable {α S : Type} {em : α → Option Value} {sg : S → xm_S} {M : xm_M} {pc n : Nat} {lv : List (Option Value)} {st : List Value} {σ : S} {bc bs : Nat} {o : Option (α × S)}
theorem xs_ldc {idx : Nat} {v : Int32} (hd : decode M.2.1 pc = .ok (.ldc idx, 2)) (hn : pc + 2 = n) (hw : Cond.constant M.1.cls idx v ∈ xm_tb) (k : xs_ em sg M n lv (.int v :: st) σ bc bs o) : xs_ em sg M pc lv st σ bc bs o := by
  subst hn
  intro r σ' ho G base b L xs l p e R s m args below meth c H locs cells slots ls Q hC hf hlo hc hs hL hW hz hS kret
  exact lv_ldc hC.1 hC.2.1 hC.2.2.2.2.1 (hC.2.2.2.2.2.1 _ hw) hd (k r σ' ho G base b L xs l p e R s m args below meth c H locs cells slots ls Q hC hf hlo hc hs hL hW hz hS kret)
theorem xs_ldc_w {idx : Nat} {v : Int32} (hd : decode M.2.1 pc = .ok (.ldc_w idx, 3)) (hn : pc + 3 = n) (hw : Cond.constant M.1.cls idx v ∈ xm_tb) (k : xs_ em sg M n lv (.int v :: st) σ bc bs o) : xs_ em sg M pc lv st σ bc bs o := by
  subst hn
  intro r σ' ho G base b L xs l p e R s m args below meth c H locs cells slots ls Q hC hf hlo hc hs hL hW hz hS kret
  exact lv_ldcw hC.1 hC.2.1 hC.2.2.2.2.1 (hC.2.2.2.2.2.1 _ hw) hd (k r σ' ho G base b L xs l p e R s m args below meth c H locs cells slots ls Q hC hf hlo hc hs hL hW hz hS kret)
theorem xs_ldc2 {idx : Nat} {v : Int64} (hd : decode M.2.1 pc = .ok (.ldc2_w idx, 3)) (hn : pc + 3 = n) (hw : Cond.constantLong M.1.cls idx v ∈ xm_tb) (k : xs_ em sg M n lv (.long v :: st) σ bc bs o) : xs_ em sg M pc lv st σ bc bs o := by
  subst hn
  intro r σ' ho G base b L xs l p e R s m args below meth c H locs cells slots ls Q hC hf hlo hc hs hL hW hz hS kret
  exact lv_ldc2 hC.1 hC.2.1 hC.2.2.2.2.1 (hC.2.2.2.2.2.1 _ hw) hd (k r σ' ho G base b L xs l p e R s m args below meth c H locs cells slots ls Q hC hf hlo hc hs hL hW hz hS kret)
theorem xs_getv {idx ci j t kk nn : Nat} {C : String} {T : u_T} {N : Nat} {ty : Nat → FieldType} {w : Value} (hd : decode M.2.1 pc = .ok (.getfield idx, 3)) (hn : pc + 3 = n) (hl : xm_fl M.1.cls idx ci j t C T N ty) (hk : xm_is (sg σ) kk ci nn) (hv : ∀ base b : Nat, xm_val base (sg σ) kk j t = xm_r base b w) (k : xs_ em sg M n lv (w :: st) σ bc bs o) : xs_ em sg M pc lv (.ref kk :: st) σ bc bs o := by
  subst hn
  intro r σ' ho G base b L xs l p e R s m args below meth c H locs cells slots ls Q hC hf hlo hc hs hL hW hz hS kret
  obtain ⟨⟨h1, h2, h3, h4, h5, h6⟩, h7, h8, h9, h10⟩ := hl
  exact va_get (ref := (T j).1) hC.1 hC.2.1 hC.2.2.2.2.2.1 h2 hC.2.2.2.2.1 hC.2.2.2.2.2.2.2.2.1 hW kk (xm_atob h3 hk) h1 j h7 (hC.2.2.2.2.2.1 _ h8) (fun _ q => q) ((xm_fs_at h9).trans (congrArg some (hv base b))) hd (k r σ' ho G base b L xs l p e R s m args below meth c H locs cells slots ls Q hC hf hlo hc hs hL hW hz hS kret)
theorem xs_geti {idx ci j t kk nn : Nat} {C : String} {T : u_T} {N : Nat} {ty : Nat → FieldType} (hd : decode M.2.1 pc = .ok (.getfield idx, 3)) (hn : pc + 3 = n) (hl : xm_fl M.1.cls idx ci j t C T N ty) (ht : t = 0 ∨ t = 3) (hk : xm_is (sg σ) kk ci nn) (k : xs_ em sg M n lv (.int ((sg σ).2.2.2.1 kk j) :: st) σ bc bs o) : xs_ em sg M pc lv (.ref kk :: st) σ bc bs o :=
  xs_getv hd hn hl hk (fun base b => by rcases ht with rfl | rfl <;> rfl) k
theorem xs_getl {idx ci j kk nn : Nat} {C : String} {T : u_T} {N : Nat} {ty : Nat → FieldType} (hd : decode M.2.1 pc = .ok (.getfield idx, 3)) (hn : pc + 3 = n) (hl : xm_fl M.1.cls idx ci j 1 C T N ty) (hk : xm_is (sg σ) kk ci nn) (k : xs_ em sg M n lv (.long ((sg σ).2.2.2.2 kk j) :: st) σ bc bs o) : xs_ em sg M pc lv (.ref kk :: st) σ bc bs o :=
  xs_getv hd hn hl hk (fun base b => rfl) k
theorem xs_getr {idx ci j kk nn a : Nat} {C : String} {T : u_T} {N : Nat} {ty : Nat → FieldType} (hd : decode M.2.1 pc = .ok (.getfield idx, 3)) (hn : pc + 3 = n) (hl : xm_fl M.1.cls idx ci j 2 C T N ty) (hk : xm_is (sg σ) kk ci nn) (hr : (sg σ).2.2.1 kk j = some a) (k : xs_ em sg M n lv (.ref a :: st) σ bc bs o) : xs_ em sg M pc lv (.ref kk :: st) σ bc bs o :=
  xs_getv hd hn hl hk (fun base b => by unfold xm_val; rw [hr]; rfl) k
theorem xs_putv {idx ci j t kk nn : Nat} {C : String} {T : u_T} {N : Nat} {ty : Nat → FieldType} {w : Value} {σ1 : S} (hd : decode M.2.1 pc = .ok (.putfield idx, 3)) (hn : pc + 3 = n) (hl : xm_fl M.1.cls idx ci j t C T N ty) (hfin : (T j).2.2.2 = false ∨ ((T j).2.2.2 = true ∧ M.1.name = "<init>" ∧ (T j).1 = M.1.cls)) (hk : xm_is (sg σ) kk ci nn) (hnar : ∀ base b : Nat, narrow (ty j) (xm_r base b w) = xm_r base b w) (hfit : ∀ base b : Nat, fits (ty j) (xm_r base b w) = true)
    (hK : (sg σ1).1 = (sg σ).1) (hsh : (sg σ1).2.1 = (sg σ).2.1) (hv : ∀ base b : Nat, xm_val base (sg σ1) kk j t = xm_r base b w) (hoth : ∀ (base j' t' : Nat), j' ≠ j → xm_val base (sg σ1) kk j' t' = xm_val base (sg σ) kk j' t') (hcell : ∀ k', k' ≠ kk → (sg σ1).2.2.1 k' = (sg σ).2.2.1 k' ∧ (sg σ1).2.2.2.1 k' = (sg σ).2.2.2.1 k' ∧ (sg σ1).2.2.2.2 k' = (sg σ).2.2.2.2 k')
    (k : xs_ em sg M n lv st σ1 bc bs o) : xs_ em sg M pc lv (w :: .ref kk :: st) σ bc bs o := by
  subst hn
  intro r σ' ho G base b L xs l p e R s m args below meth c H locs cells slots ls Q hC hf hlo hc hs hL hW hz hS kret
  obtain ⟨⟨h1, h2, h3, h4, h5, h6⟩, h7, h8, h9, h10⟩ := hl
  have hset : (xm_ws G base (sg σ)).set kk (base + kk, .inr (ci, ((xm_ft ci).mapIdx (fun j t => xm_val base (sg σ) kk j t)).set j (xm_r base b w))) = xm_ws G base (sg σ1) := by
    refine xm_set hK hk.1 ?_ (fun k' hk' => xm_ent_congr (by rw [hsh]) (hcell k' hk').1 (hcell k' hk').2.1 (hcell k' hk').2.2)
    rw [xm_ent_ob h3 (by rw [hsh]; exact hk.2), xm_fs_set h9 (hv base b) (fun j' t' => hoth base j' t')]
  have cont : ∀ (H1 : Heap) (locs1 : List Loc), va_P G.1 vwCl ((xm_ws G base (sg σ)).set kk (base + kk, .inr (ci, ((xm_ft ci).mapIdx (fun j t => xm_val base (sg σ) kk j t)).set j (xm_r base b w)))) H1 → va_D (fun q => base ≤ q) ((xm_ws G base (sg σ)).set kk (base + kk, .inr (ci, ((xm_ft ci).mapIdx (fun j t => xm_val base (sg σ) kk j t)).set j (xm_r base b w)))) → va_S (fun q => base ≤ q) s.heap H1 locs1 → W p l e R s m args below meth c H1 locs1 cells slots Q (F0 m (pc + 3) ls (st.map (xm_r base b))) := by
    intro H1 locs1 hP1 _ hS1
    rw [hset] at hP1
    exact k r σ' ho G base b L xs l p e R s m args below meth c H1 locs1 cells slots ls Q hC hf hlo hc hs hL hP1 (by rw [hz, hK]) hS1 kret
  have hjl : j < ((xm_ft ci).mapIdx (fun j t => xm_val base (sg σ) kk j t)).length := by
    rw [List.length_mapIdx]
    exact (List.getElem?_eq_some_iff.mp h9).1
  rcases hfin with hfin | ⟨hfin, hnm, hdc⟩
  · exact va_put (ref := (T j).1) hC.1 hC.2.1 hC.2.2.2.2.2.1 h2 ty h4 h5 hC.2.2.2.2.1 hC.2.2.2.2.2.2.2.2.1 hW xm_D hS kk (xm_atob h3 hk) h1 j h7 (hC.2.2.2.2.2.1 _ h8) (fun _ q => q) hfin (h4 j h7) (hnar base b) (hfit base b) hjl hd cont
  · exact va_putF (ref := (T j).1) hC.1 hC.2.1 hC.2.2.2.2.2.1 h2 ty h4 h5 hC.2.2.2.2.1 hC.2.2.2.2.2.2.2.2.1 hW xm_D hS kk (xm_atob h3 hk) h1 j h7 (hC.2.2.2.2.2.1 _ h8) (fun _ q => q) hfin (hC.2.2.2.2.2.2.2.1.trans hnm) hdc (h4 j h7) (hnar base b) (hfit base b) hjl hd cont
theorem xm_val_u2i {base : Nat} {σ σ1 : xm_S} {kk j : Nat} {v : Int32} (h : σ1 = (σ.1, σ.2.1, σ.2.2.1, xm_u2 σ.2.2.2.1 kk j v, σ.2.2.2.2)) (j' t' : Nat) (hj : j' ≠ j) : xm_val base σ1 kk j' t' = xm_val base σ kk j' t' := by
  subst h
  simp [xm_val, xm_u2, hj]
theorem xm_val_u2l {base : Nat} {σ σ1 : xm_S} {kk j : Nat} {v : Int64} (h : σ1 = (σ.1, σ.2.1, σ.2.2.1, σ.2.2.2.1, xm_u2 σ.2.2.2.2 kk j v)) (j' t' : Nat) (hj : j' ≠ j) : xm_val base σ1 kk j' t' = xm_val base σ kk j' t' := by
  subst h
  simp [xm_val, xm_u2, hj]
theorem xm_val_u2r {base : Nat} {σ σ1 : xm_S} {kk j : Nat} {v : Option Nat} (h : σ1 = (σ.1, σ.2.1, xm_u2 σ.2.2.1 kk j v, σ.2.2.2.1, σ.2.2.2.2)) (j' t' : Nat) (hj : j' ≠ j) : xm_val base σ1 kk j' t' = xm_val base σ kk j' t' := by
  subst h
  simp [xm_val, xm_u2, hj]
theorem xs_puti {idx ci j kk nn : Nat} {C : String} {T : u_T} {N : Nat} {ty : Nat → FieldType} {v : Int32} {σ1 : S} (hd : decode M.2.1 pc = .ok (.putfield idx, 3)) (hn : pc + 3 = n) (hl : xm_fl M.1.cls idx ci j 0 C T N ty) (hfin : (T j).2.2.2 = false) (hk : xm_is (sg σ) kk ci nn) (h1 : sg σ1 = ((sg σ).1, (sg σ).2.1, (sg σ).2.2.1, xm_u2 (sg σ).2.2.2.1 kk j v, (sg σ).2.2.2.2))
    (k : xs_ em sg M n lv st σ1 bc bs o) : xs_ em sg M pc lv (.int v :: .ref kk :: st) σ bc bs o := by
  have hty : ty j = .int := by
    have := hl.2.2.2.2
    cases hq : ty j <;> rw [hq] at this <;> simp [xm_tk] at this
  refine xs_putv hd hn hl (Or.inl hfin) hk (fun _ _ => by rw [hty]; rfl) (fun _ _ => by rw [hty]; rfl) (by rw [h1]) (by rw [h1]) (fun base b => ?_) (fun base j' t' hj => xm_val_u2i h1 j' t' hj) (fun k' hk' => ?_) k
  · rw [h1]; simp [xm_val, xm_u2, xm_r]
  · rw [h1]; exact ⟨rfl, xm_u2_ne hk', rfl⟩
theorem xs_putz {β : Type} {idx ci j kk nn : Nat} {C : String} {T : u_T} {N : Nat} {ty : Nat → FieldType} {v : Int32} {σ1 : S} {a : Option β} {f : β → Option (α × S)} (hd : decode M.2.1 pc = .ok (.putfield idx, 3)) (hn : pc + 3 = n) (hl : xm_fl M.1.cls idx ci j 3 C T N ty) (hfin : (T j).2.2.2 = false) (hk : xm_is (sg σ) kk ci nn) (h1 : sg σ1 = ((sg σ).1, (sg σ).2.1, (sg σ).2.2.1, xm_u2 (sg σ).2.2.2.1 kk j v, (sg σ).2.2.2.2))
    (k : xs_ em sg M n lv st σ1 bc bs (a.bind f)) : xs_ em sg M pc lv (.int v :: .ref kk :: st) σ bc bs ((xm_chk (v = 0 ∨ v = 1) a).bind f) := by
  have hty : ty j = .boolean := by
    have := hl.2.2.2.2
    cases hq : ty j <;> rw [hq] at this <;> simp [xm_tk] at this
  by_cases hch : v = 0 ∨ v = 1
  · rw [xm_chk, if_pos hch]
    refine xs_putv hd hn hl (Or.inl hfin) hk (fun _ _ => by rw [hty]; rcases hch with rfl | rfl <;> rfl) (fun _ _ => by rw [hty]; rcases hch with rfl | rfl <;> rfl) (by rw [h1]) (by rw [h1]) (fun base b => ?_) (fun base j' t' hj => xm_val_u2i h1 j' t' hj) (fun k' hk' => ?_) k
    · rw [h1]; simp [xm_val, xm_u2, xm_r]
    · rw [h1]; exact ⟨rfl, xm_u2_ne hk', rfl⟩
  · rw [xm_chk, if_neg hch]
    exact xs_none
theorem xs_putl {idx ci j kk nn : Nat} {C : String} {T : u_T} {N : Nat} {ty : Nat → FieldType} {v : Int64} {σ1 : S} (hd : decode M.2.1 pc = .ok (.putfield idx, 3)) (hn : pc + 3 = n) (hl : xm_fl M.1.cls idx ci j 1 C T N ty) (hfin : (T j).2.2.2 = false) (hk : xm_is (sg σ) kk ci nn) (h1 : sg σ1 = ((sg σ).1, (sg σ).2.1, (sg σ).2.2.1, (sg σ).2.2.2.1, xm_u2 (sg σ).2.2.2.2 kk j v))
    (k : xs_ em sg M n lv st σ1 bc bs o) : xs_ em sg M pc lv (.long v :: .ref kk :: st) σ bc bs o := by
  have hty : ty j = .long := by
    have := hl.2.2.2.2
    cases hq : ty j <;> rw [hq] at this <;> simp [xm_tk] at this
  refine xs_putv hd hn hl (Or.inl hfin) hk (fun _ _ => by rw [hty]; rfl) (fun _ _ => by rw [hty]; rfl) (by rw [h1]) (by rw [h1]) (fun base b => ?_) (fun base j' t' hj => xm_val_u2l h1 j' t' hj) (fun k' hk' => ?_) k
  · rw [h1]; simp [xm_val, xm_u2, xm_r]
  · rw [h1]; exact ⟨rfl, rfl, xm_u2_ne hk'⟩
theorem xs_putr {idx ci j kk nn a : Nat} {C : String} {T : u_T} {N : Nat} {ty : Nat → FieldType} {σ1 : S} (hd : decode M.2.1 pc = .ok (.putfield idx, 3)) (hn : pc + 3 = n) (hl : xm_fl M.1.cls idx ci j 2 C T N ty) (hfin : (T j).2.2.2 = true ∧ M.1.name = "<init>" ∧ (T j).1 = M.1.cls) (hk : xm_is (sg σ) kk ci nn) (h1 : sg σ1 = ((sg σ).1, (sg σ).2.1, xm_u2 (sg σ).2.2.1 kk j (some a), (sg σ).2.2.2.1, (sg σ).2.2.2.2))
    (k : xs_ em sg M n lv st σ1 bc bs o) : xs_ em sg M pc lv (.ref a :: .ref kk :: st) σ bc bs o := by
  have hty : (∃ q, ty j = .object q) ∨ ∃ q, ty j = .array q := by
    have := hl.2.2.2.2
    cases hq : ty j <;> rw [hq] at this <;> simp [xm_tk] at this
    · exact Or.inl ⟨_, rfl⟩
    · exact Or.inr ⟨_, rfl⟩
  refine xs_putv hd hn hl (Or.inr hfin) hk (fun _ _ => ?_) (fun _ _ => ?_) (by rw [h1]) (by rw [h1]) (fun base b => ?_) (fun base j' t' hj => xm_val_u2r h1 j' t' hj) (fun k' hk' => ?_) k
  · rcases hty with ⟨q, hq⟩ | ⟨q, hq⟩ <;> rw [hq] <;> rfl
  · rcases hty with ⟨q, hq⟩ | ⟨q, hq⟩ <;> rw [hq] <;> rfl
  · rw [h1]; simp [xm_val, xm_u2, xm_r, va_rf]
  · rw [h1]; exact ⟨xm_u2_ne hk', rfl, rfl⟩
end XR_
end
section
theorem tb_nat : Cond.native arraycopyName ∈ xm_tb := by decide +kernel
theorem tb_sta : Cond.static arraycopyName ∈ xm_tb := by decide +kernel
theorem tb_sys : Cond.initialized "java/lang/System" ∈ xm_tb := by decide +kernel
/-! arrays -/
section XR_
variable {α S β : Type} {em : α → Option Value} {sg : S → xm_S} {M : xm_M} {pc n : Nat} {lv : List (Option Value)} {st : List Value} {σ : S} {bc bs : Nat} {a : Option β} {f : β → Option (α × S)}
theorem xs_iaload {kk nn : Nat} {i : Int32} (hd : decode M.2.1 pc = .ok (.iaload, 1)) (hn : pc + 1 = n) (hk : xm_is (sg σ) kk 13 nn) (k : xs_ em sg M n lv (.int ((sg σ).2.2.2.1 kk i.toNatClampNeg) :: st) σ bc bs (a.bind f)) : xs_ em sg M pc lv (.int i :: .ref kk :: st) σ bc bs ((xm_chk (xm_in i nn) a).bind f) := by
  subst hn
  intro r σ' ho G base b L xs l p e R s m args below meth c H locs cells slots ls Q hC hf hlo hc hs hL hW hz hS kret
  by_cases hch : xm_in i nn
  · rw [xm_chk, if_pos hch] at ho
    exact va_iald hC.1 hC.2.1 hC.2.2.2.2.2.2.2.2.1 hW kk 0 (xm_at13 hk) rfl (xm_in_vp hch) hd (k r σ' ho G base b L xs l p e R s m args below meth c H locs cells slots ls Q hC hf hlo hc hs hL hW hz hS kret)
  · rw [xm_chk, if_neg hch] at ho
    cases ho
theorem xs_baload {kk nn : Nat} {i : Int32} (hd : decode M.2.1 pc = .ok (.baload, 1)) (hn : pc + 1 = n) (hk : xm_is (sg σ) kk 15 nn) (k : xs_ em sg M n lv (.int ((sg σ).2.2.2.1 kk i.toNatClampNeg) :: st) σ bc bs (a.bind f)) : xs_ em sg M pc lv (.int i :: .ref kk :: st) σ bc bs ((xm_chk (xm_in i nn) a).bind f) := by
  subst hn
  intro r σ' ho G base b L xs l p e R s m args below meth c H locs cells slots ls Q hC hf hlo hc hs hL hW hz hS kret
  by_cases hch : xm_in i nn
  · rw [xm_chk, if_pos hch] at ho
    exact va_zald hC.1 hC.2.1 hC.2.2.2.2.2.2.2.2.1 hW kk 2 (xm_at15 hk) rfl (xm_in_vp hch) hd (k r σ' ho G base b L xs l p e R s m args below meth c H locs cells slots ls Q hC hf hlo hc hs hL hW hz hS kret)
  · rw [xm_chk, if_neg hch] at ho
    cases ho
theorem xs_laload {kk nn : Nat} {i : Int32} (hd : decode M.2.1 pc = .ok (.laload, 1)) (hn : pc + 1 = n) (hk : xm_is (sg σ) kk 14 nn) (k : xs_ em sg M n lv (.long ((sg σ).2.2.2.2 kk i.toNatClampNeg) :: st) σ bc bs (a.bind f)) : xs_ em sg M pc lv (.int i :: .ref kk :: st) σ bc bs ((xm_chk (xm_in i nn) a).bind f) := by
  subst hn
  intro r σ' ho G base b L xs l p e R s m args below meth c H locs cells slots ls Q hC hf hlo hc hs hL hW hz hS kret
  by_cases hch : xm_in i nn
  · rw [xm_chk, if_pos hch] at ho
    exact va_lald hC.1 hC.2.1 hC.2.2.2.2.2.2.2.2.1 hW kk 1 (xm_at14 hk) rfl (xm_in_vp hch) hd (k r σ' ho G base b L xs l p e R s m args below meth c H locs cells slots ls Q hC hf hlo hc hs hL hW hz hS kret)
  · rw [xm_chk, if_neg hch] at ho
    cases ho
theorem xs_aaload16 {kk nn aa : Nat} {i : Int32} (hd : decode M.2.1 pc = .ok (.aaload, 1)) (hn : pc + 1 = n) (hk : xm_is (sg σ) kk 16 nn) (hr : xm_in i nn → (sg σ).2.2.1 kk i.toNatClampNeg = some aa) (k : xm_in i nn → xs_ em sg M n lv (.ref aa :: st) σ bc bs (a.bind f)) : xs_ em sg M pc lv (.int i :: .ref kk :: st) σ bc bs ((xm_chk (xm_in i nn) a).bind f) := by
  subst hn
  intro r σ' ho G base b L xs l p e R s m args below meth c H locs cells slots ls Q hC hf hlo hc hs hL hW hz hS kret
  by_cases hch : xm_in i nn
  · rw [xm_chk, if_pos hch] at ho
    refine va_aldq hC.1 hC.2.1 hC.2.2.2.2.2.2.2.2.1 hW kk 3 (xm_at16 hk) rfl (xm_in_vp hch) hd ?_
    have hq := k hch r σ' ho G base b L xs l p e R s m args below meth c H locs cells slots ls Q hC hf hlo hc hs hL hW hz hS kret
    rw [hr hch]
    exact hq
  · rw [xm_chk, if_neg hch] at ho
    cases ho
theorem xs_aaload17 {kk nn aa : Nat} {i : Int32} (hd : decode M.2.1 pc = .ok (.aaload, 1)) (hn : pc + 1 = n) (hk : xm_is (sg σ) kk 17 nn) (hr : xm_in i nn → (sg σ).2.2.1 kk i.toNatClampNeg = some aa) (k : xm_in i nn → xs_ em sg M n lv (.ref aa :: st) σ bc bs (a.bind f)) : xs_ em sg M pc lv (.int i :: .ref kk :: st) σ bc bs ((xm_chk (xm_in i nn) a).bind f) := by
  subst hn
  intro r σ' ho G base b L xs l p e R s m args below meth c H locs cells slots ls Q hC hf hlo hc hs hL hW hz hS kret
  by_cases hch : xm_in i nn
  · rw [xm_chk, if_pos hch] at ho
    refine va_aldq hC.1 hC.2.1 hC.2.2.2.2.2.2.2.2.1 hW kk 4 (xm_at17 hk) rfl (xm_in_vp hch) hd ?_
    have hq := k hch r σ' ho G base b L xs l p e R s m args below meth c H locs cells slots ls Q hC hf hlo hc hs hL hW hz hS kret
    rw [hr hch]
    exact hq
  · rw [xm_chk, if_neg hch] at ho
    cases ho
theorem xs_iastore {kk nn : Nat} {i : Int32} {v : Int32} {σ1 : S} (hd : decode M.2.1 pc = .ok (.iastore, 1)) (hn : pc + 1 = n) (hk : xm_is (sg σ) kk 13 nn) (h1 : sg σ1 = ((sg σ).1, (sg σ).2.1, (sg σ).2.2.1, xm_u2 (sg σ).2.2.2.1 kk i.toNatClampNeg (v), (sg σ).2.2.2.2)) (k : xs_ em sg M n lv st σ1 bc bs (a.bind f)) : xs_ em sg M pc lv (.int v :: .int i :: .ref kk :: st) σ bc bs ((xm_chk (xm_in i nn) a).bind f) := by
  subst hn
  intro r σ' ho G base b L xs l p e R s m args below meth c H locs cells slots ls Q hC hf hlo hc hs hL hW hz hS kret
  by_cases hch : xm_in i nn
  · rw [xm_chk, if_pos hch] at ho
    have hset : (xm_ws G base (sg σ)).set kk (base + kk, .inl (G.2.1, nn, .inl (upd ((sg σ).2.2.2.1 kk) i.toNatClampNeg (v)))) = xm_ws G base (sg σ1) := by
      refine xm_set (by rw [h1]) hk.1 ?_ (fun k' hk' => ?_)
      · rw [h1]
        unfold xm_ent
        dsimp only
        rw [hk.2, xm_u2_i]
        rfl
      · have hq : (sg σ1).2.2.1 k' = (sg σ).2.2.1 k' ∧ (sg σ1).2.2.2.1 k' = (sg σ).2.2.2.1 k' ∧ (sg σ1).2.2.2.2 k' = (sg σ).2.2.2.2 k' := by
          rw [h1]; exact ⟨rfl, xm_u2_ne hk', rfl⟩
        exact xm_ent_congr (by rw [h1]) hq.1 hq.2.1 hq.2.2
    refine va_iast hC.1 hC.2.1 hC.2.2.2.2.2.2.2.2.1 hW xm_D hS kk 0 (xm_at13 hk) rfl (xm_in_vp hch) hd (fun H1 locs1 hP1 _ hS1 => ?_)
    rw [hset] at hP1
    exact k r σ' ho G base b L xs l p e R s m args below meth c H1 locs1 cells slots ls Q hC hf hlo hc hs hL hP1 (by rw [hz, h1]) hS1 kret
  · rw [xm_chk, if_neg hch] at ho
    cases ho
theorem xs_bastore {kk nn : Nat} {i : Int32} {v : Int32} {σ1 : S} (hd : decode M.2.1 pc = .ok (.bastore, 1)) (hn : pc + 1 = n) (hk : xm_is (sg σ) kk 15 nn) (h1 : sg σ1 = ((sg σ).1, (sg σ).2.1, (sg σ).2.2.1, xm_u2 (sg σ).2.2.2.1 kk i.toNatClampNeg (vp_nar .boolean v), (sg σ).2.2.2.2)) (k : xs_ em sg M n lv st σ1 bc bs (a.bind f)) : xs_ em sg M pc lv (.int v :: .int i :: .ref kk :: st) σ bc bs ((xm_chk (xm_in i nn) a).bind f) := by
  subst hn
  intro r σ' ho G base b L xs l p e R s m args below meth c H locs cells slots ls Q hC hf hlo hc hs hL hW hz hS kret
  by_cases hch : xm_in i nn
  · rw [xm_chk, if_pos hch] at ho
    have hset : (xm_ws G base (sg σ)).set kk (base + kk, .inl (G.2.2.2.1, nn, .inl (upd ((sg σ).2.2.2.1 kk) i.toNatClampNeg (vp_nar .boolean v)))) = xm_ws G base (sg σ1) := by
      refine xm_set (by rw [h1]) hk.1 ?_ (fun k' hk' => ?_)
      · rw [h1]
        unfold xm_ent
        dsimp only
        rw [hk.2, xm_u2_i]
        rfl
      · have hq : (sg σ1).2.2.1 k' = (sg σ).2.2.1 k' ∧ (sg σ1).2.2.2.1 k' = (sg σ).2.2.2.1 k' ∧ (sg σ1).2.2.2.2 k' = (sg σ).2.2.2.2 k' := by
          rw [h1]; exact ⟨rfl, xm_u2_ne hk', rfl⟩
        exact xm_ent_congr (by rw [h1]) hq.1 hq.2.1 hq.2.2
    refine va_zast hC.1 hC.2.1 hC.2.2.2.2.2.2.2.2.1 hW xm_D hS kk 2 (xm_at15 hk) rfl (xm_in_vp hch) hd (fun H1 locs1 hP1 _ hS1 => ?_)
    rw [hset] at hP1
    exact k r σ' ho G base b L xs l p e R s m args below meth c H1 locs1 cells slots ls Q hC hf hlo hc hs hL hP1 (by rw [hz, h1]) hS1 kret
  · rw [xm_chk, if_neg hch] at ho
    cases ho
theorem xs_lastore {kk nn : Nat} {i : Int32} {v : Int64} {σ1 : S} (hd : decode M.2.1 pc = .ok (.lastore, 1)) (hn : pc + 1 = n) (hk : xm_is (sg σ) kk 14 nn) (h1 : sg σ1 = ((sg σ).1, (sg σ).2.1, (sg σ).2.2.1, (sg σ).2.2.2.1, xm_u2 (sg σ).2.2.2.2 kk i.toNatClampNeg v)) (k : xs_ em sg M n lv st σ1 bc bs (a.bind f)) : xs_ em sg M pc lv (.long v :: .int i :: .ref kk :: st) σ bc bs ((xm_chk (xm_in i nn) a).bind f) := by
  subst hn
  intro r σ' ho G base b L xs l p e R s m args below meth c H locs cells slots ls Q hC hf hlo hc hs hL hW hz hS kret
  by_cases hch : xm_in i nn
  · rw [xm_chk, if_pos hch] at ho
    have hset : (xm_ws G base (sg σ)).set kk (base + kk, .inl (G.2.2.1, nn, .inr (.inl (vp_updL ((sg σ).2.2.2.2 kk) i.toNatClampNeg v)))) = xm_ws G base (sg σ1) := by
      refine xm_set (by rw [h1]) hk.1 ?_ (fun k' hk' => ?_)
      · rw [h1]
        unfold xm_ent
        dsimp only
        rw [hk.2, xm_u2_l]
        rfl
      · have hq : (sg σ1).2.2.1 k' = (sg σ).2.2.1 k' ∧ (sg σ1).2.2.2.1 k' = (sg σ).2.2.2.1 k' ∧ (sg σ1).2.2.2.2 k' = (sg σ).2.2.2.2 k' := by
          rw [h1]; exact ⟨rfl, rfl, xm_u2_ne hk'⟩
        exact xm_ent_congr (by rw [h1]) hq.1 hq.2.1 hq.2.2
    refine va_last hC.1 hC.2.1 hC.2.2.2.2.2.2.2.2.1 hW xm_D hS kk 1 (xm_at14 hk) rfl (xm_in_vp hch) hd (fun H1 locs1 hP1 _ hS1 => ?_)
    rw [hset] at hP1
    exact k r σ' ho G base b L xs l p e R s m args below meth c H1 locs1 cells slots ls Q hC hf hlo hc hs hL hP1 (by rw [hz, h1]) hS1 kret
  · rw [xm_chk, if_neg hch] at ho
    cases ho
theorem xs_aastore16 {kk nn v n2 : Nat} {i : Int32} {σ1 : S} (hd : decode M.2.1 pc = .ok (.aastore, 1)) (hn : pc + 1 = n) (hk : xm_is (sg σ) kk 16 nn) (hv : xm_is (sg σ) v 0 n2) (h1 : sg σ1 = ((sg σ).1, (sg σ).2.1, xm_u2 (sg σ).2.2.1 kk i.toNatClampNeg (some v), (sg σ).2.2.2.1, (sg σ).2.2.2.2)) (k : xs_ em sg M n lv st σ1 bc bs (a.bind f)) : xs_ em sg M pc lv (.ref v :: .int i :: .ref kk :: st) σ bc bs ((xm_chk (xm_in i nn) a).bind f) := by
  subst hn
  intro r σ' ho G base b L xs l p e R s m args below meth c H locs cells slots ls Q hC hf hlo hc hs hL hW hz hS kret
  by_cases hch : xm_in i nn
  · rw [xm_chk, if_pos hch] at ho
    have hset : (xm_ws G base (sg σ)).set kk (base + kk, .inl (G.2.2.2.2.1, nn, .inr (.inr (.inr (.inr (va_up (fun j => ((sg σ).2.2.1 kk j).map (fun a => base + a)) i.toNatClampNeg (some (base + v)))))))) = xm_ws G base (sg σ1) := by
      refine xm_set (by rw [h1]) hk.1 ?_ (fun k' hk' => ?_)
      · rw [h1]
        unfold xm_ent
        dsimp only
        rw [hk.2]
        have e1 : (fun j => (xm_u2 (sg σ).2.2.1 kk i.toNatClampNeg (some v) kk j).map (fun a => base + a)) = va_up (fun j => ((sg σ).2.2.1 kk j).map (fun a => base + a)) i.toNatClampNeg (some (base + v)) := by
          funext j
          by_cases hj : j = i.toNatClampNeg <;> simp [xm_u2, va_up, hj]
        rw [e1]
        rfl
      · have hq : (sg σ1).2.2.1 k' = (sg σ).2.2.1 k' ∧ (sg σ1).2.2.2.1 k' = (sg σ).2.2.2.1 k' ∧ (sg σ1).2.2.2.2 k' = (sg σ).2.2.2.2 k' := by
          rw [h1]; exact ⟨xm_u2_ne hk', rfl, rfl⟩
        exact xm_ent_congr (by rw [h1]) hq.1 hq.2.1 hq.2.2
    refine va_astq hC.1 hC.2.1 hC.2.2.2.2.2.2.2.2.1 hW xm_D hS kk 3 v 0 (xm_at16 hk) rfl (xm_atob (by decide) hv) rfl (xm_in_vp hch) hd (fun H1 locs1 hP1 _ hS1 => ?_)
    rw [hset] at hP1
    exact k r σ' ho G base b L xs l p e R s m args below meth c H1 locs1 cells slots ls Q hC hf hlo hc hs hL hP1 (by rw [hz, h1]) hS1 kret
  · rw [xm_chk, if_neg hch] at ho
    cases ho
theorem xs_aastore17 {kk nn v n2 : Nat} {i : Int32} {σ1 : S} (hd : decode M.2.1 pc = .ok (.aastore, 1)) (hn : pc + 1 = n) (hk : xm_is (sg σ) kk 17 nn) (hv : xm_is (sg σ) v 1 n2) (h1 : sg σ1 = ((sg σ).1, (sg σ).2.1, xm_u2 (sg σ).2.2.1 kk i.toNatClampNeg (some v), (sg σ).2.2.2.1, (sg σ).2.2.2.2)) (k : xs_ em sg M n lv st σ1 bc bs (a.bind f)) : xs_ em sg M pc lv (.ref v :: .int i :: .ref kk :: st) σ bc bs ((xm_chk (xm_in i nn) a).bind f) := by
  subst hn
  intro r σ' ho G base b L xs l p e R s m args below meth c H locs cells slots ls Q hC hf hlo hc hs hL hW hz hS kret
  by_cases hch : xm_in i nn
  · rw [xm_chk, if_pos hch] at ho
    have hset : (xm_ws G base (sg σ)).set kk (base + kk, .inl (G.2.2.2.2.2, nn, .inr (.inr (.inr (.inr (va_up (fun j => ((sg σ).2.2.1 kk j).map (fun a => base + a)) i.toNatClampNeg (some (base + v)))))))) = xm_ws G base (sg σ1) := by
      refine xm_set (by rw [h1]) hk.1 ?_ (fun k' hk' => ?_)
      · rw [h1]
        unfold xm_ent
        dsimp only
        rw [hk.2]
        have e1 : (fun j => (xm_u2 (sg σ).2.2.1 kk i.toNatClampNeg (some v) kk j).map (fun a => base + a)) = va_up (fun j => ((sg σ).2.2.1 kk j).map (fun a => base + a)) i.toNatClampNeg (some (base + v)) := by
          funext j
          by_cases hj : j = i.toNatClampNeg <;> simp [xm_u2, va_up, hj]
        rw [e1]
        rfl
      · have hq : (sg σ1).2.2.1 k' = (sg σ).2.2.1 k' ∧ (sg σ1).2.2.2.1 k' = (sg σ).2.2.2.1 k' ∧ (sg σ1).2.2.2.2 k' = (sg σ).2.2.2.2 k' := by
          rw [h1]; exact ⟨xm_u2_ne hk', rfl, rfl⟩
        exact xm_ent_congr (by rw [h1]) hq.1 hq.2.1 hq.2.2
    refine va_astq hC.1 hC.2.1 hC.2.2.2.2.2.2.2.2.1 hW xm_D hS kk 4 v 1 (xm_at17 hk) rfl (xm_atob (by decide) hv) rfl (xm_in_vp hch) hd (fun H1 locs1 hP1 _ hS1 => ?_)
    rw [hset] at hP1
    exact k r σ' ho G base b L xs l p e R s m args below meth c H1 locs1 cells slots ls Q hC hf hlo hc hs hL hP1 (by rw [hz, h1]) hS1 kret
  · rw [xm_chk, if_neg hch] at ho
    cases ho
theorem xs_alen13 {kk nn : Nat} {v : Int32} {o : Option (α × S)} (hd : decode M.2.1 pc = .ok (.arraylength, 1)) (hn : pc + 1 = n) (hk : xm_is (sg σ) kk 13 nn) (hv : Int32.ofNat nn = v) (k : xs_ em sg M n lv (.int v :: st) σ bc bs o) : xs_ em sg M pc lv (.ref kk :: st) σ bc bs o := by
  subst hn
  intro r σ' ho G base b L xs l p e R s m args below meth c H locs cells slots ls Q hC hf hlo hc hs hL hW hz hS kret
  exact va_alen hC.1 hC.2.1 hC.2.2.2.2.2.2.2.2.1 hW kk 0 (xm_at13 hk) rfl hv hd (k r σ' ho G base b L xs l p e R s m args below meth c H locs cells slots ls Q hC hf hlo hc hs hL hW hz hS kret)
theorem xs_alen14 {kk nn : Nat} {v : Int32} {o : Option (α × S)} (hd : decode M.2.1 pc = .ok (.arraylength, 1)) (hn : pc + 1 = n) (hk : xm_is (sg σ) kk 14 nn) (hv : Int32.ofNat nn = v) (k : xs_ em sg M n lv (.int v :: st) σ bc bs o) : xs_ em sg M pc lv (.ref kk :: st) σ bc bs o := by
  subst hn
  intro r σ' ho G base b L xs l p e R s m args below meth c H locs cells slots ls Q hC hf hlo hc hs hL hW hz hS kret
  exact va_alen hC.1 hC.2.1 hC.2.2.2.2.2.2.2.2.1 hW kk 1 (xm_at14 hk) rfl hv hd (k r σ' ho G base b L xs l p e R s m args below meth c H locs cells slots ls Q hC hf hlo hc hs hL hW hz hS kret)
theorem xs_copyl {k0 k1 n0 n1 idx : Nat} {sp dp nn : Int32} {σ1 : S} (hd : decode M.2.1 pc = .ok (.invokestatic idx, 3)) (hn : pc + 3 = n) (hw : Cond.methodLink M.1.cls idx arraycopyName ∈ xm_tb) (h0 : xm_is (sg σ) k0 14 n0) (hk1 : xm_is (sg σ) k1 14 n1) (hfr : 1 ≤ M.2.2.2.2.1) (hlc : (st.map fun v => v.category).sum + 18 ≤ M.2.2.2.2.2) (h1 : sg σ1 = ((sg σ).1, (sg σ).2.1, (sg σ).2.2.1, (sg σ).2.2.2.1, xm_u1 (sg σ).2.2.2.2 k1 (va_cpy ((sg σ).2.2.2.2 k0) ((sg σ).2.2.2.2 k1) sp.toNatClampNeg dp.toNatClampNeg nn.toNatClampNeg)))
    (k : xs_ em sg M n lv st σ1 bc bs (a.bind f)) : xs_ em sg M pc lv (.int nn :: .int dp :: .ref k1 :: .int sp :: .ref k0 :: st) σ bc bs ((xm_chk (0 ≤ sp ∧ 0 ≤ dp ∧ 0 ≤ nn ∧ sp.toNatClampNeg + nn.toNatClampNeg ≤ n0 ∧ dp.toNatClampNeg + nn.toNatClampNeg ≤ n1) a).bind f) := by
  subst hn
  intro r σ' ho G base b L xs l p e R s m args below meth c H locs cells slots ls Q hC hf hlo hc hs hL hW hz hS kret
  by_cases hch : 0 ≤ sp ∧ 0 ≤ dp ∧ 0 ≤ nn ∧ sp.toNatClampNeg + nn.toNatClampNeg ≤ n0 ∧ dp.toNatClampNeg + nn.toNatClampNeg ≤ n1
  · rw [xm_chk, if_pos hch] at ho
    have hset : (xm_ws G base (sg σ)).set k1 (base + k1, .inl (G.2.2.1, n1, .inr (.inl (va_cpy ((sg σ).2.2.2.2 k0) ((sg σ).2.2.2.2 k1) sp.toNatClampNeg dp.toNatClampNeg nn.toNatClampNeg)))) = xm_ws G base (sg σ1) := by
      refine xm_set (by rw [h1]) hk1.1 ?_ (fun k' hk' => ?_)
      · rw [h1]
        unfold xm_ent
        dsimp only
        rw [hk1.2, xm_u1_eq]
        rfl
      · have hq : (sg σ1).2.2.1 k' = (sg σ).2.2.1 k' ∧ (sg σ1).2.2.2.1 k' = (sg σ).2.2.2.1 k' ∧ (sg σ1).2.2.2.2 k' = (sg σ).2.2.2.2 k' := by
          rw [h1]; exact ⟨rfl, rfl, xm_u1_ne hk'⟩
        exact xm_ent_congr (by rw [h1]) hq.1 hq.2.1 hq.2.2
    have hcat : ((st.map (xm_r base b)).map fun v => v.category).sum = (st.map fun v => v.category).sum := by
      rw [List.map_map]
      congr 1
      exact List.map_congr_left (fun v _ => xm_r_cat base b v)
    refine va_copyl hC.1 hC.2.1 (by rw [hL.size]; exact hC.2.2.2.1) hC.2.2.2.2.1 (hC.2.2.2.2.2.1 _ hw) (hC.2.2.2.2.2.1 _ tb_nat) (hC.2.2.2.2.2.1 _ tb_sta) (hC.2.2.2.2.2.1 _ tb_sys) hC.2.2.2.2.2.2.2.2.1 hW xm_D hS k0 k1 1 1 (xm_at14 h0) (xm_at14 hk1) rfl rfl rfl (Int32.not_lt.mpr hch.1) (Int32.not_lt.mpr hch.2.1) (Int32.not_lt.mpr hch.2.2.1) hch.2.2.2.1 hch.2.2.2.2 (fun _ _ => rfl) (Nat.le_trans hfr hf) (by rw [hcat]; exact Nat.le_trans hlc hlo) hd (fun H1 locs1 hP1 _ hS1 => ?_)
    rw [hset] at hP1
    exact k r σ' ho G base b L xs l p e R s m args below meth c H1 locs1 cells slots ls Q hC hf hlo hc hs hL hP1 (by rw [hz, h1]) hS1 kret
  · rw [xm_chk, if_neg hch] at ho
    cases ho
theorem xs_copyi {k0 k1 n0 n1 idx : Nat} {sp dp nn : Int32} {σ1 : S} (hd : decode M.2.1 pc = .ok (.invokestatic idx, 3)) (hn : pc + 3 = n) (hw : Cond.methodLink M.1.cls idx arraycopyName ∈ xm_tb) (h0 : xm_is (sg σ) k0 13 n0) (hk1 : xm_is (sg σ) k1 13 n1) (hfr : 1 ≤ M.2.2.2.2.1) (hlc : (st.map fun v => v.category).sum + 18 ≤ M.2.2.2.2.2) (h1 : sg σ1 = ((sg σ).1, (sg σ).2.1, (sg σ).2.2.1, xm_u1 (sg σ).2.2.2.1 k1 (va_cpy ((sg σ).2.2.2.1 k0) ((sg σ).2.2.2.1 k1) sp.toNatClampNeg dp.toNatClampNeg nn.toNatClampNeg), (sg σ).2.2.2.2))
    (k : xs_ em sg M n lv st σ1 bc bs (a.bind f)) : xs_ em sg M pc lv (.int nn :: .int dp :: .ref k1 :: .int sp :: .ref k0 :: st) σ bc bs ((xm_chk (0 ≤ sp ∧ 0 ≤ dp ∧ 0 ≤ nn ∧ sp.toNatClampNeg + nn.toNatClampNeg ≤ n0 ∧ dp.toNatClampNeg + nn.toNatClampNeg ≤ n1) a).bind f) := by
  subst hn
  intro r σ' ho G base b L xs l p e R s m args below meth c H locs cells slots ls Q hC hf hlo hc hs hL hW hz hS kret
  by_cases hch : 0 ≤ sp ∧ 0 ≤ dp ∧ 0 ≤ nn ∧ sp.toNatClampNeg + nn.toNatClampNeg ≤ n0 ∧ dp.toNatClampNeg + nn.toNatClampNeg ≤ n1
  · rw [xm_chk, if_pos hch] at ho
    have hset : (xm_ws G base (sg σ)).set k1 (base + k1, .inl (G.2.1, n1, .inl (va_cpy ((sg σ).2.2.2.1 k0) ((sg σ).2.2.2.1 k1) sp.toNatClampNeg dp.toNatClampNeg nn.toNatClampNeg))) = xm_ws G base (sg σ1) := by
      refine xm_set (by rw [h1]) hk1.1 ?_ (fun k' hk' => ?_)
      · rw [h1]
        unfold xm_ent
        dsimp only
        rw [hk1.2, xm_u1_eq]
        rfl
      · have hq : (sg σ1).2.2.1 k' = (sg σ).2.2.1 k' ∧ (sg σ1).2.2.2.1 k' = (sg σ).2.2.2.1 k' ∧ (sg σ1).2.2.2.2 k' = (sg σ).2.2.2.2 k' := by
          rw [h1]; exact ⟨rfl, xm_u1_ne hk', rfl⟩
        exact xm_ent_congr (by rw [h1]) hq.1 hq.2.1 hq.2.2
    have hcat : ((st.map (xm_r base b)).map fun v => v.category).sum = (st.map fun v => v.category).sum := by
      rw [List.map_map]
      congr 1
      exact List.map_congr_left (fun v _ => xm_r_cat base b v)
    refine va_copyi hC.1 hC.2.1 (by rw [hL.size]; exact hC.2.2.2.1) hC.2.2.2.2.1 (hC.2.2.2.2.2.1 _ hw) (hC.2.2.2.2.2.1 _ tb_nat) (hC.2.2.2.2.2.1 _ tb_sta) (hC.2.2.2.2.2.1 _ tb_sys) hC.2.2.2.2.2.2.2.2.1 hW xm_D hS k0 k1 0 0 (xm_at13 h0) (xm_at13 hk1) rfl rfl rfl (Int32.not_lt.mpr hch.1) (Int32.not_lt.mpr hch.2.1) (Int32.not_lt.mpr hch.2.2.1) hch.2.2.2.1 hch.2.2.2.2 (fun _ _ => rfl) (Nat.le_trans hfr hf) (by rw [hcat]; exact Nat.le_trans hlc hlo) hd (fun H1 locs1 hP1 _ hS1 => ?_)
    rw [hset] at hP1
    exact k r σ' ho G base b L xs l p e R s m args below meth c H1 locs1 cells slots ls Q hC hf hlo hc hs hL hP1 (by rw [hz, h1]) hS1 kret
  · rw [xm_chk, if_neg hch] at ho
    cases ho
end XR_
end
section
/-! calls -/
def xm_ok (N : xm_M) (na : Nat) : Prop := plainFor N.1 = true ∧ Cond.code N.1 N.2.1 N.2.2.1 N.2.2.2.1 ∈ xm_tb ∧ Cond.initialized N.1.cls ∈ xm_tb ∧ (N.1.cls ≠ "java/lang/invoke/MethodHandle" ∧ N.1.cls ≠ "java/lang/invoke/VarHandle" ∧ (parseMethodDescriptor N.1.desc).map (fun d => d.parameters.length) = some na)
def xm_wsM (N : xm_M) : List Cond := Cond.code N.1 N.2.1 N.2.2.1 N.2.2.2.1 :: xm_tb
def xm_rm (N : xm_M) (mc ms : Nat) : Room := { frames := N.2.2.2.2.1, cells := mc, slots := ms, locals := N.2.2.2.2.2 }
def xm_fm (vs : List Value) : List (Option Value) := match vs with
  | [] => []
  | v :: vs => if v.category = 2 then some v :: none :: xm_fm vs else some v :: xm_fm vs
def xm_en (n : Nat) (vs : List Value) : List (Option Value) := xm_fm vs ++ List.replicate (n - (xm_fm vs).length) none
theorem xm_fm_mem (base b : Nat) (vs : List Value) (c : Nat) : ∀ (t i : Nat) (v : Value), (xm_fm vs ++ List.replicate c none)[i]? = some (some v) → (t + i, xm_r base b v) ∈ lv_args t (vs.map (xm_r base b)) := by
  induction vs with
  | nil =>
    intro t i v h
    rw [xm_fm, List.nil_append, List.getElem?_replicate] at h
    split at h <;> cases h
  | cons w vs ih =>
    intro t i v h
    unfold xm_fm at h
    simp only [List.map_cons, lv_args, xm_r_cat]
    by_cases hw : w.category = 2
    · rw [if_pos hw] at h
      rw [if_pos hw]
      match i, h with
      | 0, h => cases h; exact List.mem_cons_self
      | 1, h => cases h
      | i + 2, h =>
        have := ih (t + 2) i v h
        rw [show t + (i + 2) = t + 2 + i by omega]
        exact List.mem_cons_of_mem _ this
    · rw [if_neg hw] at h
      rw [if_neg hw]
      match i, h with
      | 0, h => cases h; exact List.mem_cons_self
      | i + 1, h =>
        have := ih (t + 1) i v h
        rw [show t + (i + 1) = t + 1 + i by omega]
        exact List.mem_cons_of_mem _ this
theorem xm_sl_len (base b : Nat) (vs : List Value) : (lg_sl (vs.map (xm_r base b))).length = (lg_sl vs).length := by
  unfold lg_sl
  induction vs with
  | nil => rfl
  | cons w vs ih =>
    simp only [List.map_cons, List.flatMap_cons, List.length_append, xm_r_cat, ih]
    split <;> rfl
def xm_Pc (G : xm_G) (base b L : Nat) (xs : Nat → Int32) (As : List Value) (σ : xm_S) : Array Value → State → Prop := fun v U => v = (As.map (xm_r base b)).toArray ∧ U.heap.size = base + σ.1 ∧ xm_W G base σ U.heap ∧ va_K G.1 vwCl (xm_tys G) U ∧ va_X b L xs U U.heap ∧ b < base ∧ xm_N U
def xm_Qc (G : xm_G) (base b : Nat) (r : Option Value) (σ : xm_S) : Array Value → State → Outcome → State → Prop := fun _ st oc t => oc = .returned (r.map (xm_r base b)) ∧ xm_W G base σ t.heap ∧ va_F (fun q => base ≤ q) st t
theorem xm_N.moved {s U : State} (hW : s.WarmedH U.vm) (h : xm_N s) : xm_N U := ⟨fun a i x hh hm => va_Nw.warmM hW (h.1 a i x hh hm), va_AO.moved hW.alike h.2.1, va_AO.moved hW.alike h.2.2⟩
theorem xm_blind {G : xm_G} {base b L : Nat} {xs : Nat → Int32} {As : List Value} {σ : xm_S} : FrameBlind (xm_Pc G base b L xs As σ) := by
  intro a U g mk q
  obtain ⟨h1, h2, h3, h4, h5, h6, h7⟩ := q
  exact ⟨h1, h2, h3, va_K.moved (u := U) (U := U.calling g mk a) (Vm.Alike.refl U.vm) h4, va_X.moved (u := U) (U := U.calling g mk a) (Vm.Alike.refl U.vm) h5, h6, fun a i x hh hm => va_Nw.same rfl rfl (h7.1 a i x hh hm), va_AO.moved (u := U) (U := U.calling g mk a) (Vm.Alike.refl U.vm) h7.2.1, va_AO.moved (u := U) (U := U.calling g mk a) (Vm.Alike.refl U.vm) h7.2.2⟩
theorem xm_ofW {l : Launch} {y : MethodName} {ws ws' : List Cond} {rm : Room} {Pc : Array Value → State → Prop} {Qc : Array Value → State → Outcome → State → Prop} {mc ms : Nat} {free : Addr → Prop} {cc : ByteArray} {maxL : Nat} {ret : Option FieldType} (hy : plainFor y = true) (hw : ws = Cond.code y cc maxL ret :: ws')
    (hbody : ∀ p e s m args below meth c s₁, BodyLoose p l y (headSpec ws rm) cc maxL ret e s m args below meth c s₁ → c.maxLocals = maxL → Pc args s → W p l e (headSpec ws rm).room s m args below meth c s.heap [] 0 0 (MQ below Qc args s mc ms free) (entryFrame m args maxL)) : Met l y ws rm Pc Qc mc ms free := by
  refine MetFree.of_bodySF (code := cc) (maxLocals := maxL) (ret := ret) hy (fun args s m h hn => ?_) (fun p e s m args below meth c s₁ B hml hP _ => ?_)
  · have hq := Cond.code_spec hn (atoms_spec (ws := ws) h _ (by rw [hw]; exact List.mem_cons_self))
    obtain ⟨meth, c, q1, q2, q3, q4, q5, q6, -, -⟩ := hq
    exact ⟨meth, c, q1, q2, q3, q4, q5, q6⟩
  · have hh : s₁.heap = s.heap := by rw [B.state]; rfl
    obtain ⟨t, g1, oc, g2, g3, g4, g5⟩ := hbody p e s m args below meth c s₁ B hml hP s₁ hh (Stand.of_body B)
    exact ⟨t, oc, g1, g2, g3, g4, g5⟩
set_option maxHeartbeats 1000000 in
theorem xm_met {α S : Type} {em : α → Option Value} {sg : S → xm_S} {N : xm_M} {na : Nat} (hok : xm_ok N na) {lv0 : List (Option Value)} {As : List Value} {σ : S} {mc ms : Nat} {o : Option (α × S)} {r : α} {σ' : S} (hN : xs_ em sg N 0 lv0 [] σ mc ms o) (he : xm_en N.2.2.1 As = lv0) (hlen : (lg_sl As).length ≤ N.2.2.1) (ho : o = some (r, σ')) (G : xm_G) (base b L : Nat) (xs : Nat → Int32) (l : Launch) : Met l N.1 (xm_wsM N) (xm_rm N mc ms) (xm_Pc G base b L xs As (sg σ)) (xm_Qc G base b (em r) (sg σ')) mc ms (fun q => base ≤ q) := by
  refine xm_ofW (cc := N.2.1) (maxL := N.2.2.1) (ret := N.2.2.2.1) hok.1 rfl ?_
  intro p e s m args below meth c s₁ B hml hv
  obtain ⟨rfl, hsz, hW, hK, hX, hb, hNw⟩ := hv
  have hts := atoms_spec (ws := xm_wsM N) B.pre
  have hin : meth.name = N.1.name := (name_of_methodNamed B.named B.method).1
  rw [lg_entry_eq]
  have hl := lv_entry (As.map (xm_r base b)) (n := N.2.2.1) (by rw [xm_sl_len]; exact hlen)
  refine hN r σ' ho G base b L xs l p e _ s m _ below meth c s.heap [] 0 0 _ _ ⟨B.exec, B.bytes, B.returns, hml, findClass_of_methodNamed B.named, fun w hw => hts w (List.mem_cons_of_mem _ hw), B.notSynchronized, hin, hK, by omega, hX, hb, hNw⟩ (Nat.le_refl _) (Nat.le_refl _) (by simp only [Nat.zero_add]; exact Nat.le_refl _) (by simp only [Nat.zero_add]; exact Nat.le_refl _) ⟨_, hl, fun i v hi => ?_⟩ hW (by omega) va_S.rf (fun H1 locs1 cells1 slots1 pc1 ls1 hc1 hs1 hW1 hS1 hrt => ?_)
  · rw [← he, xm_en] at hi
    have := xm_fm_mem base b As _ 0 i v hi
    rwa [Nat.zero_add] at this
  · have key : ∀ v : Option Value, xm_rt N pc1 v → W p l e (headSpec (xm_wsM N) (xm_rm N mc ms)).room s m (As.map (xm_r base b)).toArray below meth c H1 locs1 mc ms (MQ below (xm_Qc G base b v (sg σ')) (As.map (xm_r base b)).toArray s mc ms (fun q => base ≤ q)) (F0 m pc1 ls1 (v.map (xm_r base b)).toList) := by
      intro v hv
      match v, hv with
      | none, hv => exact W.vret B.exec B.bytes (B.returns.trans hv.2) (fun t ht _ => ⟨rfl, by rw [ht]; exact hW1, hS1.F ht⟩) (fun q hq => hS1.2.2 q hq) hv.1
      | some (.long x), hv => exact W.lret B.exec B.bytes (B.returns.trans hv.2) (fun t ht _ => ⟨rfl, by rw [ht]; exact hW1, hS1.F ht⟩) (fun q hq => hS1.2.2 q hq) hv.1
      | some (.int x), hv =>
        rcases hv.2 with hr | ⟨hr, hx⟩
        · exact W.iret B.exec B.bytes (B.returns.trans hr) (fun t ht _ => ⟨rfl, by rw [ht]; exact hW1, hS1.F ht⟩) (fun q hq => hS1.2.2 q hq) hv.1
        · exact W.zret B.exec B.bytes (B.returns.trans hr) (by rcases hx with rfl | rfl <;> rfl) (fun t ht _ => ⟨rfl, by rw [ht]; exact hW1, hS1.F ht⟩) (fun q hq => hS1.2.2 q hq) hv.1
    exact W.widen (by simpa using hc1) (by simpa using hs1) (key _ hrt)
end
section
section XQ_
variable {p : Program} {l : Launch} {e : Env} {R : Room} {s : State} {m : MethodId} {args : Array Value} {below : List Frame} {meth : Method} {c : Code} {H : Heap} {locs : List Loc} {cells slots : Nat} {Q : State → Prop}
theorem xm_size {G : xm_G} {base : Nat} {σ : xm_S} {T : State} (X : Stand p l e R s m args below meth c T locs cells slots) (hT : T.heap = H) (hW : xm_W G base σ H) (hz : s.heap.size + cells = base + σ.1) (hb : base ≤ s.heap.size) : H.size = base + σ.1 := by
  have h1 : s.heap.size ≤ T.heap.size := X.same.2.1
  have h2 : T.heap.size ≤ s.heap.size + cells := X.same.2.2.1
  rw [hT] at h1 h2
  by_cases hK : σ.1 = 0
  · omega
  · have := (hW (σ.1 - 1) _ (xm_ws_at (by omega))).lt
    dsimp only at this
    omega
theorem xm_after {G : xm_G} {base b : Nat} {σ' : xm_S} {v : Option Value} {mc ms pc : Nat} {ls : Array Slot} {st0 rest : List Value} {a : Array Value} (hr : va_Run p l e R s m args below meth c H locs cells slots mc ms (F0 m pc ls st0) rest (xm_Qc G base b v σ' a) (fun q => base ≤ q)) (hS : va_S (fun q => base ≤ q) s.heap H locs)
    (k : ∀ (H1 : Heap) (locs1 : List Loc), xm_W G base σ' H1 → va_S (fun q => base ≤ q) s.heap H1 locs1 → W p l e R s m args below meth c H1 locs1 (cells + mc) (slots + ms) Q (F0 m (pc + 3) ls ((v.map (xm_r base b)).toList ++ rest))) : W p l e R s m args below meth c H locs cells slots Q (F0 m pc ls st0) := by
  intro T hT X
  obtain ⟨v', st₀, t, T', L, h0, X', hL, e1, e2, ⟨hv, hW1, hF⟩, st⟩ := hr T hT X
  cases hv
  have hS1 : va_S (fun q => base ≤ q) s.heap t.heap (locs ++ L) := by
    refine ⟨Nat.le_trans hS.1 (by rw [← h0]; exact hF.1), fun q h1 h2 => ?_, fun q hq => ?_⟩
    · rw [hF.2 q (by rw [h0]; exact Nat.lt_of_lt_of_le h1 hS.1) h2, h0]
      exact hS.2.1 q h1 h2
    · rcases List.mem_append.mp hq with hq | hq
      · exact hS.2.2 q hq
      · exact hL q hq
  obtain ⟨t2, a1, b1⟩ := k t.heap (locs ++ L) hW1 hS1 T' e1 X'
  exact ⟨t2, st t2 a1, b1⟩
end XQ_
theorem xm_cats (base b : Nat) (st : List Value) : ((st.map (xm_r base b)).map fun v => v.category).sum = (st.map fun v => v.category).sum := by
  rw [List.map_map]
  congr 1
  exact List.map_congr_left (fun v _ => xm_r_cat base b v)
section XR_
variable {α β S αN : Type} {em : α → Option Value} {emN : αN → Option Value} {sg : S → xm_S} {M N : xm_M} {pc n na idx mc ms bc bs bc' bs' : Nat} {lv lv0 : List (Option Value)} {stk rest As : List Value} {σ : S} {oN : Option (αN × S)} {F : αN × S → Option β} {f : β → Option (α × S)}
theorem xs_calls (hd : decode M.2.1 pc = .ok (.invokestatic idx, 3)) (hn : pc + 3 = n) (hok : xm_ok N na) (hw : Cond.methodLink M.1.cls idx N.1 ∈ xm_tb) (hst : Cond.static N.1 ∈ xm_tb) (hR : N.2.2.2.2.1 + 1 ≤ M.2.2.2.2.1 ∧ 8 + (N.2.2.1 + 11) + N.2.2.2.2.2 ≤ M.2.2.2.2.2) (As : List Value) (rest : List Value) (hstk : stk = As.reverse ++ rest) (hla : As.length = na) (hlen : (lg_sl As).length ≤ N.2.2.1) (he : xm_en N.2.2.1 As = lv0) (hrest : (rest.map fun v => v.category).sum ≤ 8) (hb : bc' + mc ≤ bc ∧ bs' + ms ≤ bs) (hKm : ∀ q, oN = some q → (sg q.2).1 = (sg σ).1 + mc) (hN : xs_ emN sg N 0 lv0 [] σ mc ms oN) (k : ∀ (v : αN) (σ1 : S), xs_ em sg M n lv ((emN v).toList ++ rest) σ1 bc' bs' ((F (v, σ1)).bind f)) : xs_ em sg M pc lv stk σ bc bs ((oN.bind F).bind f) := by
  subst hn
  intro r σ' ho G base b L xs l p e R s m args below meth c H locs cells slots ls Q hC hf hlo hc hs hL hW hz hS kret
  cases hoN : oN with
  | none => rw [hoN] at ho; cases ho
  | some q =>
    obtain ⟨v, σ1⟩ := q
    rw [hoN] at ho
    have hM := xm_met hok hN he hlen hoN G base b L xs l
    have hKv := hKm _ hoN
    obtain ⟨hx, hbb, hrt, hml, hown, hts, hlk, hnm, hK, hbs, hX, hbl, hNw⟩ := id hC
    intro T0 hT0 X0
    have hsz := xm_size X0 hT0 hW hz hbs
    refine (?_ : W p l e R s m args below meth c H locs cells slots Q (F0 m pc ls (stk.map (xm_r base b)))) T0 hT0 X0
    refine xm_after (G := G) (base := base) (b := b) (v := emN v) (σ' := sg σ1) (mc := mc) (ms := ms) (rest := rest.map (xm_r base b)) (a := (As.map (xm_r base b)).toArray) ?_ hS (fun H1 locs1 hW1 hS1 => ?_)
    · exact va_runS (As := As.map (xm_r base b)) (rest := rest.map (xm_r base b)) ⟨hx, hbb, hml, hown, hts⟩ hM ⟨callB_of na hts (xm_goodin hok.2.1) rfl rfl rfl (hts _ hok.2.2.1) (hts _ hw) hok.2.2.2 ⟨Nat.le_trans hR.1 hf, Nat.le_trans hR.2 hlo⟩, hts _ hst⟩ ⟨xm_blind, fun U hU hWm => ⟨rfl, by rw [hU]; exact hsz, by rw [hU]; exact hW, va_K.moved hWm.alike hK, by rw [hU]; exact (hX.kept (hS.2.1 b (Nat.lt_of_lt_of_le hbl hbs) (Nat.not_le.mpr hbl))).moved hWm.alike, hbl, hNw.moved hWm⟩⟩ rfl (by rw [List.length_map]; exact hla) hL.size (by subst hstk; simp [xm_r]) (by show 2 * 0 + _ ≤ 8; rw [xm_cats]; omega) hd ⟨by show cells + mc ≤ R.cells; omega, by show slots + ms ≤ R.slots; omega⟩
    · have hk2 := k v σ1 r σ' ho G base b L xs l p e R s m args below meth c H1 locs1 (cells + mc) (slots + ms) ls Q hC hf hlo (by omega) (by omega) hL hW1 (by rw [hKv]; omega) hS1 (fun H2 locs2 cells2 slots2 pc2 ls2 h1 h2 => kret H2 locs2 cells2 slots2 pc2 ls2 (by omega) (by omega))
      cases hem : emN v <;> rw [hem] at hk2 <;> exact hk2
theorem xs_callsn {host : String} (hd : decode M.2.1 pc = .ok (.invokestatic idx, 3)) (hn : pc + 3 = n) (hok : xm_ok N na) (hw : Cond.methodLinkNest M.1.cls idx N.1 host ∈ lw_tbl) (hst : Cond.static N.1 ∈ xm_tb) (hR : N.2.2.2.2.1 + 1 ≤ M.2.2.2.2.1 ∧ 8 + (N.2.2.1 + 11) + N.2.2.2.2.2 ≤ M.2.2.2.2.2) (As : List Value) (rest : List Value) (hstk : stk = As.reverse ++ rest) (hla : As.length = na) (hlen : (lg_sl As).length ≤ N.2.2.1) (he : xm_en N.2.2.1 As = lv0) (hrest : (rest.map fun v => v.category).sum ≤ 8) (hb : bc' + mc ≤ bc ∧ bs' + ms ≤ bs) (hKm : ∀ q, oN = some q → (sg q.2).1 = (sg σ).1 + mc) (hN : xs_ emN sg N 0 lv0 [] σ mc ms oN) (k : ∀ (v : αN) (σ1 : S), xs_ em sg M n lv ((emN v).toList ++ rest) σ1 bc' bs' ((F (v, σ1)).bind f)) : xs_ em sg M pc lv stk σ bc bs ((oN.bind F).bind f) := by
  subst hn
  intro r σ' ho G base b L xs l p e R s m args below meth c H locs cells slots ls Q hC hf hlo hc hs hL hW hz hS kret
  cases hoN : oN with
  | none => rw [hoN] at ho; cases ho
  | some q =>
    obtain ⟨v, σ1⟩ := q
    rw [hoN] at ho
    have hM := xm_met hok hN he hlen hoN G base b L xs l
    have hKv := hKm _ hoN
    obtain ⟨hx, hbb, hrt, hml, hown, hts, hlk, hnm, hK, hbs, hX, hbl, hNw⟩ := id hC
    intro T0 hT0 X0
    have hsz := xm_size X0 hT0 hW hz hbs
    refine (?_ : W p l e R s m args below meth c H locs cells slots Q (F0 m pc ls (stk.map (xm_r base b)))) T0 hT0 X0
    refine xm_after (G := G) (base := base) (b := b) (v := emN v) (σ' := sg σ1) (mc := mc) (ms := ms) (rest := rest.map (xm_r base b)) (a := (As.map (xm_r base b)).toArray) ?_ hS (fun H1 locs1 hW1 hS1 => ?_)
    · exact va_runSN (As := As.map (xm_r base b)) (rest := rest.map (xm_r base b)) ⟨hx, hbb, hml, hown, hts⟩ hM ⟨va_cnB na hts (xm_goodin hok.2.1) rfl rfl rfl (hNw.1 _ _ _ _ hw) (hts _ hok.2.2.1) hok.2.2.2 ⟨Nat.le_trans hR.1 hf, Nat.le_trans hR.2 hlo⟩, hts _ hst, trivial⟩ ⟨xm_blind, fun U hU hWm => ⟨rfl, by rw [hU]; exact hsz, by rw [hU]; exact hW, va_K.moved hWm.alike hK, by rw [hU]; exact (hX.kept (hS.2.1 b (Nat.lt_of_lt_of_le hbl hbs) (Nat.not_le.mpr hbl))).moved hWm.alike, hbl, hNw.moved hWm⟩⟩ rfl (by rw [List.length_map]; exact hla) hL.size (by subst hstk; simp [xm_r]) (by show 2 * 0 + _ ≤ 8; rw [xm_cats]; omega) hd ⟨by show cells + mc ≤ R.cells; omega, by show slots + ms ≤ R.slots; omega⟩
    · have hk2 := k v σ1 r σ' ho G base b L xs l p e R s m args below meth c H1 locs1 (cells + mc) (slots + ms) ls Q hC hf hlo (by omega) (by omega) hL hW1 (by rw [hKv]; omega) hS1 (fun H2 locs2 cells2 slots2 pc2 ls2 h1 h2 => kret H2 locs2 cells2 slots2 pc2 ls2 (by omega) (by omega))
      cases hem : emN v <;> rw [hem] at hk2 <;> exact hk2
theorem xs_callv {kk ci nn : Nat} {T : u_T} {NF : Nat} (hd : decode M.2.1 pc = .ok (.invokevirtual idx, 3)) (hn : pc + 3 = n) (hok : xm_ok N na) (hw : Cond.methodLink M.1.cls idx N.1 ∈ xm_tb) (hin : Cond.instanceMethod N.1 ∈ xm_tb) (hse : Cond.selects N.1.cls N.1 N.1 ∈ xm_tb) (hR : N.2.2.2.2.1 + 1 ≤ M.2.2.2.2.1 ∧ 8 + (N.2.2.1 + 11) + N.2.2.2.2.2 ≤ M.2.2.2.2.2) (As : List Value) (rest : List Value) (hstk : stk = As.reverse ++ .ref kk :: rest) (hla : As.length = na) (hlen : (lg_sl (.ref kk :: As)).length ≤ N.2.2.1) (he : xm_en N.2.2.1 (.ref kk :: As) = lv0) (hrest : (rest.map fun v => v.category).sum ≤ 8) (hb : bc' + mc ≤ bc ∧ bs' + ms ≤ bs) (hKm : ∀ q, oN = some q → (sg q.2).1 = (sg σ).1 + mc) (hN : xs_ emN sg N 0 lv0 [] σ mc ms oN) (hk : xm_is (sg σ) kk ci nn) (hc13 : ci < 13) (hcl : vwCl[ci]? = some (N.1.cls, T, NF)) (k : ∀ (v : αN) (σ1 : S), xs_ em sg M n lv ((emN v).toList ++ rest) σ1 bc' bs' ((F (v, σ1)).bind f)) : xs_ em sg M pc lv stk σ bc bs ((oN.bind F).bind f) := by
  subst hn
  intro r σ' ho G base b L xs l p e R s m args below meth c H locs cells slots ls Q hC hf hlo hc hs hL hW hz hS kret
  cases hoN : oN with
  | none => rw [hoN] at ho; cases ho
  | some q =>
    obtain ⟨v, σ1⟩ := q
    rw [hoN] at ho
    have hM := xm_met hok hN he hlen hoN G base b L xs l
    have hKv := hKm _ hoN
    obtain ⟨hx, hbb, hrt, hml, hown, hts, hlk, hnm, hK, hbs, hX, hbl, hNw⟩ := id hC
    intro T0 hT0 X0
    have hsz := xm_size X0 hT0 hW hz hbs
    refine (?_ : W p l e R s m args below meth c H locs cells slots Q (F0 m pc ls (stk.map (xm_r base b)))) T0 hT0 X0
    refine xm_after (G := G) (base := base) (b := b) (v := emN v) (σ' := sg σ1) (mc := mc) (ms := ms) (rest := rest.map (xm_r base b)) (a := (Value.ref (base + kk) :: As.map (xm_r base b)).toArray) ?_ hS (fun H1 locs1 hW1 hS1 => ?_)
    · exact va_runV (As := As.map (xm_r base b)) (rest := rest.map (xm_r base b)) ⟨hx, hbb, hml, hown, hts⟩ hM ⟨callB_of na hts (xm_goodin hok.2.1) rfl rfl rfl (hts _ hok.2.2.1) (hts _ hw) hok.2.2.2 ⟨Nat.le_trans hR.1 hf, Nat.le_trans hR.2 hlo⟩, hts _ hin, hts _ hse⟩ ⟨xm_blind, va_recv hK hW hcl (xm_atob hc13 hk), fun U hU hWm => ⟨rfl, by rw [hU]; exact hsz, by rw [hU]; exact hW, va_K.moved hWm.alike hK, by rw [hU]; exact (hX.kept (hS.2.1 b (Nat.lt_of_lt_of_le hbl hbs) (Nat.not_le.mpr hbl))).moved hWm.alike, hbl, hNw.moved hWm⟩⟩ rfl (by rw [List.length_map]; exact hla) hL.size (by subst hstk; simp [xm_r]) (by show 2 * 0 + _ ≤ 8; rw [xm_cats]; omega) hd ⟨by show cells + mc ≤ R.cells; omega, by show slots + ms ≤ R.slots; omega⟩
    · have hk2 := k v σ1 r σ' ho G base b L xs l p e R s m args below meth c H1 locs1 (cells + mc) (slots + ms) ls Q hC hf hlo (by omega) (by omega) hL hW1 (by rw [hKv]; omega) hS1 (fun H2 locs2 cells2 slots2 pc2 ls2 h1 h2 => kret H2 locs2 cells2 slots2 pc2 ls2 (by omega) (by omega))
      cases hem : emN v <;> rw [hem] at hk2 <;> exact hk2
theorem xs_callc {kk : Nat} (hd : decode M.2.1 pc = .ok (.invokespecial idx, 3)) (hn : pc + 3 = n) (hok : xm_ok N na) (hw : Cond.methodLink M.1.cls idx N.1 ∈ xm_tb) (hin : Cond.instanceMethod N.1 ∈ xm_tb) (hname : N.1.name = "<init>") (hret : N.2.2.2.1 = none) (hR : N.2.2.2.2.1 + 1 ≤ M.2.2.2.2.1 ∧ 8 + (N.2.2.1 + 11) + N.2.2.2.2.2 ≤ M.2.2.2.2.2) (As : List Value) (rest : List Value) (hstk : stk = As.reverse ++ .ref kk :: rest) (hla : As.length = na) (hlen : (lg_sl (.ref kk :: As)).length ≤ N.2.2.1) (he : xm_en N.2.2.1 (.ref kk :: As) = lv0) (hrest : (rest.map fun v => v.category).sum ≤ 8) (hb : bc' + mc ≤ bc ∧ bs' + ms ≤ bs) (hKm : ∀ q, oN = some q → (sg q.2).1 = (sg σ).1 + mc) (hN : xs_ emN sg N 0 lv0 [] σ mc ms oN) (k : ∀ (v : αN) (σ1 : S), xs_ em sg M n lv ((emN v).toList ++ rest) σ1 bc' bs' ((F (v, σ1)).bind f)) : xs_ em sg M pc lv stk σ bc bs ((oN.bind F).bind f) := by
  subst hn
  intro r σ' ho G base b L xs l p e R s m args below meth c H locs cells slots ls Q hC hf hlo hc hs hL hW hz hS kret
  cases hoN : oN with
  | none => rw [hoN] at ho; cases ho
  | some q =>
    obtain ⟨v, σ1⟩ := q
    rw [hoN] at ho
    have hM := xm_met hok hN he hlen hoN G base b L xs l
    have hKv := hKm _ hoN
    obtain ⟨hx, hbb, hrt, hml, hown, hts, hlk, hnm, hK, hbs, hX, hbl, hNw⟩ := id hC
    intro T0 hT0 X0
    have hsz := xm_size X0 hT0 hW hz hbs
    refine (?_ : W p l e R s m args below meth c H locs cells slots Q (F0 m pc ls (stk.map (xm_r base b)))) T0 hT0 X0
    refine xm_after (G := G) (base := base) (b := b) (v := emN v) (σ' := sg σ1) (mc := mc) (ms := ms) (rest := rest.map (xm_r base b)) (a := (Value.ref (base + kk) :: As.map (xm_r base b)).toArray) ?_ hS (fun H1 locs1 hW1 hS1 => ?_)
    · exact va_runI (As := As.map (xm_r base b)) (rest := rest.map (xm_r base b)) ⟨hx, hbb, hml, hown, hts⟩ hM ⟨callB_of na hts (xm_goodin hok.2.1) (by rw [xm_wsM, hret]) rfl rfl (hts _ hok.2.2.1) (hts _ hw) hok.2.2.2 ⟨Nat.le_trans hR.1 hf, Nat.le_trans hR.2 hlo⟩, hname, hts _ hin⟩ ⟨xm_blind, fun U hU hWm => ⟨rfl, by rw [hU]; exact hsz, by rw [hU]; exact hW, va_K.moved hWm.alike hK, by rw [hU]; exact (hX.kept (hS.2.1 b (Nat.lt_of_lt_of_le hbl hbs) (Nat.not_le.mpr hbl))).moved hWm.alike, hbl, hNw.moved hWm⟩⟩ rfl (by rw [List.length_map]; exact hla) hL.size (by subst hstk; simp [xm_r]) (by show 2 * 0 + _ ≤ 8; rw [xm_cats]; omega) hd ⟨by show cells + mc ≤ R.cells; omega, by show slots + ms ≤ R.slots; omega⟩
    · have hk2 := k v σ1 r σ' ho G base b L xs l p e R s m args below meth c H1 locs1 (cells + mc) (slots + ms) ls Q hC hf hlo (by omega) (by omega) hL hW1 (by rw [hKv]; omega) hS1 (fun H2 locs2 cells2 slots2 pc2 ls2 h1 h2 => kret H2 locs2 cells2 slots2 pc2 ls2 (by omega) (by omega))
      cases hem : emN v <;> rw [hem] at hk2 <;> exact hk2
theorem xs_callcn {kk : Nat} {host : String} (hd : decode M.2.1 pc = .ok (.invokespecial idx, 3)) (hn : pc + 3 = n) (hok : xm_ok N na) (hw : Cond.methodLinkNest M.1.cls idx N.1 host ∈ lw_tbl) (hin : Cond.instanceMethod N.1 ∈ xm_tb) (hname : N.1.name = "<init>") (hret : N.2.2.2.1 = none) (hR : N.2.2.2.2.1 + 1 ≤ M.2.2.2.2.1 ∧ 8 + (N.2.2.1 + 11) + N.2.2.2.2.2 ≤ M.2.2.2.2.2) (As : List Value) (rest : List Value) (hstk : stk = As.reverse ++ .ref kk :: rest) (hla : As.length = na) (hlen : (lg_sl (.ref kk :: As)).length ≤ N.2.2.1) (he : xm_en N.2.2.1 (.ref kk :: As) = lv0) (hrest : (rest.map fun v => v.category).sum ≤ 8) (hb : bc' + mc ≤ bc ∧ bs' + ms ≤ bs) (hKm : ∀ q, oN = some q → (sg q.2).1 = (sg σ).1 + mc) (hN : xs_ emN sg N 0 lv0 [] σ mc ms oN) (k : ∀ (v : αN) (σ1 : S), xs_ em sg M n lv ((emN v).toList ++ rest) σ1 bc' bs' ((F (v, σ1)).bind f)) : xs_ em sg M pc lv stk σ bc bs ((oN.bind F).bind f) := by
  subst hn
  intro r σ' ho G base b L xs l p e R s m args below meth c H locs cells slots ls Q hC hf hlo hc hs hL hW hz hS kret
  cases hoN : oN with
  | none => rw [hoN] at ho; cases ho
  | some q =>
    obtain ⟨v, σ1⟩ := q
    rw [hoN] at ho
    have hM := xm_met hok hN he hlen hoN G base b L xs l
    have hKv := hKm _ hoN
    obtain ⟨hx, hbb, hrt, hml, hown, hts, hlk, hnm, hK, hbs, hX, hbl, hNw⟩ := id hC
    intro T0 hT0 X0
    have hsz := xm_size X0 hT0 hW hz hbs
    refine (?_ : W p l e R s m args below meth c H locs cells slots Q (F0 m pc ls (stk.map (xm_r base b)))) T0 hT0 X0
    refine xm_after (G := G) (base := base) (b := b) (v := emN v) (σ' := sg σ1) (mc := mc) (ms := ms) (rest := rest.map (xm_r base b)) (a := (Value.ref (base + kk) :: As.map (xm_r base b)).toArray) ?_ hS (fun H1 locs1 hW1 hS1 => ?_)
    · exact va_runIN (As := As.map (xm_r base b)) (rest := rest.map (xm_r base b)) ⟨hx, hbb, hml, hown, hts⟩ hM ⟨va_cnB na hts (xm_goodin hok.2.1) (by rw [xm_wsM, hret]) rfl rfl (hNw.1 _ _ _ _ hw) (hts _ hok.2.2.1) hok.2.2.2 ⟨Nat.le_trans hR.1 hf, Nat.le_trans hR.2 hlo⟩, hname, hts _ hin⟩ ⟨xm_blind, fun U hU hWm => ⟨rfl, by rw [hU]; exact hsz, by rw [hU]; exact hW, va_K.moved hWm.alike hK, by rw [hU]; exact (hX.kept (hS.2.1 b (Nat.lt_of_lt_of_le hbl hbs) (Nat.not_le.mpr hbl))).moved hWm.alike, hbl, hNw.moved hWm⟩⟩ rfl (by rw [List.length_map]; exact hla) hL.size (by subst hstk; simp [xm_r]) (by show 2 * 0 + _ ≤ 8; rw [xm_cats]; omega) hd ⟨by show cells + mc ≤ R.cells; omega, by show slots + ms ≤ R.slots; omega⟩
    · have hk2 := k v σ1 r σ' ho G base b L xs l p e R s m args below meth c H1 locs1 (cells + mc) (slots + ms) ls Q hC hf hlo (by omega) (by omega) hL hW1 (by rw [hKv]; omega) hS1 (fun H2 locs2 cells2 slots2 pc2 ls2 h1 h2 => kret H2 locs2 cells2 slots2 pc2 ls2 (by omega) (by omega))
      cases hem : emN v <;> rw [hem] at hk2 <;> exact hk2
theorem tb_oin : Cond.instanceMethod objectInit ∈ xm_tb := by decide +kernel
theorem tb_oco : Cond.code objectInit ⟨#[0xb1]⟩ 1 none ∈ xm_tb := by decide +kernel
theorem xs_oinit {kk : Nat} {o : Option (α × S)} (hd : decode M.2.1 pc = .ok (.invokespecial idx, 3)) (hn : pc + 3 = n) (hw : Cond.methodLink M.1.cls idx objectInit ∈ xm_tb) (hR : 1 ≤ M.2.2.2.2.1 ∧ (rest.map fun v => v.category).sum + 12 ≤ M.2.2.2.2.2) (k : xs_ em sg M n lv rest σ bc bs o) : xs_ em sg M pc lv (.ref kk :: rest) σ bc bs o := by
  subst hn
  intro r σ' ho G base b L xs l p e R s m args below meth c H locs cells slots ls Q hC hf hlo hc hs hL hW hz hS kret
  refine W.objInit hC.1 hC.2.1 hC.2.2.2.2.1 (hC.2.2.2.2.2.1 _ hw) (hC.2.2.2.2.2.1 _ tb_oin) (hC.2.2.2.2.2.1 _ tb_oco) (g := F0 m pc ls ((Value.ref kk :: rest).map (xm_r base b))) rfl (by show ls.size = _; rw [hL.size]; exact hC.2.2.2.1.symm) rfl hd (Nat.le_trans hR.1 hf) (by show 2 * 0 + _ + 12 ≤ _; rw [xm_cats]; omega) ?_
  exact k r σ' ho G base b L xs l p e R s m args below meth c H locs cells slots ls Q hC hf hlo hc hs hL hW hz hS kret
end XR_
end
section
/-! making objects and arrays -/
def xm_nw (σ : xm_S) (kd n : Nat) : xm_S := (σ.1 + 1, xm_u1 σ.2.1 σ.1 (kd, n), xm_u1 σ.2.2.1 σ.1 (fun _ => none), xm_u1 σ.2.2.2.1 σ.1 (fun _ => 0), xm_u1 σ.2.2.2.2 σ.1 (fun _ => 0))
theorem xm_push {G : xm_G} {base : Nat} {σ : xm_S} {kd n : Nat} {e : va_E} (he : xm_ent G base (xm_nw σ kd n) σ.1 = e) : xm_ws G base σ ++ [(base + σ.1, e)] = xm_ws G base (xm_nw σ kd n) := by
  unfold xm_ws
  show _ = List.map _ (List.range (σ.1 + 1))
  rw [List.range_succ, List.map_append, List.map_cons, List.map_nil, he]
  congr 1
  refine List.map_congr_left (fun k hk => ?_)
  have hne : k ≠ σ.1 := Nat.ne_of_lt (List.mem_range.mp hk)
  rw [xm_ent_congr (σ' := xm_nw σ kd n) (xm_u1_ne hne) (xm_u1_ne hne) (xm_u1_ne hne) (xm_u1_ne hne)]
theorem xm_fresh {G : xm_G} {base q : Nat} {σ : xm_S} {e : va_E} {H : Heap} (hD : va_D (fun q => base ≤ q) (xm_ws G base σ ++ [(q, e)])) (hP : va_P G.1 vwCl (xm_ws G base σ ++ [(q, e)]) H) (hz : H.size ≤ base + σ.1 + 1) : q = base + σ.1 := by
  have hl : (xm_ws G base σ).length = σ.1 := by simp [xm_ws]
  have h1 : (xm_ws G base σ ++ [(q, e)])[σ.1]? = some (q, e) := by
    rw [List.getElem?_append_right (by omega), hl]; simp
  have h2 := (hP _ _ h1).lt
  have h3 : base ≤ q := hD.2 _ _ h1
  dsimp only at h2
  by_cases hq : q = base + σ.1
  · exact hq
  · have hlt : q - base < σ.1 := by omega
    have h4 : (xm_ws G base σ ++ [(q, e)])[q - base]? = some (base + (q - base), xm_ent G base σ (q - base)) := by
      rw [List.getElem?_append_left (by omega)]
      exact xm_ws_at hlt
    have := hD.1 _ _ _ _ h4 h1 (by show base + (q - base) = q; omega)
    omega
def xm_fd (ci : Nat) (N : Nat) (ty : Nat → FieldType) : Prop := ∀ j, j < N → (xm_ft ci)[j]? = some (xm_tk (ty j)) ∧ xm_tk (ty j) ≠ 9
theorem xm_dflt {base : Nat} {σ : xm_S} {ci n N : Nat} {ty : Nat → FieldType} (h : xm_fd ci N ty) (j : Nat) (hj : j < N) : defaultValue (ty j) = vp_V ((xm_ft ci).mapIdx (fun j t => xm_val base (xm_nw σ ci n) σ.1 j t)) j := by
  obtain ⟨h1, h2⟩ := h j hj
  unfold vp_V
  rw [List.getD_eq_getElem?_getD, List.getElem?_mapIdx, h1]
  show _ = xm_val base (xm_nw σ ci n) σ.1 j (xm_tk (ty j))
  cases hq : ty j <;> rw [hq] at h2 <;> first | (exact absurd rfl h2) | (simp [xm_tk, xm_val, xm_nw, xm_u1, defaultValue, va_rf])
section XR_
variable {α S : Type} {em : α → Option Value} {sg : S → xm_S} {M : xm_M} {pc n idx bc bs bc' bs' : Nat} {lv : List (Option Value)} {st : List Value} {σ σ1 : S} {o : Option (α × S)}
theorem xs_new {ci N : Nat} {C : String} {T : u_T} {ty : Nat → FieldType} (hd : decode M.2.1 pc = .ok (.new idx, 3)) (hn : pc + 3 = n) (hw : Cond.classLink M.1.cls idx C ∈ xm_tb) (hinst : Cond.instantiable C N ∈ xm_tb) (hini : Cond.initialized C ∈ xm_tb) (hcl : xm_cl ci C T N ty) (hfd : xm_fd ci N ty) (h1 : sg σ1 = xm_nw (sg σ) ci 0) (hb : bc' + 1 ≤ bc ∧ bs' + N ≤ bs) (k : xs_ em sg M n lv (.ref (sg σ).1 :: st) σ1 bc' bs' o) : xs_ em sg M pc lv st σ bc bs o := by
  subst hn
  intro r σ' ho G base b L xs l p e R s m args below meth c H locs cells slots ls Q hC hf hlo hc hs hL hW hz hS kret
  refine va_new (ci := ci) (fs := (xm_ft ci).mapIdx (fun j t => xm_val base (xm_nw (sg σ) ci 0) (sg σ).1 j t)) hC.1 hC.2.1 hC.2.2.2.2.2.1 hcl.2.1 ty hcl.2.2.2.1 hC.2.2.2.2.1 (hC.2.2.2.2.2.1 _ hw) (hC.2.2.2.2.2.1 _ hinst) (hC.2.2.2.2.2.1 _ hini) hC.2.2.2.2.2.2.2.2.1 hW xm_D hS (fun q hq => Nat.le_trans hC.2.2.2.2.2.2.2.2.2.1 hq) hcl.1 (fun j hj => xm_dflt hfd j hj) (by omega) (by omega) hd (fun q H1 hP1 hD1 hS1 => ?_)
  intro T0 hT0 X0
  have hz1 : H1.size ≤ base + (sg σ).1 + 1 := by
    have : T0.heap.size ≤ s.heap.size + (cells + 1) := X0.same.2.2.1
    rw [hT0] at this
    omega
  have hq := xm_fresh hD1 hP1 hz1
  subst hq
  rw [xm_push (n := 0) (xm_ent_ob hcl.2.2.1 (by show xm_u1 _ _ _ _ = _; rw [xm_u1_eq]))] at hP1
  exact k r σ' ho G base b L xs l p e R s m args below meth c H1 locs (cells + 1) (slots + N) ls Q hC hf hlo (by omega) (by omega) hL (by rw [h1]; exact hP1) (by rw [h1]; show _ = base + ((sg σ).1 + 1); omega) hS1 (fun H2 locs2 cells2 slots2 pc2 ls2 h1 h2 => kret H2 locs2 cells2 slots2 pc2 ls2 (by omega) (by omega)) T0 hT0 X0
theorem tb_ar13 : Cond.arrayClass (newarray.typeOf .int) ∈ xm_tb := by decide +kernel
theorem xs_newa13 {nn : Int32} {N : Nat} (hd : decode M.2.1 pc = .ok (.newarray .int, 2)) (hn : pc + 2 = n) (h0 : ¬ nn < 0) (hN : nn.toNatClampNeg = N) (hby : N * componentBytes (newarray.typeOf .int) ≤ 536870912) (h1 : sg σ1 = xm_nw (sg σ) 13 N) (hb : bc' + 1 ≤ bc ∧ bs' + N ≤ bs) (k : xs_ em sg M n lv (.ref (sg σ).1 :: st) σ1 bc' bs' o) : xs_ em sg M pc lv (.int nn :: st) σ bc bs o := by
  subst hn
  intro r σ' ho G base b L xs l p e R s m args below meth c H locs cells slots ls Q hC hf hlo hc hs hL hW hz hS kret
  refine va_newa (a0 := (N, .inl (fun _ => 0))) hC.1 hC.2.1 (hC.2.2.2.2.2.1 _ tb_ar13) rfl hC.2.2.2.2.2.2.2.2.1 hW xm_D hS (fun q hq => Nat.le_trans hC.2.2.2.2.2.2.2.2.2.1 hq) (fun cA => rfl) h0 hN hby (by omega) (by omega) hd (fun q cA H1 hK1 hP1 hD1 hS1 => ?_)
  have hcA : cA = G.2.1 := by
    have e1 := (hK1.2 5 (cA, .int) rfl).2
    have e2 := (hC.2.2.2.2.2.2.2.2.1.2 0 (G.2.1, .int) rfl).2
    exact Option.some.inj ((show s.vm.findClass _ = some cA from e1).symm.trans (show s.vm.findClass _ = some _ from e2))
  subst hcA
  intro T0 hT0 X0
  have hz1 : H1.size ≤ base + (sg σ).1 + 1 := by
    have : T0.heap.size ≤ s.heap.size + (cells + 1) := X0.same.2.2.1
    rw [hT0] at this
    omega
  have hq := xm_fresh hD1 hP1 hz1
  subst hq
  rw [xm_push (kd := 13) (n := N) (by simp [xm_ent, xm_nw, xm_u1])] at hP1
  exact k r σ' ho G base b L xs l p e R s m args below meth c H1 locs (cells + 1) (slots + N) ls Q hC hf hlo (by omega) (by omega) hL (by rw [h1]; exact hP1) (by rw [h1]; show _ = base + ((sg σ).1 + 1); omega) hS1 (fun H2 locs2 cells2 slots2 pc2 ls2 h1 h2 => kret H2 locs2 cells2 slots2 pc2 ls2 (by omega) (by omega)) T0 hT0 X0
theorem tb_ar14 : Cond.arrayClass (newarray.typeOf .long) ∈ xm_tb := by decide +kernel
theorem xs_newa14 {nn : Int32} {N : Nat} (hd : decode M.2.1 pc = .ok (.newarray .long, 2)) (hn : pc + 2 = n) (h0 : ¬ nn < 0) (hN : nn.toNatClampNeg = N) (hby : N * componentBytes (newarray.typeOf .long) ≤ 536870912) (h1 : sg σ1 = xm_nw (sg σ) 14 N) (hb : bc' + 1 ≤ bc ∧ bs' + N ≤ bs) (k : xs_ em sg M n lv (.ref (sg σ).1 :: st) σ1 bc' bs' o) : xs_ em sg M pc lv (.int nn :: st) σ bc bs o := by
  subst hn
  intro r σ' ho G base b L xs l p e R s m args below meth c H locs cells slots ls Q hC hf hlo hc hs hL hW hz hS kret
  refine va_newa (a0 := (N, .inr (.inl (fun _ => 0)))) hC.1 hC.2.1 (hC.2.2.2.2.2.1 _ tb_ar14) rfl hC.2.2.2.2.2.2.2.2.1 hW xm_D hS (fun q hq => Nat.le_trans hC.2.2.2.2.2.2.2.2.2.1 hq) (fun cA => rfl) h0 hN hby (by omega) (by omega) hd (fun q cA H1 hK1 hP1 hD1 hS1 => ?_)
  have hcA : cA = G.2.2.1 := by
    have e1 := (hK1.2 5 (cA, .long) rfl).2
    have e2 := (hC.2.2.2.2.2.2.2.2.1.2 1 (G.2.2.1, .long) rfl).2
    exact Option.some.inj ((show s.vm.findClass _ = some cA from e1).symm.trans (show s.vm.findClass _ = some _ from e2))
  subst hcA
  intro T0 hT0 X0
  have hz1 : H1.size ≤ base + (sg σ).1 + 1 := by
    have : T0.heap.size ≤ s.heap.size + (cells + 1) := X0.same.2.2.1
    rw [hT0] at this
    omega
  have hq := xm_fresh hD1 hP1 hz1
  subst hq
  rw [xm_push (kd := 14) (n := N) (by simp [xm_ent, xm_nw, xm_u1])] at hP1
  exact k r σ' ho G base b L xs l p e R s m args below meth c H1 locs (cells + 1) (slots + N) ls Q hC hf hlo (by omega) (by omega) hL (by rw [h1]; exact hP1) (by rw [h1]; show _ = base + ((sg σ).1 + 1); omega) hS1 (fun H2 locs2 cells2 slots2 pc2 ls2 h1 h2 => kret H2 locs2 cells2 slots2 pc2 ls2 (by omega) (by omega)) T0 hT0 X0
theorem tb_ar15 : Cond.arrayClass (newarray.typeOf .boolean) ∈ xm_tb := by decide +kernel
theorem xs_newa15 {nn : Int32} {N : Nat} (hd : decode M.2.1 pc = .ok (.newarray .boolean, 2)) (hn : pc + 2 = n) (h0 : ¬ nn < 0) (hN : nn.toNatClampNeg = N) (hby : N * componentBytes (newarray.typeOf .boolean) ≤ 536870912) (h1 : sg σ1 = xm_nw (sg σ) 15 N) (hb : bc' + 1 ≤ bc ∧ bs' + N ≤ bs) (k : xs_ em sg M n lv (.ref (sg σ).1 :: st) σ1 bc' bs' o) : xs_ em sg M pc lv (.int nn :: st) σ bc bs o := by
  subst hn
  intro r σ' ho G base b L xs l p e R s m args below meth c H locs cells slots ls Q hC hf hlo hc hs hL hW hz hS kret
  refine va_newa (a0 := (N, .inl (fun _ => 0))) hC.1 hC.2.1 (hC.2.2.2.2.2.1 _ tb_ar15) rfl hC.2.2.2.2.2.2.2.2.1 hW xm_D hS (fun q hq => Nat.le_trans hC.2.2.2.2.2.2.2.2.2.1 hq) (fun cA => rfl) h0 hN hby (by omega) (by omega) hd (fun q cA H1 hK1 hP1 hD1 hS1 => ?_)
  have hcA : cA = G.2.2.2.1 := by
    have e1 := (hK1.2 5 (cA, .boolean) rfl).2
    have e2 := (hC.2.2.2.2.2.2.2.2.1.2 2 (G.2.2.2.1, .boolean) rfl).2
    exact Option.some.inj ((show s.vm.findClass _ = some cA from e1).symm.trans (show s.vm.findClass _ = some _ from e2))
  subst hcA
  intro T0 hT0 X0
  have hz1 : H1.size ≤ base + (sg σ).1 + 1 := by
    have : T0.heap.size ≤ s.heap.size + (cells + 1) := X0.same.2.2.1
    rw [hT0] at this
    omega
  have hq := xm_fresh hD1 hP1 hz1
  subst hq
  rw [xm_push (kd := 15) (n := N) (by simp [xm_ent, xm_nw, xm_u1])] at hP1
  exact k r σ' ho G base b L xs l p e R s m args below meth c H1 locs (cells + 1) (slots + N) ls Q hC hf hlo (by omega) (by omega) hL (by rw [h1]; exact hP1) (by rw [h1]; show _ = base + ((sg σ).1 + 1); omega) hS1 (fun H2 locs2 cells2 slots2 pc2 ls2 h1 h2 => kret H2 locs2 cells2 slots2 pc2 ls2 (by omega) (by omega)) T0 hT0 X0
theorem xs_newq16 {nn : Int32} {N : Nat} (hd : decode M.2.1 pc = .ok (.anewarray idx, 3)) (hn : pc + 3 = n) (hw : Cond.classLink M.1.cls idx RX0 ∈ xm_tb) (h0 : ¬ nn < 0) (hN : nn.toNatClampNeg = N) (hby : N * 4 ≤ 536870912) (h1 : sg σ1 = xm_nw (sg σ) 16 N) (hb : bc' + 1 ≤ bc ∧ bs' + N ≤ bs) (k : xs_ em sg M n lv (.ref (sg σ).1 :: st) σ1 bc' bs' o) : xs_ em sg M pc lv (.int nn :: st) σ bc bs o := by
  subst hn
  intro r σ' ho G base b L xs l p e R s m args below meth c H locs cells slots ls Q hC hf hlo hc hs hL hW hz hS kret
  refine va_newq hC.1 hC.2.1 hC.2.2.2.2.1 (hC.2.2.2.2.2.1 _ hw) hC.2.2.2.2.2.2.2.2.2.2.2.2.2.1 hC.2.2.2.2.2.2.2.2.1 hW xm_D hS (fun q hq => Nat.le_trans hC.2.2.2.2.2.2.2.2.2.1 hq) h0 hN hby (by omega) (by omega) hd (fun q cA H1 hK1 hP1 hD1 hS1 => ?_)
  have hcA : cA = G.2.2.2.2.1 := by
    obtain ⟨_, _, _, _, _, e1⟩ := (hK1.2 5 (cA, .object RX0) rfl).2
    obtain ⟨_, _, _, _, _, e2⟩ := (hC.2.2.2.2.2.2.2.2.1.2 3 (G.2.2.2.2.1, .object RX0) rfl).2
    exact Option.some.inj (e1.symm.trans e2)
  subst hcA
  intro T0 hT0 X0
  have hz1 : H1.size ≤ base + (sg σ).1 + 1 := by
    have : T0.heap.size ≤ s.heap.size + (cells + 1) := X0.same.2.2.1
    rw [hT0] at this
    omega
  have hq := xm_fresh hD1 hP1 hz1
  subst hq
  rw [xm_push (kd := 16) (n := N) (by simp [xm_ent, xm_nw, xm_u1])] at hP1
  exact k r σ' ho G base b L xs l p e R s m args below meth c H1 locs (cells + 1) (slots + N) ls Q hC hf hlo (by omega) (by omega) hL (by rw [h1]; exact hP1) (by rw [h1]; show _ = base + ((sg σ).1 + 1); omega) hS1 (fun H2 locs2 cells2 slots2 pc2 ls2 h1 h2 => kret H2 locs2 cells2 slots2 pc2 ls2 (by omega) (by omega)) T0 hT0 X0
theorem xs_newq17 {nn : Int32} {N : Nat} (hd : decode M.2.1 pc = .ok (.anewarray idx, 3)) (hn : pc + 3 = n) (hw : Cond.classLink M.1.cls idx RX1 ∈ xm_tb) (h0 : ¬ nn < 0) (hN : nn.toNatClampNeg = N) (hby : N * 4 ≤ 536870912) (h1 : sg σ1 = xm_nw (sg σ) 17 N) (hb : bc' + 1 ≤ bc ∧ bs' + N ≤ bs) (k : xs_ em sg M n lv (.ref (sg σ).1 :: st) σ1 bc' bs' o) : xs_ em sg M pc lv (.int nn :: st) σ bc bs o := by
  subst hn
  intro r σ' ho G base b L xs l p e R s m args below meth c H locs cells slots ls Q hC hf hlo hc hs hL hW hz hS kret
  refine va_newq hC.1 hC.2.1 hC.2.2.2.2.1 (hC.2.2.2.2.2.1 _ hw) hC.2.2.2.2.2.2.2.2.2.2.2.2.2.2 hC.2.2.2.2.2.2.2.2.1 hW xm_D hS (fun q hq => Nat.le_trans hC.2.2.2.2.2.2.2.2.2.1 hq) h0 hN hby (by omega) (by omega) hd (fun q cA H1 hK1 hP1 hD1 hS1 => ?_)
  have hcA : cA = G.2.2.2.2.2 := by
    obtain ⟨_, _, _, _, _, e1⟩ := (hK1.2 5 (cA, .object RX1) rfl).2
    obtain ⟨_, _, _, _, _, e2⟩ := (hC.2.2.2.2.2.2.2.2.1.2 4 (G.2.2.2.2.2, .object RX1) rfl).2
    exact Option.some.inj (e1.symm.trans e2)
  subst hcA
  intro T0 hT0 X0
  have hz1 : H1.size ≤ base + (sg σ).1 + 1 := by
    have : T0.heap.size ≤ s.heap.size + (cells + 1) := X0.same.2.2.1
    rw [hT0] at this
    omega
  have hq := xm_fresh hD1 hP1 hz1
  subst hq
  rw [xm_push (kd := 17) (n := N) (by simp [xm_ent, xm_nw, xm_u1])] at hP1
  exact k r σ' ho G base b L xs l p e R s m args below meth c H1 locs (cells + 1) (slots + N) ls Q hC hf hlo (by omega) (by omega) hL (by rw [h1]; exact hP1) (by rw [h1]; show _ = base + ((sg σ).1 + 1); omega) hS1 (fun H2 locs2 cells2 slots2 pc2 ls2 h1 h2 => kret H2 locs2 cells2 slots2 pc2 ls2 (by omega) (by omega)) T0 hT0 X0
end XR_
end
section
/-! the cells as they lie behind the two constructors -/
def sl_sh : List (Nat × Nat) := [(11,0), (7,0), (17,5), (1,0), (16,6), (16,3), (6,0), (14,512), (14,3), (0,0), (13,3), (0,0), (13,3), (0,0), (13,3), (0,0), (13,3), (0,0), (13,3), (0,0), (13,3), (0,0), (13,3), (0,0), (13,3), (0,0), (13,3), (1,0), (16,6), (16,3), (6,0), (14,512), (14,3), (0,0), (13,3), (0,0), (13,3), (0,0), (13,3), (0,0), (13,3), (0,0), (13,3), (0,0), (13,3), (0,0), (13,3), (0,0), (13,3), (0,0), (13,3), (1,0), (16,6), (16,3), (6,0), (14,512), (14,3), (0,0), (13,3), (0,0), (13,3), (0,0), (13,3), (0,0), (13,3), (0,0), (13,3), (0,0), (13,3), (0,0), (13,3), (0,0), (13,3), (0,0), (13,3), (1,0), (16,6), (16,3), (6,0), (14,512), (14,3), (0,0), (13,3), (0,0), (13,3), (0,0), (13,3), (0,0), (13,3), (0,0), (13,3), (0,0), (13,3), (0,0), (13,3), (0,0), (13,3), (0,0), (13,3), (1,0), (16,6), (16,3), (6,0), (14,512), (14,3), (0,0), (13,3), (0,0), (13,3), (0,0), (13,3), (0,0), (13,3), (0,0), (13,3), (0,0), (13,3), (0,0), (13,3), (0,0), (13,3), (0,0), (13,3), (14,3), (4,0), (14,3), (14,3), (2,0), (14,6), (2,0), (14,6), (8,0), (2,0), (14,6), (2,0), (14,6), (9,0), (14,48), (14,4), (5,0), (10,0), (13,3), (13,15), (13,5), (13,3), (13,3), (3,0), (14,40), (14,1000), (13,2048), (12,0), (13,5), (13,120), (13,60), (14,3), (14,6), (15,6), (14,6), (15,6), (14,48), (14,3), (13,15), (13,3), (13,5), (15,5), (14,30003), (13,32768), (14,3), (14,3), (14,6), (15,6), (14,6), (15,6), (13,40), (13,40), (13,40), (13,1001), (13,1001), (13,1001), (13,16), (13,16), (14,3), (13,3)]
def sl_rf : List (List (Option Nat)) := [[some 1, some 123, some 124, some 127, some 129, some 131, some 136, some 139, some 145, some 146], [some 2, none, none], [some 3, some 27, some 51, some 75, some 99], [some 4, some 5, some 6, some 8, none], [some 9, some 11, some 13, some 15, some 17, some 19], [some 21, some 23, some 25], [some 7, none, none, none], [], [], [some 10, none], [], [some 12, none], [], [some 14, none], [], [some 16, none], [], [some 18, none], [], [some 20, none], [], [some 22, none], [], [some 24, none], [], [some 26, none], [], [some 28, some 29, some 30, some 32, none], [some 33, some 35, some 37, some 39, some 41, some 43], [some 45, some 47, some 49], [some 31, none, none, none], [], [], [some 34, none], [], [some 36, none], [], [some 38, none], [], [some 40, none], [], [some 42, none], [], [some 44, none], [], [some 46, none], [], [some 48, none], [], [some 50, none], [], [some 52, some 53, some 54, some 56, none], [some 57, some 59, some 61, some 63, some 65, some 67], [some 69, some 71, some 73], [some 55, none, none, none], [], [], [some 58, none], [], [some 60, none], [], [some 62, none], [], [some 64, none], [], [some 66, none], [], [some 68, none], [], [some 70, none], [], [some 72, none], [], [some 74, none], [], [some 76, some 77, some 78, some 80, none], [some 81, some 83, some 85, some 87, some 89, some 91], [some 93, some 95, some 97], [some 79, none, none, none], [], [], [some 82, none], [], [some 84, none], [], [some 86, none], [], [some 88, none], [], [some 90, none], [], [some 92, none], [], [some 94, none], [], [some 96, none], [], [some 98, none], [], [some 100, some 101, some 102, some 104, none], [some 105, some 107, some 109, some 111, some 113, some 115], [some 117, some 119, some 121], [some 103, none, none, none], [], [], [some 106, none], [], [some 108, none], [], [some 110, none], [], [some 112, none], [], [some 114, none], [], [some 116, none], [], [some 118, none], [], [some 120, none], [], [some 122, none], [], [], [some 125, some 126, none], [], [], [some 128], [], [some 130], [], [some 132, some 134], [some 133], [], [some 135], [], [some 137, none, none, some 138], [], [], [some 140, some 142, none, some 143, some 144, none, none], [some 141, none, none, none, none, none], [], [], [], [], [], [some 147, none, some 148, none, some 149, none, none, none], [], [], [], [none, none, some 151, some 152, some 153, some 154, some 155, some 156, some 157, some 158, some 159, none, some 160, none, none, none, none, none, some 161, none, some 162, none, some 163, some 164, some 165, some 166, none, some 167, some 168, some 169, some 170, some 171, some 172, some 173, some 174, some 175, none, some 176, some 177, some 178, none, none, none, none, some 179, some 180, some 181, some 182, none, none], [], [], [], [], [], [], [], [], [], [], [], [], [], [], [], [], [], [], [], [], [], [], [], [], [], [], [], [], [], [], [], []]
def sl_S (k : Nat) : Nat × Nat := sl_sh.getD k (18, 0)
def sl_R (k j : Nat) : Option Nat := (sl_rf.getD k []).getD j none
abbrev xm_Y : Type := (Nat → Nat → Int32) × (Nat → Nat → Int64)
abbrev sg_0 (μ : xm_Y) : xm_S := (183, sl_S, sl_R, μ.1, μ.2)
def w_I (μ : xm_Y) (k j : Nat) (v : Int32) : xm_Y := (xm_u2 μ.1 k j v, μ.2)
def w_J (μ : xm_Y) (k j : Nat) (v : Int64) : xm_Y := (μ.1, xm_u2 μ.2 k j v)
def cp_I (μ : xm_Y) (k0 k1 sp dp n : Nat) : xm_Y := (xm_u1 μ.1 k1 (va_cpy (μ.1 k0) (μ.1 k1) sp dp n), μ.2)
def cp_J (μ : xm_Y) (k0 k1 sp dp n : Nat) : xm_Y := (μ.1, xm_u1 μ.2 k1 (va_cpy (μ.2 k0) (μ.2 k1) sp dp n))
def xsh_ (k kd n : Nat) : Prop := k < 183 ∧ sl_S k = (kd, n)
theorem xsh_.is {k kd n : Nat} (h : xsh_ k kd n) (μ : xm_Y) : xm_is (sg_0 μ) k kd n := h
theorem sh_0 : xsh_ 0 11 0 := ⟨by decide, rfl⟩
theorem sh_1 : xsh_ 1 7 0 := ⟨by decide, rfl⟩
theorem sh_2 : xsh_ 2 17 5 := ⟨by decide, rfl⟩
theorem sh_3 : xsh_ 3 1 0 := ⟨by decide, rfl⟩
theorem sh_4 : xsh_ 4 16 6 := ⟨by decide, rfl⟩
theorem sh_5 : xsh_ 5 16 3 := ⟨by decide, rfl⟩
theorem sh_6 : xsh_ 6 6 0 := ⟨by decide, rfl⟩
theorem sh_7 : xsh_ 7 14 512 := ⟨by decide, rfl⟩
theorem sh_8 : xsh_ 8 14 3 := ⟨by decide, rfl⟩
theorem sh_9 : xsh_ 9 0 0 := ⟨by decide, rfl⟩
theorem sh_10 : xsh_ 10 13 3 := ⟨by decide, rfl⟩
theorem sh_11 : xsh_ 11 0 0 := ⟨by decide, rfl⟩
theorem sh_12 : xsh_ 12 13 3 := ⟨by decide, rfl⟩
theorem sh_13 : xsh_ 13 0 0 := ⟨by decide, rfl⟩
theorem sh_14 : xsh_ 14 13 3 := ⟨by decide, rfl⟩
theorem sh_15 : xsh_ 15 0 0 := ⟨by decide, rfl⟩
theorem sh_16 : xsh_ 16 13 3 := ⟨by decide, rfl⟩
theorem sh_17 : xsh_ 17 0 0 := ⟨by decide, rfl⟩
theorem sh_18 : xsh_ 18 13 3 := ⟨by decide, rfl⟩
theorem sh_19 : xsh_ 19 0 0 := ⟨by decide, rfl⟩
theorem sh_20 : xsh_ 20 13 3 := ⟨by decide, rfl⟩
theorem sh_21 : xsh_ 21 0 0 := ⟨by decide, rfl⟩
theorem sh_22 : xsh_ 22 13 3 := ⟨by decide, rfl⟩
theorem sh_23 : xsh_ 23 0 0 := ⟨by decide, rfl⟩
theorem sh_24 : xsh_ 24 13 3 := ⟨by decide, rfl⟩
theorem sh_25 : xsh_ 25 0 0 := ⟨by decide, rfl⟩
theorem sh_26 : xsh_ 26 13 3 := ⟨by decide, rfl⟩
theorem sh_27 : xsh_ 27 1 0 := ⟨by decide, rfl⟩
theorem sh_28 : xsh_ 28 16 6 := ⟨by decide, rfl⟩
theorem sh_29 : xsh_ 29 16 3 := ⟨by decide, rfl⟩
theorem sh_30 : xsh_ 30 6 0 := ⟨by decide, rfl⟩
theorem sh_31 : xsh_ 31 14 512 := ⟨by decide, rfl⟩
theorem sh_32 : xsh_ 32 14 3 := ⟨by decide, rfl⟩
theorem sh_33 : xsh_ 33 0 0 := ⟨by decide, rfl⟩
theorem sh_34 : xsh_ 34 13 3 := ⟨by decide, rfl⟩
theorem sh_35 : xsh_ 35 0 0 := ⟨by decide, rfl⟩
theorem sh_36 : xsh_ 36 13 3 := ⟨by decide, rfl⟩
theorem sh_37 : xsh_ 37 0 0 := ⟨by decide, rfl⟩
theorem sh_38 : xsh_ 38 13 3 := ⟨by decide, rfl⟩
theorem sh_39 : xsh_ 39 0 0 := ⟨by decide, rfl⟩
theorem sh_40 : xsh_ 40 13 3 := ⟨by decide, rfl⟩
theorem sh_41 : xsh_ 41 0 0 := ⟨by decide, rfl⟩
theorem sh_42 : xsh_ 42 13 3 := ⟨by decide, rfl⟩
theorem sh_43 : xsh_ 43 0 0 := ⟨by decide, rfl⟩
theorem sh_44 : xsh_ 44 13 3 := ⟨by decide, rfl⟩
theorem sh_45 : xsh_ 45 0 0 := ⟨by decide, rfl⟩
theorem sh_46 : xsh_ 46 13 3 := ⟨by decide, rfl⟩
theorem sh_47 : xsh_ 47 0 0 := ⟨by decide, rfl⟩
theorem sh_48 : xsh_ 48 13 3 := ⟨by decide, rfl⟩
theorem sh_49 : xsh_ 49 0 0 := ⟨by decide, rfl⟩
theorem sh_50 : xsh_ 50 13 3 := ⟨by decide, rfl⟩
theorem sh_51 : xsh_ 51 1 0 := ⟨by decide, rfl⟩
theorem sh_52 : xsh_ 52 16 6 := ⟨by decide, rfl⟩
theorem sh_53 : xsh_ 53 16 3 := ⟨by decide, rfl⟩
theorem sh_54 : xsh_ 54 6 0 := ⟨by decide, rfl⟩
theorem sh_55 : xsh_ 55 14 512 := ⟨by decide, rfl⟩
theorem sh_56 : xsh_ 56 14 3 := ⟨by decide, rfl⟩
theorem sh_57 : xsh_ 57 0 0 := ⟨by decide, rfl⟩
theorem sh_58 : xsh_ 58 13 3 := ⟨by decide, rfl⟩
theorem sh_59 : xsh_ 59 0 0 := ⟨by decide, rfl⟩
theorem sh_60 : xsh_ 60 13 3 := ⟨by decide, rfl⟩
theorem sh_61 : xsh_ 61 0 0 := ⟨by decide, rfl⟩
theorem sh_62 : xsh_ 62 13 3 := ⟨by decide, rfl⟩
theorem sh_63 : xsh_ 63 0 0 := ⟨by decide, rfl⟩
theorem sh_64 : xsh_ 64 13 3 := ⟨by decide, rfl⟩
theorem sh_65 : xsh_ 65 0 0 := ⟨by decide, rfl⟩
theorem sh_66 : xsh_ 66 13 3 := ⟨by decide, rfl⟩
theorem sh_67 : xsh_ 67 0 0 := ⟨by decide, rfl⟩
theorem sh_68 : xsh_ 68 13 3 := ⟨by decide, rfl⟩
theorem sh_69 : xsh_ 69 0 0 := ⟨by decide, rfl⟩
theorem sh_70 : xsh_ 70 13 3 := ⟨by decide, rfl⟩
theorem sh_71 : xsh_ 71 0 0 := ⟨by decide, rfl⟩
theorem sh_72 : xsh_ 72 13 3 := ⟨by decide, rfl⟩
theorem sh_73 : xsh_ 73 0 0 := ⟨by decide, rfl⟩
theorem sh_74 : xsh_ 74 13 3 := ⟨by decide, rfl⟩
theorem sh_75 : xsh_ 75 1 0 := ⟨by decide, rfl⟩
theorem sh_76 : xsh_ 76 16 6 := ⟨by decide, rfl⟩
theorem sh_77 : xsh_ 77 16 3 := ⟨by decide, rfl⟩
theorem sh_78 : xsh_ 78 6 0 := ⟨by decide, rfl⟩
theorem sh_79 : xsh_ 79 14 512 := ⟨by decide, rfl⟩
theorem sh_80 : xsh_ 80 14 3 := ⟨by decide, rfl⟩
theorem sh_81 : xsh_ 81 0 0 := ⟨by decide, rfl⟩
theorem sh_82 : xsh_ 82 13 3 := ⟨by decide, rfl⟩
theorem sh_83 : xsh_ 83 0 0 := ⟨by decide, rfl⟩
theorem sh_84 : xsh_ 84 13 3 := ⟨by decide, rfl⟩
theorem sh_85 : xsh_ 85 0 0 := ⟨by decide, rfl⟩
theorem sh_86 : xsh_ 86 13 3 := ⟨by decide, rfl⟩
theorem sh_87 : xsh_ 87 0 0 := ⟨by decide, rfl⟩
theorem sh_88 : xsh_ 88 13 3 := ⟨by decide, rfl⟩
theorem sh_89 : xsh_ 89 0 0 := ⟨by decide, rfl⟩
theorem sh_90 : xsh_ 90 13 3 := ⟨by decide, rfl⟩
theorem sh_91 : xsh_ 91 0 0 := ⟨by decide, rfl⟩
theorem sh_92 : xsh_ 92 13 3 := ⟨by decide, rfl⟩
theorem sh_93 : xsh_ 93 0 0 := ⟨by decide, rfl⟩
theorem sh_94 : xsh_ 94 13 3 := ⟨by decide, rfl⟩
theorem sh_95 : xsh_ 95 0 0 := ⟨by decide, rfl⟩
theorem sh_96 : xsh_ 96 13 3 := ⟨by decide, rfl⟩
theorem sh_97 : xsh_ 97 0 0 := ⟨by decide, rfl⟩
theorem sh_98 : xsh_ 98 13 3 := ⟨by decide, rfl⟩
theorem sh_99 : xsh_ 99 1 0 := ⟨by decide, rfl⟩
theorem sh_100 : xsh_ 100 16 6 := ⟨by decide, rfl⟩
theorem sh_101 : xsh_ 101 16 3 := ⟨by decide, rfl⟩
theorem sh_102 : xsh_ 102 6 0 := ⟨by decide, rfl⟩
theorem sh_103 : xsh_ 103 14 512 := ⟨by decide, rfl⟩
theorem sh_104 : xsh_ 104 14 3 := ⟨by decide, rfl⟩
theorem sh_105 : xsh_ 105 0 0 := ⟨by decide, rfl⟩
theorem sh_106 : xsh_ 106 13 3 := ⟨by decide, rfl⟩
theorem sh_107 : xsh_ 107 0 0 := ⟨by decide, rfl⟩
theorem sh_108 : xsh_ 108 13 3 := ⟨by decide, rfl⟩
theorem sh_109 : xsh_ 109 0 0 := ⟨by decide, rfl⟩
theorem sh_110 : xsh_ 110 13 3 := ⟨by decide, rfl⟩
theorem sh_111 : xsh_ 111 0 0 := ⟨by decide, rfl⟩
theorem sh_112 : xsh_ 112 13 3 := ⟨by decide, rfl⟩
theorem sh_113 : xsh_ 113 0 0 := ⟨by decide, rfl⟩
theorem sh_114 : xsh_ 114 13 3 := ⟨by decide, rfl⟩
theorem sh_115 : xsh_ 115 0 0 := ⟨by decide, rfl⟩
theorem sh_116 : xsh_ 116 13 3 := ⟨by decide, rfl⟩
theorem sh_117 : xsh_ 117 0 0 := ⟨by decide, rfl⟩
theorem sh_118 : xsh_ 118 13 3 := ⟨by decide, rfl⟩
theorem sh_119 : xsh_ 119 0 0 := ⟨by decide, rfl⟩
theorem sh_120 : xsh_ 120 13 3 := ⟨by decide, rfl⟩
theorem sh_121 : xsh_ 121 0 0 := ⟨by decide, rfl⟩
theorem sh_122 : xsh_ 122 13 3 := ⟨by decide, rfl⟩
theorem sh_123 : xsh_ 123 14 3 := ⟨by decide, rfl⟩
theorem sh_124 : xsh_ 124 4 0 := ⟨by decide, rfl⟩
theorem sh_125 : xsh_ 125 14 3 := ⟨by decide, rfl⟩
theorem sh_126 : xsh_ 126 14 3 := ⟨by decide, rfl⟩
theorem sh_127 : xsh_ 127 2 0 := ⟨by decide, rfl⟩
theorem sh_128 : xsh_ 128 14 6 := ⟨by decide, rfl⟩
theorem sh_129 : xsh_ 129 2 0 := ⟨by decide, rfl⟩
theorem sh_130 : xsh_ 130 14 6 := ⟨by decide, rfl⟩
theorem sh_131 : xsh_ 131 8 0 := ⟨by decide, rfl⟩
theorem sh_132 : xsh_ 132 2 0 := ⟨by decide, rfl⟩
theorem sh_133 : xsh_ 133 14 6 := ⟨by decide, rfl⟩
theorem sh_134 : xsh_ 134 2 0 := ⟨by decide, rfl⟩
theorem sh_135 : xsh_ 135 14 6 := ⟨by decide, rfl⟩
theorem sh_136 : xsh_ 136 9 0 := ⟨by decide, rfl⟩
theorem sh_137 : xsh_ 137 14 48 := ⟨by decide, rfl⟩
theorem sh_138 : xsh_ 138 14 4 := ⟨by decide, rfl⟩
theorem sh_139 : xsh_ 139 5 0 := ⟨by decide, rfl⟩
theorem sh_140 : xsh_ 140 10 0 := ⟨by decide, rfl⟩
theorem sh_141 : xsh_ 141 13 3 := ⟨by decide, rfl⟩
theorem sh_142 : xsh_ 142 13 15 := ⟨by decide, rfl⟩
theorem sh_143 : xsh_ 143 13 5 := ⟨by decide, rfl⟩
theorem sh_144 : xsh_ 144 13 3 := ⟨by decide, rfl⟩
theorem sh_145 : xsh_ 145 13 3 := ⟨by decide, rfl⟩
theorem sh_146 : xsh_ 146 3 0 := ⟨by decide, rfl⟩
theorem sh_147 : xsh_ 147 14 40 := ⟨by decide, rfl⟩
theorem sh_148 : xsh_ 148 14 1000 := ⟨by decide, rfl⟩
theorem sh_149 : xsh_ 149 13 2048 := ⟨by decide, rfl⟩
theorem sh_150 : xsh_ 150 12 0 := ⟨by decide, rfl⟩
theorem sh_151 : xsh_ 151 13 5 := ⟨by decide, rfl⟩
theorem sh_152 : xsh_ 152 13 120 := ⟨by decide, rfl⟩
theorem sh_153 : xsh_ 153 13 60 := ⟨by decide, rfl⟩
theorem sh_154 : xsh_ 154 14 3 := ⟨by decide, rfl⟩
theorem sh_155 : xsh_ 155 14 6 := ⟨by decide, rfl⟩
theorem sh_156 : xsh_ 156 15 6 := ⟨by decide, rfl⟩
theorem sh_157 : xsh_ 157 14 6 := ⟨by decide, rfl⟩
theorem sh_158 : xsh_ 158 15 6 := ⟨by decide, rfl⟩
theorem sh_159 : xsh_ 159 14 48 := ⟨by decide, rfl⟩
theorem sh_160 : xsh_ 160 14 3 := ⟨by decide, rfl⟩
theorem sh_161 : xsh_ 161 13 15 := ⟨by decide, rfl⟩
theorem sh_162 : xsh_ 162 13 3 := ⟨by decide, rfl⟩
theorem sh_163 : xsh_ 163 13 5 := ⟨by decide, rfl⟩
theorem sh_164 : xsh_ 164 15 5 := ⟨by decide, rfl⟩
theorem sh_165 : xsh_ 165 14 30003 := ⟨by decide, rfl⟩
theorem sh_166 : xsh_ 166 13 32768 := ⟨by decide, rfl⟩
theorem sh_167 : xsh_ 167 14 3 := ⟨by decide, rfl⟩
theorem sh_168 : xsh_ 168 14 3 := ⟨by decide, rfl⟩
theorem sh_169 : xsh_ 169 14 6 := ⟨by decide, rfl⟩
theorem sh_170 : xsh_ 170 15 6 := ⟨by decide, rfl⟩
theorem sh_171 : xsh_ 171 14 6 := ⟨by decide, rfl⟩
theorem sh_172 : xsh_ 172 15 6 := ⟨by decide, rfl⟩
theorem sh_173 : xsh_ 173 13 40 := ⟨by decide, rfl⟩
theorem sh_174 : xsh_ 174 13 40 := ⟨by decide, rfl⟩
theorem sh_175 : xsh_ 175 13 40 := ⟨by decide, rfl⟩
theorem sh_176 : xsh_ 176 13 1001 := ⟨by decide, rfl⟩
theorem sh_177 : xsh_ 177 13 1001 := ⟨by decide, rfl⟩
theorem sh_178 : xsh_ 178 13 1001 := ⟨by decide, rfl⟩
theorem sh_179 : xsh_ 179 13 16 := ⟨by decide, rfl⟩
theorem sh_180 : xsh_ 180 13 16 := ⟨by decide, rfl⟩
theorem sh_181 : xsh_ 181 14 3 := ⟨by decide, rfl⟩
theorem sh_182 : xsh_ 182 13 3 := ⟨by decide, rfl⟩
def af_ok (a : Nat) : Prop := xsh_ a 0 0 ∧ sl_R a 0 = some (a + 1) ∧ xsh_ (a + 1) 13 3
def bx_ok (o : Nat) : Prop := xsh_ o 2 0 ∧ sl_R o 0 = some (o + 1) ∧ xsh_ (o + 1) 14 6
theorem lt5_ {b : Nat} (h : b < 5) : b = 0 ∨ b = 1 ∨ b = 2 ∨ b = 3 ∨ b = 4 := by omega
theorem lt6_ {b : Nat} (h : b < 6) : b = 0 ∨ b = 1 ∨ b = 2 ∨ b = 3 ∨ b = 4 ∨ b = 5 := by omega
theorem lt3_ {b : Nat} (h : b < 3) : b = 0 ∨ b = 1 ∨ b = 2 := by omega
theorem bd_s {bb : Nat} (h : bb < 5) : xsh_ (3 + 24 * bb) 1 0 := by rcases lt5_ h with rfl | rfl | rfl | rfl | rfl <;> exact ⟨by decide, rfl⟩
theorem bd_r0 {bb : Nat} (h : bb < 5) : sl_R (3 + 24 * bb) 0 = some (4 + 24 * bb) := by rcases lt5_ h with rfl | rfl | rfl | rfl | rfl <;> exact rfl
theorem bd_r1 {bb : Nat} (h : bb < 5) : sl_R (3 + 24 * bb) 1 = some (5 + 24 * bb) := by rcases lt5_ h with rfl | rfl | rfl | rfl | rfl <;> exact rfl
theorem bd_r2 {bb : Nat} (h : bb < 5) : sl_R (3 + 24 * bb) 2 = some (6 + 24 * bb) := by rcases lt5_ h with rfl | rfl | rfl | rfl | rfl <;> exact rfl
theorem bd_r3 {bb : Nat} (h : bb < 5) : sl_R (3 + 24 * bb) 3 = some (8 + 24 * bb) := by rcases lt5_ h with rfl | rfl | rfl | rfl | rfl <;> exact rfl
theorem bg_s {bb : Nat} (h : bb < 5) : xsh_ (4 + 24 * bb) 16 6 := by rcases lt5_ h with rfl | rfl | rfl | rfl | rfl <;> exact ⟨by decide, rfl⟩
theorem br_s {bb : Nat} (h : bb < 5) : xsh_ (5 + 24 * bb) 16 3 := by rcases lt5_ h with rfl | rfl | rfl | rfl | rfl <;> exact ⟨by decide, rfl⟩
theorem bp_s {bb : Nat} (h : bb < 5) : xsh_ (6 + 24 * bb) 6 0 := by rcases lt5_ h with rfl | rfl | rfl | rfl | rfl <;> exact ⟨by decide, rfl⟩
theorem bp_r0 {bb : Nat} (h : bb < 5) : sl_R (6 + 24 * bb) 0 = some (7 + 24 * bb) := by rcases lt5_ h with rfl | rfl | rfl | rfl | rfl <;> exact rfl
theorem bq_s {bb : Nat} (h : bb < 5) : xsh_ (7 + 24 * bb) 14 512 := by rcases lt5_ h with rfl | rfl | rfl | rfl | rfl <;> exact ⟨by decide, rfl⟩
theorem bc_s {bb : Nat} (h : bb < 5) : xsh_ (8 + 24 * bb) 14 3 := by rcases lt5_ h with rfl | rfl | rfl | rfl | rfl <;> exact ⟨by decide, rfl⟩
theorem pb_r {b : Nat} (h : b < 5) : sl_R 2 b = some (3 + 24 * b) := by rcases lt5_ h with rfl | rfl | rfl | rfl | rfl <;> rfl
theorem bg_r {bb g : Nat} (h : bb < 5) (hg : g < 6) : sl_R (4 + 24 * bb) g = some (9 + 24 * bb + 2 * g) := by rcases lt5_ h with rfl | rfl | rfl | rfl | rfl <;> rcases lt6_ hg with rfl | rfl | rfl | rfl | rfl | rfl <;> rfl
theorem br_r {bb i : Nat} (h : bb < 5) (hi : i < 3) : sl_R (5 + 24 * bb) i = some (21 + 24 * bb + 2 * i) := by rcases lt5_ h with rfl | rfl | rfl | rfl | rfl <;> rcases lt3_ hi with rfl | rfl | rfl <;> rfl
theorem bg_a {bb g : Nat} (h : bb < 5) (hg : g < 6) : af_ok (9 + 24 * bb + 2 * g) := by rcases lt5_ h with rfl | rfl | rfl | rfl | rfl <;> rcases lt6_ hg with rfl | rfl | rfl | rfl | rfl | rfl <;> exact ⟨⟨by decide, rfl⟩, rfl, ⟨by decide, rfl⟩⟩
theorem br_a {bb i : Nat} (h : bb < 5) (hi : i < 3) : af_ok (21 + 24 * bb + 2 * i) := by rcases lt5_ h with rfl | rfl | rfl | rfl | rfl <;> rcases lt3_ hi with rfl | rfl | rfl <;> exact ⟨⟨by decide, rfl⟩, rfl, ⟨by decide, rfl⟩⟩
theorem bx_127 : bx_ok 127 := ⟨⟨by decide, rfl⟩, rfl, ⟨by decide, rfl⟩⟩
theorem bx_129 : bx_ok 129 := ⟨⟨by decide, rfl⟩, rfl, ⟨by decide, rfl⟩⟩
theorem bx_132 : bx_ok 132 := ⟨⟨by decide, rfl⟩, rfl, ⟨by decide, rfl⟩⟩
theorem bx_134 : bx_ok 134 := ⟨⟨by decide, rfl⟩, rfl, ⟨by decide, rfl⟩⟩
theorem xin_n {i : Int32} {n : Nat} (h : xm_in i n) : i.toNatClampNeg < n := by
  have h1 := h.1
  have h2 := h.2
  show i.toInt.toNat < n
  omega
/-- fewer locals -/
def xm_sb (l' l : List (Option Value)) : Prop := match l', l with
  | [], _ => True
  | none :: a, _ :: b => xm_sb a b
  | none :: a, [] => xm_sb a []
  | some v :: a, some w :: b => v = w ∧ xm_sb a b
  | some _ :: _, none :: _ => False
  | some _ :: _, [] => False
theorem xm_sb_at {l' l : List (Option Value)} (h : xm_sb l' l) : ∀ (i : Nat) (v : Value), l'[i]? = some (some v) → l[i]? = some (some v) := by
  fun_induction xm_sb l' l with
  | case1 l => intro i v hi; simp at hi
  | case2 a x b ih =>
    intro i v hi
    match i, hi with
    | 0, hi => cases hi
    | i + 1, hi => exact ih h i v hi
  | case3 a ih =>
    intro i v hi
    match i, hi with
    | 0, hi => cases hi
    | i + 1, hi =>
      have := ih h i v hi
      simp at this
  | case4 v a w b ih =>
    intro i v' hi
    match i, hi with
    | 0, hi => cases hi; rw [h.1]; rfl
    | i + 1, hi => exact ih h.2 i v' hi
  | case5 => exact h.elim
  | case6 => exact h.elim
section XR_
variable {α β γ S : Type} {em : α → Option Value} {sg : S → xm_S} {M : xm_M} {pc n : Nat} {lv lv' : List (Option Value)} {st : List Value} {σ : S} {bc bs : Nat} {o : Option (α × S)} {a : Option β} {f : β → Option (α × S)} {μ : xm_Y}
theorem xs_fg (h : xm_sb lv' lv) (k : xs_ em sg M pc lv' st σ bc bs o) : xs_ em sg M pc lv st σ bc bs o := by
  intro r σ' ho G base b L xs l p e R s m args below meth c H locs cells slots ls Q hC hf hlo hc hs hL hW hz hS kret
  obtain ⟨l0, h1, h2⟩ := hL
  exact k r σ' ho G base b L xs l p e R s m args below meth c H locs cells slots ls Q hC hf hlo hc hs ⟨l0, h1, fun i v hi => h2 i v (xm_sb_at h i v hi)⟩ hW hz hS kret
theorem xs_gf (k : xs_ em sg M pc lv' st σ bc bs o) (h : xm_sb lv' lv) : xs_ em sg M pc lv st σ bc bs o := xs_fg h k
theorem xs_join {B : Option β} {g : β → Option γ} {f : γ → Option (α × S)} (J : Nat) (lvJ : β → List (Option Value)) (stJ : β → List Value) (sJ : β → S) (kJ : ∀ q : β, xs_ em sg M J (lvJ q) (stJ q) (sJ q) bc bs ((g q).bind f)) (kB : (∀ q : β, xs_ em sg M J (lvJ q) (stJ q) (sJ q) bc bs ((g q).bind f)) → xs_ em sg M pc lv st σ bc bs (B.bind (fun v => (g v).bind f))) : xs_ em sg M pc lv st σ bc bs ((B.bind g).bind f) := xs_reg (kB kJ)
theorem xs_inr {δ : Type} {g1 : δ → Option γ} {g2 : β → Option γ} {f : γ → Option (α × S)} {q : β} (k : xs_ em sg M pc lv st σ bc bs ((g2 q).bind f)) : xs_ em sg M pc lv st σ bc bs ((Sum.elim g1 g2 (.inr q)).bind f) := k
theorem xs_iincl {i : Nat} {d : Int} {x dv : Int32} {g : Int32 → Option β} (lvf : Int32 → List (Option Value)) (hd : decode M.2.1 pc = .ok (.iinc i d, 3)) (hn : pc + 3 = n) (hl : lv[i]? = some (some (.int x))) (hv : Int32.ofInt d = dv) (hi : i < M.2.2.1) (he : ∀ v : Int32, xm_s1 lv i (.int v) = lvf v) (k : ∀ v : Int32, xs_ em sg M n (lvf v) st σ bc bs ((g v).bind f)) : xs_ em sg M pc lv st σ bc bs ((xm_let (x + dv) g).bind f) := by
  subst hv
  exact xs_iinc hd hn hl rfl hi (he _) (k _)
theorem xs_zretc {S : Type} {sg : S → xm_S} {σ : S} {x : Int32} {β : Type} {v : β} {f : β → Option (Int32 × S)} (hd : decode M.2.1 pc = .ok (.ireturn, 1)) (hr : M.2.2.2.1 = some .boolean) (hx : x = 0 ∨ x = 1) (hf : f v = some (x, σ)) : xs_ (fun x : Int32 => some (.int x)) sg M pc lv [.int x] σ bc bs ((some v).bind f) := by
  have := xs_zret (bc := bc) (bs := bs) (lv := lv) (sg := sg) hd hr hf
  rwa [xm_chk, if_pos hx] at this
-- the same rows over the static cells
theorem ys_geti {idx ci j t kk nn : Nat} {C : String} {T : u_T} {N : Nat} {ty : Nat → FieldType} {o : Option (α × xm_Y)} (hd : decode M.2.1 pc = .ok (.getfield idx, 3)) (hn : pc + 3 = n) (hl : xm_fl M.1.cls idx ci j t C T N ty) (ht : t = 0 ∨ t = 3) (hk : xsh_ kk ci nn) (k : xs_ em sg_0 M n lv (.int (μ.1 kk j) :: st) μ bc bs o) : xs_ em sg_0 M pc lv (.ref kk :: st) μ bc bs o := xs_geti hd hn hl ht (hk.is μ) k
theorem ys_getl {idx ci j kk nn : Nat} {C : String} {T : u_T} {N : Nat} {ty : Nat → FieldType} {o : Option (α × xm_Y)} (hd : decode M.2.1 pc = .ok (.getfield idx, 3)) (hn : pc + 3 = n) (hl : xm_fl M.1.cls idx ci j 1 C T N ty) (hk : xsh_ kk ci nn) (k : xs_ em sg_0 M n lv (.long (μ.2 kk j) :: st) μ bc bs o) : xs_ em sg_0 M pc lv (.ref kk :: st) μ bc bs o := xs_getl hd hn hl (hk.is μ) k
theorem ys_getr {idx ci j kk nn a : Nat} {C : String} {T : u_T} {N : Nat} {ty : Nat → FieldType} {o : Option (α × xm_Y)} (hd : decode M.2.1 pc = .ok (.getfield idx, 3)) (hn : pc + 3 = n) (hl : xm_fl M.1.cls idx ci j 2 C T N ty) (hk : xsh_ kk ci nn) (hr : sl_R kk j = some a) (k : xs_ em sg_0 M n lv (.ref a :: st) μ bc bs o) : xs_ em sg_0 M pc lv (.ref kk :: st) μ bc bs o := xs_getr hd hn hl (hk.is μ) hr k
variable {f : β → Option (α × xm_Y)}
theorem ys_puti {idx ci j kk nn : Nat} {C : String} {T : u_T} {N : Nat} {ty : Nat → FieldType} {v : Int32} {g : xm_Y → Option β} (hd : decode M.2.1 pc = .ok (.putfield idx, 3)) (hn : pc + 3 = n) (hl : xm_fl M.1.cls idx ci j 0 C T N ty) (hfin : (T j).2.2.2 = false) (hk : xsh_ kk ci nn) (k : ∀ μ', xs_ em sg_0 M n lv st μ' bc bs ((g μ').bind f)) : xs_ em sg_0 M pc lv (.int v :: .ref kk :: st) μ bc bs ((xm_let (w_I μ kk j v) g).bind f) := xs_puti hd hn hl hfin (hk.is μ) rfl (k (w_I μ kk j v))
theorem ys_putz {idx ci j kk nn : Nat} {C : String} {T : u_T} {N : Nat} {ty : Nat → FieldType} {v : Int32} {g : xm_Y → Option β} (hd : decode M.2.1 pc = .ok (.putfield idx, 3)) (hn : pc + 3 = n) (hl : xm_fl M.1.cls idx ci j 3 C T N ty) (hfin : (T j).2.2.2 = false) (hk : xsh_ kk ci nn) (k : ∀ μ', xs_ em sg_0 M n lv st μ' bc bs ((g μ').bind f)) : xs_ em sg_0 M pc lv (.int v :: .ref kk :: st) μ bc bs ((xm_chk (v = 0 ∨ v = 1) (xm_let (w_I μ kk j v) g)).bind f) := xs_putz hd hn hl hfin (hk.is μ) rfl (k (w_I μ kk j v))
theorem ys_putzc {idx ci j kk nn : Nat} {C : String} {T : u_T} {N : Nat} {ty : Nat → FieldType} {v : Int32} {g : xm_Y → Option β} (hd : decode M.2.1 pc = .ok (.putfield idx, 3)) (hn : pc + 3 = n) (hl : xm_fl M.1.cls idx ci j 3 C T N ty) (hfin : (T j).2.2.2 = false) (hk : xsh_ kk ci nn) (hx : v = 0 ∨ v = 1) (k : ∀ μ', xs_ em sg_0 M n lv st μ' bc bs ((g μ').bind f)) : xs_ em sg_0 M pc lv (.int v :: .ref kk :: st) μ bc bs ((xm_let (w_I μ kk j v) g).bind f) := by
  have := ys_putz (μ := μ) (v := v) hd hn hl hfin hk k
  rwa [xm_chk, if_pos hx] at this
theorem ys_putl {idx ci j kk nn : Nat} {C : String} {T : u_T} {N : Nat} {ty : Nat → FieldType} {v : Int64} {g : xm_Y → Option β} (hd : decode M.2.1 pc = .ok (.putfield idx, 3)) (hn : pc + 3 = n) (hl : xm_fl M.1.cls idx ci j 1 C T N ty) (hfin : (T j).2.2.2 = false) (hk : xsh_ kk ci nn) (k : ∀ μ', xs_ em sg_0 M n lv st μ' bc bs ((g μ').bind f)) : xs_ em sg_0 M pc lv (.long v :: .ref kk :: st) μ bc bs ((xm_let (w_J μ kk j v) g).bind f) := xs_putl hd hn hl hfin (hk.is μ) rfl (k (w_J μ kk j v))
theorem ys_iaload {kk nn : Nat} {i : Int32} (hd : decode M.2.1 pc = .ok (.iaload, 1)) (hn : pc + 1 = n) (hk : xsh_ kk 13 nn) (k : xs_ em sg_0 M n lv (.int (μ.1 kk i.toNatClampNeg) :: st) μ bc bs (a.bind f)) : xs_ em sg_0 M pc lv (.int i :: .ref kk :: st) μ bc bs ((xm_chk (xm_in i nn) a).bind f) := xs_iaload hd hn (hk.is μ) k
theorem ys_baload {kk nn : Nat} {i : Int32} (hd : decode M.2.1 pc = .ok (.baload, 1)) (hn : pc + 1 = n) (hk : xsh_ kk 15 nn) (k : xs_ em sg_0 M n lv (.int (μ.1 kk i.toNatClampNeg) :: st) μ bc bs (a.bind f)) : xs_ em sg_0 M pc lv (.int i :: .ref kk :: st) μ bc bs ((xm_chk (xm_in i nn) a).bind f) := xs_baload hd hn (hk.is μ) k
theorem ys_laload {kk nn : Nat} {i : Int32} (hd : decode M.2.1 pc = .ok (.laload, 1)) (hn : pc + 1 = n) (hk : xsh_ kk 14 nn) (k : xs_ em sg_0 M n lv (.long (μ.2 kk i.toNatClampNeg) :: st) μ bc bs (a.bind f)) : xs_ em sg_0 M pc lv (.int i :: .ref kk :: st) μ bc bs ((xm_chk (xm_in i nn) a).bind f) := xs_laload hd hn (hk.is μ) k
theorem ys_aaload16 {kk nn aa : Nat} {i : Int32} (hd : decode M.2.1 pc = .ok (.aaload, 1)) (hn : pc + 1 = n) (hk : xsh_ kk 16 nn) (hr : xm_in i nn → sl_R kk i.toNatClampNeg = some aa) (k : xm_in i nn → xs_ em sg_0 M n lv (.ref aa :: st) μ bc bs (a.bind f)) : xs_ em sg_0 M pc lv (.int i :: .ref kk :: st) μ bc bs ((xm_chk (xm_in i nn) a).bind f) := xs_aaload16 hd hn (hk.is μ) hr k
theorem ys_aaload17 {kk nn aa : Nat} {i : Int32} (hd : decode M.2.1 pc = .ok (.aaload, 1)) (hn : pc + 1 = n) (hk : xsh_ kk 17 nn) (hr : xm_in i nn → sl_R kk i.toNatClampNeg = some aa) (k : xm_in i nn → xs_ em sg_0 M n lv (.ref aa :: st) μ bc bs (a.bind f)) : xs_ em sg_0 M pc lv (.int i :: .ref kk :: st) μ bc bs ((xm_chk (xm_in i nn) a).bind f) := xs_aaload17 hd hn (hk.is μ) hr k
theorem ys_iastore {kk nn : Nat} {i v : Int32} {g : xm_Y → Option β} (hd : decode M.2.1 pc = .ok (.iastore, 1)) (hn : pc + 1 = n) (hk : xsh_ kk 13 nn) (k : ∀ μ', xs_ em sg_0 M n lv st μ' bc bs ((g μ').bind f)) : xs_ em sg_0 M pc lv (.int v :: .int i :: .ref kk :: st) μ bc bs ((xm_chk (xm_in i nn) (xm_let (w_I μ kk i.toNatClampNeg v) g)).bind f) := xs_iastore hd hn (hk.is μ) rfl (k (w_I μ kk i.toNatClampNeg v))
theorem ys_bastore {kk nn : Nat} {i v : Int32} {g : xm_Y → Option β} (hd : decode M.2.1 pc = .ok (.bastore, 1)) (hn : pc + 1 = n) (hk : xsh_ kk 15 nn) (k : ∀ μ', xs_ em sg_0 M n lv st μ' bc bs ((g μ').bind f)) : xs_ em sg_0 M pc lv (.int v :: .int i :: .ref kk :: st) μ bc bs ((xm_chk (xm_in i nn) (xm_let (w_I μ kk i.toNatClampNeg (vp_nar .boolean v)) g)).bind f) := xs_bastore hd hn (hk.is μ) rfl (k (w_I μ kk i.toNatClampNeg (vp_nar .boolean v)))
theorem ys_lastore {kk nn : Nat} {i : Int32} {v : Int64} {g : xm_Y → Option β} (hd : decode M.2.1 pc = .ok (.lastore, 1)) (hn : pc + 1 = n) (hk : xsh_ kk 14 nn) (k : ∀ μ', xs_ em sg_0 M n lv st μ' bc bs ((g μ').bind f)) : xs_ em sg_0 M pc lv (.long v :: .int i :: .ref kk :: st) μ bc bs ((xm_chk (xm_in i nn) (xm_let (w_J μ kk i.toNatClampNeg v) g)).bind f) := xs_lastore hd hn (hk.is μ) rfl (k (w_J μ kk i.toNatClampNeg v))
theorem ys_alen13 {kk nn : Nat} {o : Option (α × xm_Y)} (hd : decode M.2.1 pc = .ok (.arraylength, 1)) (hn : pc + 1 = n) (hk : xsh_ kk 13 nn) (k : xs_ em sg_0 M n lv (.int (Int32.ofNat nn) :: st) μ bc bs o) : xs_ em sg_0 M pc lv (.ref kk :: st) μ bc bs o := xs_alen13 hd hn (hk.is μ) rfl k
theorem ys_alen14 {kk nn : Nat} {o : Option (α × xm_Y)} (hd : decode M.2.1 pc = .ok (.arraylength, 1)) (hn : pc + 1 = n) (hk : xsh_ kk 14 nn) (k : xs_ em sg_0 M n lv (.int (Int32.ofNat nn) :: st) μ bc bs o) : xs_ em sg_0 M pc lv (.ref kk :: st) μ bc bs o := xs_alen14 hd hn (hk.is μ) rfl k
theorem ys_copyl {k0 k1 n0 n1 idx : Nat} {sp dp nn : Int32} {g : xm_Y → Option β} (hd : decode M.2.1 pc = .ok (.invokestatic idx, 3)) (hn : pc + 3 = n) (hw : Cond.methodLink M.1.cls idx arraycopyName ∈ xm_tb) (h0 : xsh_ k0 14 n0) (hk1 : xsh_ k1 14 n1) (hfr : 1 ≤ M.2.2.2.2.1) (hlc : (st.map fun v => v.category).sum + 18 ≤ M.2.2.2.2.2) (k : ∀ μ', xs_ em sg_0 M n lv st μ' bc bs ((g μ').bind f)) : xs_ em sg_0 M pc lv (.int nn :: .int dp :: .ref k1 :: .int sp :: .ref k0 :: st) μ bc bs ((xm_chk (0 ≤ sp ∧ 0 ≤ dp ∧ 0 ≤ nn ∧ sp.toNatClampNeg + nn.toNatClampNeg ≤ n0 ∧ dp.toNatClampNeg + nn.toNatClampNeg ≤ n1) (xm_let (cp_J μ k0 k1 sp.toNatClampNeg dp.toNatClampNeg nn.toNatClampNeg) g)).bind f) := xs_copyl hd hn hw (h0.is μ) (hk1.is μ) hfr hlc rfl (k _)
theorem ys_copyi {k0 k1 n0 n1 idx : Nat} {sp dp nn : Int32} {g : xm_Y → Option β} (hd : decode M.2.1 pc = .ok (.invokestatic idx, 3)) (hn : pc + 3 = n) (hw : Cond.methodLink M.1.cls idx arraycopyName ∈ xm_tb) (h0 : xsh_ k0 13 n0) (hk1 : xsh_ k1 13 n1) (hfr : 1 ≤ M.2.2.2.2.1) (hlc : (st.map fun v => v.category).sum + 18 ≤ M.2.2.2.2.2) (k : ∀ μ', xs_ em sg_0 M n lv st μ' bc bs ((g μ').bind f)) : xs_ em sg_0 M pc lv (.int nn :: .int dp :: .ref k1 :: .int sp :: .ref k0 :: st) μ bc bs ((xm_chk (0 ≤ sp ∧ 0 ≤ dp ∧ 0 ≤ nn ∧ sp.toNatClampNeg + nn.toNatClampNeg ≤ n0 ∧ dp.toNatClampNeg + nn.toNatClampNeg ≤ n1) (xm_let (cp_I μ k0 k1 sp.toNatClampNeg dp.toNatClampNeg nn.toNatClampNeg) g)).bind f) := xs_copyi hd hn hw (h0.is μ) (hk1.is μ) hfr hlc rfl (k _)
theorem ys_callsi {N : xm_M} {na idx : Nat} {oN : Option (Int32 × xm_Y)} {F : Int32 × xm_Y → Option β} {stk : List Value} {lv0 : List (Option Value)} (hd : decode M.2.1 pc = .ok (.invokestatic idx, 3)) (hn : pc + 3 = n) (hok : xm_ok N na) (hw : Cond.methodLink M.1.cls idx N.1 ∈ xm_tb) (hst : Cond.static N.1 ∈ xm_tb) (hR : N.2.2.2.2.1 + 1 ≤ M.2.2.2.2.1 ∧ 8 + (N.2.2.1 + 11) + N.2.2.2.2.2 ≤ M.2.2.2.2.2) (As : List Value) (rest : List Value) (hstk : stk = As.reverse ++ rest) (hla : As.length = na) (hlen : (lg_sl As).length ≤ N.2.2.1) (he : xm_en N.2.2.1 As = lv0) (hrest : (rest.map fun v => v.category).sum ≤ 8) (hN : xs_ (fun x : Int32 => some (.int x)) sg_0 N 0 lv0 [] μ 0 0 oN) (k : ∀ q : Int32 × xm_Y, xs_ em sg_0 M n lv (.int q.1 :: rest) q.2 bc bs ((F q).bind f)) : xs_ em sg_0 M pc lv stk μ bc bs ((oN.bind F).bind f) := xs_calls (mc := 0) (ms := 0) (bc' := bc) (bs' := bs) hd hn hok hw hst hR As rest hstk hla hlen he hrest ⟨Nat.le_refl _, Nat.le_refl _⟩ (fun _ _ => rfl) hN (fun v σ1 => k (v, σ1))
theorem ys_callsl {N : xm_M} {na idx : Nat} {oN : Option (Int64 × xm_Y)} {F : Int64 × xm_Y → Option β} {stk : List Value} {lv0 : List (Option Value)} (hd : decode M.2.1 pc = .ok (.invokestatic idx, 3)) (hn : pc + 3 = n) (hok : xm_ok N na) (hw : Cond.methodLink M.1.cls idx N.1 ∈ xm_tb) (hst : Cond.static N.1 ∈ xm_tb) (hR : N.2.2.2.2.1 + 1 ≤ M.2.2.2.2.1 ∧ 8 + (N.2.2.1 + 11) + N.2.2.2.2.2 ≤ M.2.2.2.2.2) (As : List Value) (rest : List Value) (hstk : stk = As.reverse ++ rest) (hla : As.length = na) (hlen : (lg_sl As).length ≤ N.2.2.1) (he : xm_en N.2.2.1 As = lv0) (hrest : (rest.map fun v => v.category).sum ≤ 8) (hN : xs_ (fun x : Int64 => some (.long x)) sg_0 N 0 lv0 [] μ 0 0 oN) (k : ∀ q : Int64 × xm_Y, xs_ em sg_0 M n lv (.long q.1 :: rest) q.2 bc bs ((F q).bind f)) : xs_ em sg_0 M pc lv stk μ bc bs ((oN.bind F).bind f) := xs_calls (mc := 0) (ms := 0) (bc' := bc) (bs' := bs) hd hn hok hw hst hR As rest hstk hla hlen he hrest ⟨Nat.le_refl _, Nat.le_refl _⟩ (fun _ _ => rfl) hN (fun v σ1 => k (v, σ1))
theorem ys_callsv {N : xm_M} {na idx : Nat} {oN : Option (Unit × xm_Y)} {F : Unit × xm_Y → Option β} {stk : List Value} {lv0 : List (Option Value)} (hd : decode M.2.1 pc = .ok (.invokestatic idx, 3)) (hn : pc + 3 = n) (hok : xm_ok N na) (hw : Cond.methodLink M.1.cls idx N.1 ∈ xm_tb) (hst : Cond.static N.1 ∈ xm_tb) (hR : N.2.2.2.2.1 + 1 ≤ M.2.2.2.2.1 ∧ 8 + (N.2.2.1 + 11) + N.2.2.2.2.2 ≤ M.2.2.2.2.2) (As : List Value) (rest : List Value) (hstk : stk = As.reverse ++ rest) (hla : As.length = na) (hlen : (lg_sl As).length ≤ N.2.2.1) (he : xm_en N.2.2.1 As = lv0) (hrest : (rest.map fun v => v.category).sum ≤ 8) (hN : xs_ (fun _ : Unit => none) sg_0 N 0 lv0 [] μ 0 0 oN) (k : ∀ q : Unit × xm_Y, xs_ em sg_0 M n lv (rest) q.2 bc bs ((F q).bind f)) : xs_ em sg_0 M pc lv stk μ bc bs ((oN.bind F).bind f) := xs_calls (mc := 0) (ms := 0) (bc' := bc) (bs' := bs) hd hn hok hw hst hR As rest hstk hla hlen he hrest ⟨Nat.le_refl _, Nat.le_refl _⟩ (fun _ _ => rfl) hN (fun v σ1 => k (v, σ1))
theorem ys_callsni {N : xm_M} {na idx : Nat} {oN : Option (Int32 × xm_Y)} {F : Int32 × xm_Y → Option β} {stk : List Value} {lv0 : List (Option Value)} {host : String} (hd : decode M.2.1 pc = .ok (.invokestatic idx, 3)) (hn : pc + 3 = n) (hok : xm_ok N na) (hw : Cond.methodLinkNest M.1.cls idx N.1 host ∈ lw_tbl) (hst : Cond.static N.1 ∈ xm_tb) (hR : N.2.2.2.2.1 + 1 ≤ M.2.2.2.2.1 ∧ 8 + (N.2.2.1 + 11) + N.2.2.2.2.2 ≤ M.2.2.2.2.2) (As : List Value) (rest : List Value) (hstk : stk = As.reverse ++ rest) (hla : As.length = na) (hlen : (lg_sl As).length ≤ N.2.2.1) (he : xm_en N.2.2.1 As = lv0) (hrest : (rest.map fun v => v.category).sum ≤ 8) (hN : xs_ (fun x : Int32 => some (.int x)) sg_0 N 0 lv0 [] μ 0 0 oN) (k : ∀ q : Int32 × xm_Y, xs_ em sg_0 M n lv (.int q.1 :: rest) q.2 bc bs ((F q).bind f)) : xs_ em sg_0 M pc lv stk μ bc bs ((oN.bind F).bind f) := xs_callsn (mc := 0) (ms := 0) (bc' := bc) (bs' := bs) hd hn hok hw hst hR As rest hstk hla hlen he hrest ⟨Nat.le_refl _, Nat.le_refl _⟩ (fun _ _ => rfl) hN (fun v σ1 => k (v, σ1))
theorem ys_callsnl {N : xm_M} {na idx : Nat} {oN : Option (Int64 × xm_Y)} {F : Int64 × xm_Y → Option β} {stk : List Value} {lv0 : List (Option Value)} {host : String} (hd : decode M.2.1 pc = .ok (.invokestatic idx, 3)) (hn : pc + 3 = n) (hok : xm_ok N na) (hw : Cond.methodLinkNest M.1.cls idx N.1 host ∈ lw_tbl) (hst : Cond.static N.1 ∈ xm_tb) (hR : N.2.2.2.2.1 + 1 ≤ M.2.2.2.2.1 ∧ 8 + (N.2.2.1 + 11) + N.2.2.2.2.2 ≤ M.2.2.2.2.2) (As : List Value) (rest : List Value) (hstk : stk = As.reverse ++ rest) (hla : As.length = na) (hlen : (lg_sl As).length ≤ N.2.2.1) (he : xm_en N.2.2.1 As = lv0) (hrest : (rest.map fun v => v.category).sum ≤ 8) (hN : xs_ (fun x : Int64 => some (.long x)) sg_0 N 0 lv0 [] μ 0 0 oN) (k : ∀ q : Int64 × xm_Y, xs_ em sg_0 M n lv (.long q.1 :: rest) q.2 bc bs ((F q).bind f)) : xs_ em sg_0 M pc lv stk μ bc bs ((oN.bind F).bind f) := xs_callsn (mc := 0) (ms := 0) (bc' := bc) (bs' := bs) hd hn hok hw hst hR As rest hstk hla hlen he hrest ⟨Nat.le_refl _, Nat.le_refl _⟩ (fun _ _ => rfl) hN (fun v σ1 => k (v, σ1))
theorem ys_callsnv {N : xm_M} {na idx : Nat} {oN : Option (Unit × xm_Y)} {F : Unit × xm_Y → Option β} {stk : List Value} {lv0 : List (Option Value)} {host : String} (hd : decode M.2.1 pc = .ok (.invokestatic idx, 3)) (hn : pc + 3 = n) (hok : xm_ok N na) (hw : Cond.methodLinkNest M.1.cls idx N.1 host ∈ lw_tbl) (hst : Cond.static N.1 ∈ xm_tb) (hR : N.2.2.2.2.1 + 1 ≤ M.2.2.2.2.1 ∧ 8 + (N.2.2.1 + 11) + N.2.2.2.2.2 ≤ M.2.2.2.2.2) (As : List Value) (rest : List Value) (hstk : stk = As.reverse ++ rest) (hla : As.length = na) (hlen : (lg_sl As).length ≤ N.2.2.1) (he : xm_en N.2.2.1 As = lv0) (hrest : (rest.map fun v => v.category).sum ≤ 8) (hN : xs_ (fun _ : Unit => none) sg_0 N 0 lv0 [] μ 0 0 oN) (k : ∀ q : Unit × xm_Y, xs_ em sg_0 M n lv (rest) q.2 bc bs ((F q).bind f)) : xs_ em sg_0 M pc lv stk μ bc bs ((oN.bind F).bind f) := xs_callsn (mc := 0) (ms := 0) (bc' := bc) (bs' := bs) hd hn hok hw hst hR As rest hstk hla hlen he hrest ⟨Nat.le_refl _, Nat.le_refl _⟩ (fun _ _ => rfl) hN (fun v σ1 => k (v, σ1))
theorem ys_callvi {N : xm_M} {na idx : Nat} {oN : Option (Int32 × xm_Y)} {F : Int32 × xm_Y → Option β} {stk : List Value} {lv0 : List (Option Value)} {kk ci nn : Nat} {T : u_T} {NF : Nat} (hd : decode M.2.1 pc = .ok (.invokevirtual idx, 3)) (hn : pc + 3 = n) (hok : xm_ok N na) (hw : Cond.methodLink M.1.cls idx N.1 ∈ xm_tb) (hin : Cond.instanceMethod N.1 ∈ xm_tb) (hse : Cond.selects N.1.cls N.1 N.1 ∈ xm_tb) (hR : N.2.2.2.2.1 + 1 ≤ M.2.2.2.2.1 ∧ 8 + (N.2.2.1 + 11) + N.2.2.2.2.2 ≤ M.2.2.2.2.2) (As : List Value) (rest : List Value) (hstk : stk = As.reverse ++ .ref kk :: rest) (hla : As.length = na) (hlen : (lg_sl (.ref kk :: As)).length ≤ N.2.2.1) (he : xm_en N.2.2.1 (.ref kk :: As) = lv0) (hrest : (rest.map fun v => v.category).sum ≤ 8) (hN : xs_ (fun x : Int32 => some (.int x)) sg_0 N 0 lv0 [] μ 0 0 oN) (hk : xsh_ kk ci nn) (hc13 : ci < 13) (hcl : vwCl[ci]? = some (N.1.cls, T, NF)) (k : ∀ q : Int32 × xm_Y, xs_ em sg_0 M n lv (.int q.1 :: rest) q.2 bc bs ((F q).bind f)) : xs_ em sg_0 M pc lv stk μ bc bs ((oN.bind F).bind f) := xs_callv (mc := 0) (ms := 0) (bc' := bc) (bs' := bs) hd hn hok hw hin hse hR As rest hstk hla hlen he hrest ⟨Nat.le_refl _, Nat.le_refl _⟩ (fun _ _ => rfl) hN (hk.is μ) hc13 hcl (fun v σ1 => k (v, σ1))
theorem ys_callvl {N : xm_M} {na idx : Nat} {oN : Option (Int64 × xm_Y)} {F : Int64 × xm_Y → Option β} {stk : List Value} {lv0 : List (Option Value)} {kk ci nn : Nat} {T : u_T} {NF : Nat} (hd : decode M.2.1 pc = .ok (.invokevirtual idx, 3)) (hn : pc + 3 = n) (hok : xm_ok N na) (hw : Cond.methodLink M.1.cls idx N.1 ∈ xm_tb) (hin : Cond.instanceMethod N.1 ∈ xm_tb) (hse : Cond.selects N.1.cls N.1 N.1 ∈ xm_tb) (hR : N.2.2.2.2.1 + 1 ≤ M.2.2.2.2.1 ∧ 8 + (N.2.2.1 + 11) + N.2.2.2.2.2 ≤ M.2.2.2.2.2) (As : List Value) (rest : List Value) (hstk : stk = As.reverse ++ .ref kk :: rest) (hla : As.length = na) (hlen : (lg_sl (.ref kk :: As)).length ≤ N.2.2.1) (he : xm_en N.2.2.1 (.ref kk :: As) = lv0) (hrest : (rest.map fun v => v.category).sum ≤ 8) (hN : xs_ (fun x : Int64 => some (.long x)) sg_0 N 0 lv0 [] μ 0 0 oN) (hk : xsh_ kk ci nn) (hc13 : ci < 13) (hcl : vwCl[ci]? = some (N.1.cls, T, NF)) (k : ∀ q : Int64 × xm_Y, xs_ em sg_0 M n lv (.long q.1 :: rest) q.2 bc bs ((F q).bind f)) : xs_ em sg_0 M pc lv stk μ bc bs ((oN.bind F).bind f) := xs_callv (mc := 0) (ms := 0) (bc' := bc) (bs' := bs) hd hn hok hw hin hse hR As rest hstk hla hlen he hrest ⟨Nat.le_refl _, Nat.le_refl _⟩ (fun _ _ => rfl) hN (hk.is μ) hc13 hcl (fun v σ1 => k (v, σ1))
theorem ys_callvv {N : xm_M} {na idx : Nat} {oN : Option (Unit × xm_Y)} {F : Unit × xm_Y → Option β} {stk : List Value} {lv0 : List (Option Value)} {kk ci nn : Nat} {T : u_T} {NF : Nat} (hd : decode M.2.1 pc = .ok (.invokevirtual idx, 3)) (hn : pc + 3 = n) (hok : xm_ok N na) (hw : Cond.methodLink M.1.cls idx N.1 ∈ xm_tb) (hin : Cond.instanceMethod N.1 ∈ xm_tb) (hse : Cond.selects N.1.cls N.1 N.1 ∈ xm_tb) (hR : N.2.2.2.2.1 + 1 ≤ M.2.2.2.2.1 ∧ 8 + (N.2.2.1 + 11) + N.2.2.2.2.2 ≤ M.2.2.2.2.2) (As : List Value) (rest : List Value) (hstk : stk = As.reverse ++ .ref kk :: rest) (hla : As.length = na) (hlen : (lg_sl (.ref kk :: As)).length ≤ N.2.2.1) (he : xm_en N.2.2.1 (.ref kk :: As) = lv0) (hrest : (rest.map fun v => v.category).sum ≤ 8) (hN : xs_ (fun _ : Unit => none) sg_0 N 0 lv0 [] μ 0 0 oN) (hk : xsh_ kk ci nn) (hc13 : ci < 13) (hcl : vwCl[ci]? = some (N.1.cls, T, NF)) (k : ∀ q : Unit × xm_Y, xs_ em sg_0 M n lv (rest) q.2 bc bs ((F q).bind f)) : xs_ em sg_0 M pc lv stk μ bc bs ((oN.bind F).bind f) := xs_callv (mc := 0) (ms := 0) (bc' := bc) (bs' := bs) hd hn hok hw hin hse hR As rest hstk hla hlen he hrest ⟨Nat.le_refl _, Nat.le_refl _⟩ (fun _ _ => rfl) hN (hk.is μ) hc13 hcl (fun v σ1 => k (v, σ1))
end XR_
end
section
/-! words of the tables, by their places -/
theorem mt_1 {w : Cond} (h : w ∈ tables_1_1) : w ∈ lw_tbl := List.mem_append_right _ (List.mem_append_left _ h)
theorem ms_1 {w : Cond} (h : w ∈ tables_1_1) (hg : goodWord w = true) : w ∈ xm_tb := List.mem_filter.mpr ⟨mt_1 h, hg⟩
theorem mt_2 {w : Cond} (h : w ∈ tables_1_2) : w ∈ lw_tbl := List.mem_append_right _ (List.mem_append_right _ (List.mem_append_left _ h))
theorem ms_2 {w : Cond} (h : w ∈ tables_1_2) (hg : goodWord w = true) : w ∈ xm_tb := List.mem_filter.mpr ⟨mt_2 h, hg⟩
theorem mt_3 {w : Cond} (h : w ∈ tables_1_3) : w ∈ lw_tbl := List.mem_append_right _ (List.mem_append_right _ (List.mem_append_right _ (List.mem_append_left _ h)))
theorem ms_3 {w : Cond} (h : w ∈ tables_1_3) (hg : goodWord w = true) : w ∈ xm_tb := List.mem_filter.mpr ⟨mt_3 h, hg⟩
theorem mt_4 {w : Cond} (h : w ∈ tables_1_4) : w ∈ lw_tbl := List.mem_append_right _ (List.mem_append_right _ (List.mem_append_right _ (List.mem_append_right _ (List.mem_append_left _ h))))
theorem ms_4 {w : Cond} (h : w ∈ tables_1_4) (hg : goodWord w = true) : w ∈ xm_tb := List.mem_filter.mpr ⟨mt_4 h, hg⟩
theorem mt_5 {w : Cond} (h : w ∈ tables_1_5) : w ∈ lw_tbl := List.mem_append_right _ (List.mem_append_right _ (List.mem_append_right _ (List.mem_append_right _ (List.mem_append_right _ (List.mem_append_left _ h)))))
theorem ms_5 {w : Cond} (h : w ∈ tables_1_5) (hg : goodWord w = true) : w ∈ xm_tb := List.mem_filter.mpr ⟨mt_5 h, hg⟩
theorem mt_6 {w : Cond} (h : w ∈ tables_1_6) : w ∈ lw_tbl := List.mem_append_right _ (List.mem_append_right _ (List.mem_append_right _ (List.mem_append_right _ (List.mem_append_right _ (List.mem_append_right _ (h))))))
theorem ms_6 {w : Cond} (h : w ∈ tables_1_6) (hg : goodWord w = true) : w ∈ xm_tb := List.mem_filter.mpr ⟨mt_6 h, hg⟩
theorem tw_216 : Cond.methodLink RX5 28 yJ7_fill_53178 ∈ xm_tb := ms_1 (List.mem_of_getElem? (i := 216) (by decide +kernel)) rfl
theorem tw_280 : Cond.methodLink RX11 73 yX2_openAll ∈ xm_tb := ms_2 (List.mem_of_getElem? (i := 40) (by decide +kernel)) rfl
theorem tw_284 : (Cond.constantLong "EndingCourt$Box" (21 : Nat) (-3000000000000 : Int64)) ∈ xm_tb := ms_2 (List.mem_of_getElem? (i := 44) (by decide +kernel)) rfl
theorem tw_320 : Cond.methodLink RX11 77 yX7_startAnew ∈ xm_tb := ms_2 (List.mem_of_getElem? (i := 80) (by decide +kernel)) rfl
theorem tw_324 : Cond.methodLink RX11 80 yJ7_fill_d0a16 ∈ xm_tb := ms_2 (List.mem_of_getElem? (i := 84) (by decide +kernel)) rfl
theorem tw_327 : Cond.methodLink RX11 86 yX2_zeroAll ∈ xm_tb := ms_2 (List.mem_of_getElem? (i := 87) (by decide +kernel)) rfl
theorem tw_331 : Cond.methodLink RX2 15 yJ7_fill_d0a16 ∈ xm_tb := ms_2 (List.mem_of_getElem? (i := 91) (by decide +kernel)) rfl
theorem tw_332 : Cond.methodLink RX11 89 yX4_forgetRing ∈ xm_tb := ms_2 (List.mem_of_getElem? (i := 92) (by decide +kernel)) rfl
theorem tw_336 : Cond.methodLink RX11 92 yX5_forgetAll ∈ xm_tb := ms_2 (List.mem_of_getElem? (i := 96) (by decide +kernel)) rfl
theorem tw_340 : Cond.methodLink RX11 95 yX11_openTheBox ∈ xm_tb := ms_2 (List.mem_of_getElem? (i := 100) (by decide +kernel)) rfl
theorem tw_344 : Cond.methodLink RX11 255 yX11_forgetPlaces ∈ xm_tb := ms_2 (List.mem_of_getElem? (i := 104) (by decide +kernel)) rfl
theorem tw_352 : Cond.methodLink RX11 101 yX7_addBody ∈ xm_tb := ms_2 (List.mem_of_getElem? (i := 112) (by decide +kernel)) rfl
theorem tw_356 : Cond.methodLink RX7 25 yX1_startAnew ∈ xm_tb := ms_2 (List.mem_of_getElem? (i := 116) (by decide +kernel)) rfl
theorem tw_360 : Cond.methodLink RX1 36 yX0_putSame ∈ xm_tb := ms_2 (List.mem_of_getElem? (i := 120) (by decide +kernel)) rfl
theorem tw_368 : Cond.methodLink RX11 105 yX7_has ∈ xm_tb := ms_2 (List.mem_of_getElem? (i := 128) (by decide +kernel)) rfl
theorem tw_372 : Cond.methodLink RX11 109 yX11_isCode ∈ xm_tb := ms_2 (List.mem_of_getElem? (i := 132) (by decide +kernel)) rfl
theorem tw_375 : (Cond.constant "EndingCourt" (299 : Nat) (68921 : Int32)) ∈ xm_tb := ms_2 (List.mem_of_getElem? (i := 135) (by decide +kernel)) rfl
theorem tw_376 : Cond.methodLink RX11 112 yX11_isConstant ∈ xm_tb := ms_2 (List.mem_of_getElem? (i := 136) (by decide +kernel)) rfl
theorem tw_379 : Cond.methodLink RX11 124 yX1_addGuard ∈ xm_tb := ms_2 (List.mem_of_getElem? (i := 139) (by decide +kernel)) rfl
theorem tw_383 : Cond.methodLink RX1 40 yX0_put ∈ xm_tb := ms_2 (List.mem_of_getElem? (i := 143) (by decide +kernel)) rfl
theorem tw_391 : Cond.methodLink RX11 128 yX7_hasNumber ∈ xm_tb := ms_2 (List.mem_of_getElem? (i := 151) (by decide +kernel)) rfl
theorem tw_395 : Cond.methodLink RX11 135 yX0_put ∈ xm_tb := ms_2 (List.mem_of_getElem? (i := 155) (by decide +kernel)) rfl
theorem tw_404 : Cond.methodLink RX11 140 yX11_isGiven ∈ xm_tb := ms_2 (List.mem_of_getElem? (i := 164) (by decide +kernel)) rfl
theorem tw_407 : (Cond.constant "EndingCourt" (300 : Nat) (-1000000 : Int32)) ∈ xm_tb := ms_2 (List.mem_of_getElem? (i := 167) (by decide +kernel)) rfl
theorem tw_408 : (Cond.constant "EndingCourt" (301 : Nat) (1000000 : Int32)) ∈ xm_tb := ms_2 (List.mem_of_getElem? (i := 168) (by decide +kernel)) rfl
theorem tw_417 : Cond.methodLink RX11 143 yX11_isTurns ∈ xm_tb := ms_2 (List.mem_of_getElem? (i := 177) (by decide +kernel)) rfl
theorem tw_420 : Cond.methodLink RX11 146 yX7_step ∈ xm_tb := ms_2 (List.mem_of_getElem? (i := 180) (by decide +kernel)) rfl
theorem tw_424 : Cond.methodLink RX7 32 yX7_chosen ∈ xm_tb := ms_2 (List.mem_of_getElem? (i := 184) (by decide +kernel)) rfl
theorem tw_428 : Cond.methodLink RX7 28 yX1_holdsAt ∈ xm_tb := ms_2 (List.mem_of_getElem? (i := 188) (by decide +kernel)) rfl
theorem tw_432 : Cond.methodLink RX1 44 yX0_valueAt ∈ xm_tb := ms_2 (List.mem_of_getElem? (i := 192) (by decide +kernel)) rfl
theorem tw_439 : Cond.methodLink RX7 36 yX1_move ∈ xm_tb := ms_2 (List.mem_of_getElem? (i := 199) (by decide +kernel)) rfl
theorem tw_443 : (Cond.constantLong "EndingCourt$Body" (54 : Nat) (1000000000000 : Int64)) ∈ xm_tb := ms_2 (List.mem_of_getElem? (i := 203) (by decide +kernel)) rfl
theorem tw_451 : Cond.methodLink RX11 150 yX7_chosen ∈ xm_tb := ms_2 (List.mem_of_getElem? (i := 211) (by decide +kernel)) rfl
theorem tw_456 : Cond.methodLink RX11 153 yX4_findRing ∈ xm_tb := ms_2 (List.mem_of_getElem? (i := 216) (by decide +kernel)) rfl
theorem tw_460 : Cond.methodLink RX4 22 yX4_lengthWithin ∈ xm_tb := ms_2 (List.mem_of_getElem? (i := 220) (by decide +kernel)) rfl
theorem tw_464 : Cond.methodLink RX4 30 yX4_copy ∈ xm_tb := ms_2 (List.mem_of_getElem? (i := 224) (by decide +kernel)) rfl
theorem tw_467 : Cond.methodLink RX4 44 arraycopyName ∈ xm_tb := ms_2 (List.mem_of_getElem? (i := 227) (by decide +kernel)) rfl
theorem tw_470 : Cond.methodLink RX4 34 yX7_step ∈ xm_tb := ms_2 (List.mem_of_getElem? (i := 230) (by decide +kernel)) rfl
theorem tw_471 : Cond.methodLink RX4 40 yX4_isSame ∈ xm_tb := ms_2 (List.mem_of_getElem? (i := 231) (by decide +kernel)) rfl
theorem tw_475 : Cond.methodLink RX4 26 yX4_leadOf ∈ xm_tb := ms_2 (List.mem_of_getElem? (i := 235) (by decide +kernel)) rfl
theorem tw_487 : Cond.methodLink RX11 160 yX11_ask ∈ xm_tb := ms_3 (List.mem_of_getElem? (i := 7) (by decide +kernel)) rfl
theorem tw_491 : Cond.methodLink RX11 164 yX11_learnPlaces ∈ xm_tb := ms_3 (List.mem_of_getElem? (i := 11) (by decide +kernel)) rfl
theorem tw_495 : Cond.methodLink RX11 295 yX9_shape ∈ xm_tb := ms_3 (List.mem_of_getElem? (i := 15) (by decide +kernel)) rfl
theorem tw_499 : Cond.methodLink RX9 18 yX9_gather ∈ xm_tb := ms_3 (List.mem_of_getElem? (i := 19) (by decide +kernel)) rfl
theorem tw_503 : Cond.methodLink RX9 68 yX9_addPlane ∈ xm_tb := ms_3 (List.mem_of_getElem? (i := 23) (by decide +kernel)) rfl
theorem tw_507 : Cond.methodLink RX9 72 yX2_end ∈ xm_tb := ms_3 (List.mem_of_getElem? (i := 27) (by decide +kernel)) rfl
theorem tw_511 : (Cond.constantLong "EndingCourt$Shaper" (78 : Nat) (-3000000000000 : Int64)) ∈ xm_tb := ms_3 (List.mem_of_getElem? (i := 31) (by decide +kernel)) rfl
theorem tw_512 : Cond.methodLink RX9 80 yX9_addAxisPlane ∈ xm_tb := ms_3 (List.mem_of_getElem? (i := 32) (by decide +kernel)) rfl
theorem tw_516 : (Cond.constantLong "EndingCourt$Shaper" (84 : Nat) (-1 : Int64)) ∈ xm_tb := ms_3 (List.mem_of_getElem? (i := 36) (by decide +kernel)) rfl
theorem tw_517 : Cond.methodLink RX9 28 yX6_empty ∈ xm_tb := ms_3 (List.mem_of_getElem? (i := 37) (by decide +kernel)) rfl
theorem tw_521 : Cond.methodLink RX9 33 yX9_findCorners ∈ xm_tb := ms_3 (List.mem_of_getElem? (i := 41) (by decide +kernel)) rfl
theorem tw_525 : Cond.methodLink RX9 89 yX9_meet ∈ xm_tb := ms_3 (List.mem_of_getElem? (i := 45) (by decide +kernel)) rfl
theorem tw_529 : Cond.methodLink RX9 106 yX9_cross ∈ xm_tb := ms_3 (List.mem_of_getElem? (i := 49) (by decide +kernel)) rfl
theorem tw_533 : Cond.methodLink RX9 110 yJ9_abs_067f4 ∈ xm_tb := ms_3 (List.mem_of_getElem? (i := 53) (by decide +kernel)) rfl
theorem tw_536 : Cond.methodLink RX9 93 yX9_isInside ∈ xm_tb := ms_3 (List.mem_of_getElem? (i := 56) (by decide +kernel)) rfl
theorem tw_540 : Cond.methodLink RX9 96 yX9_shrink ∈ xm_tb := ms_3 (List.mem_of_getElem? (i := 60) (by decide +kernel)) rfl
theorem tw_544 : Cond.methodLink RX9 116 yX9_commonPart ∈ xm_tb := ms_3 (List.mem_of_getElem? (i := 64) (by decide +kernel)) rfl
theorem tw_547 : Cond.methodLink RX9 99 yX6_add ∈ xm_tb := ms_3 (List.mem_of_getElem? (i := 67) (by decide +kernel)) rfl
theorem tw_551 : Cond.methodLink RX6 20 yX6_hasPoint ∈ xm_tb := ms_3 (List.mem_of_getElem? (i := 71) (by decide +kernel)) rfl
theorem tw_555 : Cond.methodLink RX6 24 arraycopyName ∈ xm_tb := ms_3 (List.mem_of_getElem? (i := 75) (by decide +kernel)) rfl
theorem tw_556 : Cond.methodLink RX9 37 yX6_isEmpty ∈ xm_tb := ms_3 (List.mem_of_getElem? (i := 76) (by decide +kernel)) rfl
theorem tw_560 : Cond.methodLink RX9 41 yX9_findDirections ∈ xm_tb := ms_3 (List.mem_of_getElem? (i := 80) (by decide +kernel)) rfl
theorem tw_564 : Cond.methodLink RX9 103 yX9_follow ∈ xm_tb := ms_3 (List.mem_of_getElem? (i := 84) (by decide +kernel)) rfl
theorem tw_568 : Cond.methodLink RX11 167 yX7_isRankedBy ∈ xm_tb := ms_3 (List.mem_of_getElem? (i := 88) (by decide +kernel)) rfl
theorem tw_572 : Cond.methodLink RX7 39 yX1_ranksBy ∈ xm_tb := ms_3 (List.mem_of_getElem? (i := 92) (by decide +kernel)) rfl
theorem tw_576 : Cond.methodLink RX1 75 yX1_binds ∈ xm_tb := ms_3 (List.mem_of_getElem? (i := 96) (by decide +kernel)) rfl
theorem tw_580 : Cond.methodLink RX1 60 yX6_isBoundBelow ∈ xm_tb := ms_3 (List.mem_of_getElem? (i := 100) (by decide +kernel)) rfl
theorem tw_584 : Cond.methodLink RX6 30 yX6_valueAt ∈ xm_tb := ms_3 (List.mem_of_getElem? (i := 104) (by decide +kernel)) rfl
theorem tw_588 : Cond.methodLink RX1 78 yX1_changesAtMost ∈ xm_tb := ms_3 (List.mem_of_getElem? (i := 108) (by decide +kernel)) rfl
theorem tw_592 : Cond.methodLink RX1 71 yX6_isNowherePositive ∈ xm_tb := ms_3 (List.mem_of_getElem? (i := 112) (by decide +kernel)) rfl
theorem tw_600 : Cond.methodLink RX11 171 yX1_binds ∈ xm_tb := ms_3 (List.mem_of_getElem? (i := 120) (by decide +kernel)) rfl
theorem tw_601 : Cond.methodLink RX11 174 yX1_changesAtMost ∈ xm_tb := ms_3 (List.mem_of_getElem? (i := 121) (by decide +kernel)) rfl
theorem tw_606 : (Cond.constantLong "EndingCourt" (178 : Nat) (-9000000000000000 : Int64)) ∈ xm_tb := ms_3 (List.mem_of_getElem? (i := 126) (by decide +kernel)) rfl
theorem tw_607 : Cond.methodLink RX11 180 yX7_floorOf ∈ xm_tb := ms_3 (List.mem_of_getElem? (i := 127) (by decide +kernel)) rfl
theorem tw_611 : Cond.methodLink RX7 47 yX6_isEmpty ∈ xm_tb := ms_3 (List.mem_of_getElem? (i := 131) (by decide +kernel)) rfl
theorem tw_612 : Cond.methodLink RX7 53 yX6_floorOf ∈ xm_tb := ms_3 (List.mem_of_getElem? (i := 132) (by decide +kernel)) rfl
theorem tw_616 : Cond.methodLink RX6 34 yJ9_floorDiv_f86c9 ∈ xm_tb := ms_3 (List.mem_of_getElem? (i := 136) (by decide +kernel)) rfl
theorem tw_619 : Cond.methodLink RX6 40 yJ9_min_f86c9 ∈ xm_tb := ms_3 (List.mem_of_getElem? (i := 139) (by decide +kernel)) rfl
theorem tw_622 : Cond.methodLink RX7 57 yJ9_min_f86c9 ∈ xm_tb := ms_3 (List.mem_of_getElem? (i := 142) (by decide +kernel)) rfl
theorem tw_627 : Cond.methodLink RX11 184 yX11_isSize ∈ xm_tb := ms_3 (List.mem_of_getElem? (i := 147) (by decide +kernel)) rfl
theorem tw_630 : Cond.methodLink RX11 187 yX5_seekRank ∈ xm_tb := ms_3 (List.mem_of_getElem? (i := 150) (by decide +kernel)) rfl
theorem tw_634 : Cond.methodLink RX5 47 yX10_start ∈ xm_tb := ms_3 (List.mem_of_getElem? (i := 154) (by decide +kernel)) rfl
theorem tw_638 : Cond.methodLink RX5 51 yX10_next ∈ xm_tb := ms_3 (List.mem_of_getElem? (i := 158) (by decide +kernel)) rfl
theorem tw_642 : Cond.methodLink RX10 31 yX10_nextPair ∈ xm_tb := ms_3 (List.mem_of_getElem? (i := 162) (by decide +kernel)) rfl
theorem tw_646 : Cond.methodLink RX10 35 yJ9_abs_0f7a4 ∈ xm_tb := ms_3 (List.mem_of_getElem? (i := 166) (by decide +kernel)) rfl
theorem tw_649 : Cond.methodLink RX5 58 yX7_isRankedBy ∈ xm_tb := ms_3 (List.mem_of_getElem? (i := 169) (by decide +kernel)) rfl
theorem tw_650 : Cond.methodLink RX5 62 arraycopyName ∈ xm_tb := ms_3 (List.mem_of_getElem? (i := 170) (by decide +kernel)) rfl
theorem tw_651 : Cond.methodLink RX5 68 yX7_floorOf ∈ xm_tb := ms_3 (List.mem_of_getElem? (i := 171) (by decide +kernel)) rfl
theorem tw_652 : Cond.methodLink RX5 76 yX5_keep ∈ xm_tb := ms_3 (List.mem_of_getElem? (i := 172) (by decide +kernel)) rfl
theorem tw_660 : Cond.methodLink RX11 191 yX5_seekRows ∈ xm_tb := ms_3 (List.mem_of_getElem? (i := 180) (by decide +kernel)) rfl
theorem tw_664 : Cond.methodLink RX5 81 yX5_seekRow ∈ xm_tb := ms_3 (List.mem_of_getElem? (i := 184) (by decide +kernel)) rfl
theorem tw_668 : Cond.methodLink RX5 89 yX5_isRow ∈ xm_tb := ms_3 (List.mem_of_getElem? (i := 188) (by decide +kernel)) rfl
theorem tw_672 : Cond.methodLink RX5 97 yX1_changesAtMost ∈ xm_tb := ms_3 (List.mem_of_getElem? (i := 192) (by decide +kernel)) rfl
theorem tw_673 : Cond.methodLink RX5 103 yX1_ranksBy ∈ xm_tb := ms_3 (List.mem_of_getElem? (i := 193) (by decide +kernel)) rfl
theorem tw_674 : Cond.methodLink RX5 85 yX5_release ∈ xm_tb := ms_3 (List.mem_of_getElem? (i := 194) (by decide +kernel)) rfl
theorem tw_682 : Cond.methodLink RX11 195 yX5_weightOf ∈ xm_tb := ms_3 (List.mem_of_getElem? (i := 202) (by decide +kernel)) rfl
theorem tw_694 : (Cond.constantLong "EndingCourt" (206 : Nat) (-1 : Int64)) ∈ xm_tb := ms_3 (List.mem_of_getElem? (i := 214) (by decide +kernel)) rfl
theorem tw_695 : Cond.methodLink RX11 208 yX2_encloses ∈ xm_tb := ms_3 (List.mem_of_getElem? (i := 215) (by decide +kernel)) rfl
theorem tw_699 : Cond.methodLink RX2 29 yX2_end ∈ xm_tb := ms_3 (List.mem_of_getElem? (i := 219) (by decide +kernel)) rfl
theorem tw_700 : (Cond.constantLong "EndingCourt" (212 : Nat) (-3 : Int64)) ∈ xm_tb := ms_3 (List.mem_of_getElem? (i := 220) (by decide +kernel)) rfl
theorem tw_701 : Cond.methodLink RX11 217 yX11_valueOf ∈ xm_tb := ms_3 (List.mem_of_getElem? (i := 221) (by decide +kernel)) rfl
theorem tw_702 : Cond.methodLink RX11 225 yJ9_max_f86c9 ∈ xm_tb := ms_3 (List.mem_of_getElem? (i := 222) (by decide +kernel)) rfl
theorem tw_709 : Cond.methodLink RX11 231 yX11_isSide ∈ xm_tb := ms_3 (List.mem_of_getElem? (i := 229) (by decide +kernel)) rfl
theorem tw_712 : (Cond.constant "EndingCourt" (234 : Nat) (-2000000 : Int32)) ∈ xm_tb := ms_3 (List.mem_of_getElem? (i := 232) (by decide +kernel)) rfl
theorem tw_713 : (Cond.constantLong "EndingCourt" (235 : Nat) (-3000000000000 : Int64)) ∈ xm_tb := ms_3 (List.mem_of_getElem? (i := 233) (by decide +kernel)) rfl
theorem tw_714 : Cond.methodLink RX11 237 yX2_put ∈ xm_tb := ms_3 (List.mem_of_getElem? (i := 234) (by decide +kernel)) rfl
theorem tw_722 : Cond.methodLink RX11 240 yX2_isCrossed ∈ xm_tb := ms_4 (List.mem_of_getElem? (i := 2) (by decide +kernel)) rfl
theorem tw_726 : Cond.methodLink RX11 244 yX8_goRound ∈ xm_tb := ms_4 (List.mem_of_getElem? (i := 6) (by decide +kernel)) rfl
theorem tw_730 : Cond.methodLink RX8 21 yX2_copyFrom ∈ xm_tb := ms_4 (List.mem_of_getElem? (i := 10) (by decide +kernel)) rfl
theorem tw_734 : Cond.methodLink RX2 23 arraycopyName ∈ xm_tb := ms_4 (List.mem_of_getElem? (i := 14) (by decide +kernel)) rfl
theorem tw_735 : Cond.methodLink RX8 25 yX8_lookAtBodies ∈ xm_tb := ms_4 (List.mem_of_getElem? (i := 15) (by decide +kernel)) rfl
theorem tw_739 : Cond.methodLink RX8 47 yX1_isPassedOver ∈ xm_tb := ms_4 (List.mem_of_getElem? (i := 19) (by decide +kernel)) rfl
theorem tw_743 : Cond.methodLink RX1 48 yX0_farthest ∈ xm_tb := ms_4 (List.mem_of_getElem? (i := 23) (by decide +kernel)) rfl
theorem tw_747 : Cond.methodLink RX0 23 yX2_end ∈ xm_tb := ms_4 (List.mem_of_getElem? (i := 27) (by decide +kernel)) rfl
theorem tw_748 : (Cond.constantLong "EndingCourt$Affine" (29 : Nat) (-3000000000000 : Int64)) ∈ xm_tb := ms_4 (List.mem_of_getElem? (i := 28) (by decide +kernel)) rfl
theorem tw_749 : (Cond.constantLong "EndingCourt$Body" (52 : Nat) (-3000000000000 : Int64)) ∈ xm_tb := ms_4 (List.mem_of_getElem? (i := 29) (by decide +kernel)) rfl
theorem tw_750 : Cond.methodLink RX8 60 yX0_farthest ∈ xm_tb := ms_4 (List.mem_of_getElem? (i := 30) (by decide +kernel)) rfl
theorem tw_751 : Cond.methodLink RX8 66 yX2_widen ∈ xm_tb := ms_4 (List.mem_of_getElem? (i := 31) (by decide +kernel)) rfl
theorem tw_755 : Cond.methodLink RX2 39 yX2_put ∈ xm_tb := ms_4 (List.mem_of_getElem? (i := 35) (by decide +kernel)) rfl
theorem tw_756 : Cond.methodLink RX2 43 yJ9_min_f86c9 ∈ xm_tb := ms_4 (List.mem_of_getElem? (i := 36) (by decide +kernel)) rfl
theorem tw_757 : Cond.methodLink RX2 49 yJ9_max_f86c9 ∈ xm_tb := ms_4 (List.mem_of_getElem? (i := 37) (by decide +kernel)) rfl
theorem tw_758 : Cond.methodLink RX8 29 yX8_settle ∈ xm_tb := ms_4 (List.mem_of_getElem? (i := 38) (by decide +kernel)) rfl
theorem tw_762 : (Cond.constantLong "EndingCourt$Rounds" (74 : Nat) (-3000000000000 : Int64)) ∈ xm_tb := ms_4 (List.mem_of_getElem? (i := 42) (by decide +kernel)) rfl
theorem tw_763 : Cond.methodLink RX8 33 yX2_isOut ∈ xm_tb := ms_4 (List.mem_of_getElem? (i := 43) (by decide +kernel)) rfl
theorem tw_767 : (Cond.constantLong "EndingCourt$Box" (33 : Nat) (1000000000 : Int64)) ∈ xm_tb := ms_4 (List.mem_of_getElem? (i := 47) (by decide +kernel)) rfl
theorem tw_769 : Cond.methodLink RX11 251 yX2_copyFrom ∈ xm_tb := ms_4 (List.mem_of_getElem? (i := 49) (by decide +kernel)) rfl
theorem tw_774 : Cond.methodLink RX11 258 yX2_end ∈ xm_tb := ms_4 (List.mem_of_getElem? (i := 54) (by decide +kernel)) rfl
theorem tw_783 : Cond.methodLink RX11 262 yX11_isFunction ∈ xm_tb := ms_4 (List.mem_of_getElem? (i := 63) (by decide +kernel)) rfl
theorem tw_786 : (Cond.constant "EndingCourt" (265 : Nat) (43046721 : Int32)) ∈ xm_tb := ms_4 (List.mem_of_getElem? (i := 66) (by decide +kernel)) rfl
theorem tw_787 : Cond.methodLink RX11 267 yX3_add ∈ xm_tb := ms_4 (List.mem_of_getElem? (i := 67) (by decide +kernel)) rfl
theorem tw_791 : Cond.methodLink RX3 35 yX3_masksOf ∈ xm_tb := ms_4 (List.mem_of_getElem? (i := 71) (by decide +kernel)) rfl
theorem tw_794 : Cond.methodLink RX3 39 yX3_packed ∈ xm_tb := ms_4 (List.mem_of_getElem? (i := 74) (by decide +kernel)) rfl
theorem tw_797 : (Cond.constantLong "EndingCourt$Calls" (93 : Nat) (4294967295 : Int64)) ∈ xm_tb := ms_4 (List.mem_of_getElem? (i := 77) (by decide +kernel)) rfl
theorem tw_802 : Cond.methodLink RX11 271 yX3_removeAll ∈ xm_tb := ms_4 (List.mem_of_getElem? (i := 82) (by decide +kernel)) rfl
theorem tw_810 : Cond.methodLink RX11 274 yX3_judge ∈ xm_tb := ms_4 (List.mem_of_getElem? (i := 90) (by decide +kernel)) rfl
theorem tw_814 : Cond.methodLink RX3 43 yX3_makeAll ∈ xm_tb := ms_4 (List.mem_of_getElem? (i := 94) (by decide +kernel)) rfl
theorem tw_818 : Cond.methodLink RX3 61 yJ7_fill_53178 ∈ xm_tb := ms_4 (List.mem_of_getElem? (i := 98) (by decide +kernel)) rfl
theorem tw_819 : Cond.methodLink RX3 67 yX3_keep ∈ xm_tb := ms_4 (List.mem_of_getElem? (i := 99) (by decide +kernel)) rfl
theorem tw_823 : (Cond.constantLong "EndingCourt$Calls" (78 : Nat) (-7046029254386353131 : Int64)) ∈ xm_tb := ms_4 (List.mem_of_getElem? (i := 103) (by decide +kernel)) rfl
theorem tw_824 : Cond.methodLink RX3 71 yX3_toOf ∈ xm_tb := ms_4 (List.mem_of_getElem? (i := 104) (by decide +kernel)) rfl
theorem tw_827 : Cond.methodLink RX3 54 yX3_fromOf ∈ xm_tb := ms_4 (List.mem_of_getElem? (i := 107) (by decide +kernel)) rfl
theorem tw_830 : Cond.methodLink RX3 74 yX3_together ∈ xm_tb := ms_4 (List.mem_of_getElem? (i := 110) (by decide +kernel)) rfl
theorem tw_833 : Cond.methodLink RX3 90 yX3_toldOf ∈ xm_tb := ms_4 (List.mem_of_getElem? (i := 113) (by decide +kernel)) rfl
theorem tw_836 : (Cond.constant "EndingCourt$Calls" (95 : Nat) (65535 : Int32)) ∈ xm_tb := ms_4 (List.mem_of_getElem? (i := 116) (by decide +kernel)) rfl
theorem tw_837 : Cond.methodLink RX3 87 yX3_lessOf ∈ xm_tb := ms_4 (List.mem_of_getElem? (i := 117) (by decide +kernel)) rfl
theorem tw_840 : Cond.methodLink RX3 50 yX3_firstFault ∈ xm_tb := ms_4 (List.mem_of_getElem? (i := 120) (by decide +kernel)) rfl
theorem tw_844 : Cond.methodLink RX3 80 yX3_isFault ∈ xm_tb := ms_4 (List.mem_of_getElem? (i := 124) (by decide +kernel)) rfl
theorem tw_847 : Cond.methodLink RX3 83 yX3_isAhead ∈ xm_tb := ms_4 (List.mem_of_getElem? (i := 127) (by decide +kernel)) rfl
theorem tw_850 : Cond.methodLink RX3 58 yX3_numberOf ∈ xm_tb := ms_4 (List.mem_of_getElem? (i := 130) (by decide +kernel)) rfl
theorem tw_867 : (Cond.constant "EndingCourtModel" (61 : Nat) (32768 : Int32)) ∈ xm_tb := ms_4 (List.mem_of_getElem? (i := 147) (by decide +kernel)) rfl
theorem tw_868 : Cond.methodLink RX12 128 yX12_openAll ∈ xm_tb := ms_4 (List.mem_of_getElem? (i := 148) (by decide +kernel)) rfl
theorem tw_1036 : Cond.methodLink RX12 142 yX12_isBody ∈ xm_tb := ms_5 (List.mem_of_getElem? (i := 76) (by decide +kernel)) rfl
theorem tw_1040 : Cond.methodLink RX12 146 yX12_areWeights ∈ xm_tb := ms_5 (List.mem_of_getElem? (i := 80) (by decide +kernel)) rfl
theorem tw_1043 : (Cond.constant "EndingCourtModel" (141 : Nat) (68921 : Int32)) ∈ xm_tb := ms_5 (List.mem_of_getElem? (i := 83) (by decide +kernel)) rfl
theorem tw_1044 : Cond.methodLink RX12 150 yX12_lay ∈ xm_tb := ms_5 (List.mem_of_getElem? (i := 84) (by decide +kernel)) rfl
theorem tw_1060 : (Cond.constant "EndingCourtModel" (154 : Nat) (-1000000 : Int32)) ∈ xm_tb := ms_5 (List.mem_of_getElem? (i := 100) (by decide +kernel)) rfl
theorem tw_1061 : (Cond.constant "EndingCourtModel" (155 : Nat) (1000000 : Int32)) ∈ xm_tb := ms_5 (List.mem_of_getElem? (i := 101) (by decide +kernel)) rfl
theorem tw_1070 : Cond.methodLink RX12 172 yX12_turnFrom ∈ xm_tb := ms_5 (List.mem_of_getElem? (i := 110) (by decide +kernel)) rfl
theorem tw_1074 : Cond.methodLink RX12 164 yX12_turnAt ∈ xm_tb := ms_5 (List.mem_of_getElem? (i := 114) (by decide +kernel)) rfl
theorem tw_1078 : Cond.methodLink RX12 156 yX12_of ∈ xm_tb := ms_5 (List.mem_of_getElem? (i := 118) (by decide +kernel)) rfl
theorem tw_1081 : Cond.methodLink RX12 168 yX12_isFar ∈ xm_tb := ms_5 (List.mem_of_getElem? (i := 121) (by decide +kernel)) rfl
theorem tw_1084 : (Cond.constantLong "EndingCourtModel" (160 : Nat) (1000000000000 : Int64)) ∈ xm_tb := ms_5 (List.mem_of_getElem? (i := 124) (by decide +kernel)) rfl
theorem tw_1085 : (Cond.constantLong "EndingCourtModel" (162 : Nat) (-1000000000000 : Int64)) ∈ xm_tb := ms_5 (List.mem_of_getElem? (i := 125) (by decide +kernel)) rfl
theorem tw_1094 : Cond.methodLink RX12 181 yX12_keep ∈ xm_tb := ms_5 (List.mem_of_getElem? (i := 134) (by decide +kernel)) rfl
theorem tw_1098 : (Cond.constantLong "EndingCourtModel" (175 : Nat) (31 : Int64)) ∈ xm_tb := ms_5 (List.mem_of_getElem? (i := 138) (by decide +kernel)) rfl
theorem tw_1099 : (Cond.constantLong "EndingCourtModel" (177 : Nat) (1000003 : Int64)) ∈ xm_tb := ms_5 (List.mem_of_getElem? (i := 139) (by decide +kernel)) rfl
theorem tw_1100 : (Cond.constantLong "EndingCourtModel" (179 : Nat) (32767 : Int64)) ∈ xm_tb := ms_5 (List.mem_of_getElem? (i := 140) (by decide +kernel)) rfl
theorem tw_1109 : Cond.methodLink RX12 289 yX12_isSum ∈ xm_tb := ms_5 (List.mem_of_getElem? (i := 149) (by decide +kernel)) rfl
theorem tw_1113 : Cond.methodLink RX12 292 yX12_doesRank ∈ xm_tb := ms_5 (List.mem_of_getElem? (i := 153) (by decide +kernel)) rfl
theorem tw_1117 : Cond.methodLink RX12 285 yX12_tellsOf ∈ xm_tb := ms_5 (List.mem_of_getElem? (i := 157) (by decide +kernel)) rfl
theorem tw_1121 : Cond.methodLink RX12 276 yX12_laySides ∈ xm_tb := ms_5 (List.mem_of_getElem? (i := 161) (by decide +kernel)) rfl
theorem tw_1125 : Cond.methodLink RX12 188 yX12_addSide ∈ xm_tb := ms_5 (List.mem_of_getElem? (i := 165) (by decide +kernel)) rfl
theorem tw_1129 : (Cond.constantLong "EndingCourtModel" (192 : Nat) (-1 : Int64)) ∈ xm_tb := ms_5 (List.mem_of_getElem? (i := 169) (by decide +kernel)) rfl
theorem tw_1130 : Cond.methodLink RX12 197 yX12_isZero ∈ xm_tb := ms_5 (List.mem_of_getElem? (i := 170) (by decide +kernel)) rfl
theorem tw_1134 : Cond.methodLink RX12 200 yX12_twoLeaveNothing ∈ xm_tb := ms_5 (List.mem_of_getElem? (i := 174) (by decide +kernel)) rfl
theorem tw_1138 : Cond.methodLink RX12 215 yX12_areParallel ∈ xm_tb := ms_5 (List.mem_of_getElem? (i := 178) (by decide +kernel)) rfl
theorem tw_1142 : Cond.methodLink RX12 211 yX12_cross ∈ xm_tb := ms_5 (List.mem_of_getElem? (i := 182) (by decide +kernel)) rfl
theorem tw_1146 : Cond.methodLink RX12 218 yJ9_abs_067f4 ∈ xm_tb := ms_5 (List.mem_of_getElem? (i := 186) (by decide +kernel)) rfl
theorem tw_1147 : Cond.methodLink RX12 203 yX12_threeLeaveNothing ∈ xm_tb := ms_5 (List.mem_of_getElem? (i := 187) (by decide +kernel)) rfl
theorem tw_1151 : Cond.methodLink RX12 224 yX12_determinant ∈ xm_tb := ms_5 (List.mem_of_getElem? (i := 191) (by decide +kernel)) rfl
theorem tw_1155 : Cond.methodLink RX12 227 yX12_leaveNothing ∈ xm_tb := ms_5 (List.mem_of_getElem? (i := 195) (by decide +kernel)) rfl
theorem tw_1159 : Cond.methodLink RX12 207 yX12_fourLeaveNothing ∈ xm_tb := ms_5 (List.mem_of_getElem? (i := 199) (by decide +kernel)) rfl
theorem tw_1163 : Cond.methodLink RX12 279 yX12_findLeast ∈ xm_tb := ms_5 (List.mem_of_getElem? (i := 203) (by decide +kernel)) rfl
theorem tw_1167 : Cond.methodLink RX12 257 yX12_byOne ∈ xm_tb := ms_5 (List.mem_of_getElem? (i := 207) (by decide +kernel)) rfl
theorem tw_1171 : Cond.methodLink RX12 273 yX12_crossWanted ∈ xm_tb := ms_5 (List.mem_of_getElem? (i := 211) (by decide +kernel)) rfl
theorem tw_1175 : Cond.methodLink RX12 269 yX12_offer ∈ xm_tb := ms_5 (List.mem_of_getElem? (i := 215) (by decide +kernel)) rfl
theorem tw_1179 : (Cond.constantLong "EndingCourtModel" (231 : Nat) (1000000 : Int64)) ∈ xm_tb := ms_5 (List.mem_of_getElem? (i := 219) (by decide +kernel)) rfl
theorem tw_1180 : Cond.methodLink RX12 233 yJ9_floorDiv_f86c9 ∈ xm_tb := ms_5 (List.mem_of_getElem? (i := 220) (by decide +kernel)) rfl
theorem tw_1181 : Cond.methodLink RX12 237 yJ9_floorMod_f86c9 ∈ xm_tb := ms_5 (List.mem_of_getElem? (i := 221) (by decide +kernel)) rfl
theorem tw_1184 : Cond.methodLink RX12 253 yX12_isAbove ∈ xm_tb := ms_5 (List.mem_of_getElem? (i := 224) (by decide +kernel)) rfl
theorem tw_1187 : Cond.methodLink RX12 261 yX12_byTwo ∈ xm_tb := ms_5 (List.mem_of_getElem? (i := 227) (by decide +kernel)) rfl
theorem tw_1191 : Cond.methodLink RX12 265 yX12_determinantWanted ∈ xm_tb := ms_5 (List.mem_of_getElem? (i := 231) (by decide +kernel)) rfl
theorem tw_1195 : Cond.methodLink RX12 282 yX12_isLeastAtLeast ∈ xm_tb := ms_5 (List.mem_of_getElem? (i := 235) (by decide +kernel)) rfl
theorem tw_1207 : Cond.methodLink RX12 295 yX12_floorOf ∈ xm_tb := ms_6 (List.mem_of_getElem? (i := 7) (by decide +kernel)) rfl
theorem tw_1211 : (Cond.constantLong "EndingCourtModel" (298 : Nat) (-9000000000000000 : Int64)) ∈ xm_tb := ms_6 (List.mem_of_getElem? (i := 11) (by decide +kernel)) rfl
theorem tw_1216 : Cond.methodLink RX12 309 yX12_isSize ∈ xm_tb := ms_6 (List.mem_of_getElem? (i := 16) (by decide +kernel)) rfl
theorem tw_1219 : Cond.methodLink RX12 312 yX12_firstSum ∈ xm_tb := ms_6 (List.mem_of_getElem? (i := 19) (by decide +kernel)) rfl
theorem tw_1223 : Cond.methodLink RX12 306 yX12_nextSum ∈ xm_tb := ms_6 (List.mem_of_getElem? (i := 23) (by decide +kernel)) rfl
theorem tw_1227 : Cond.methodLink RX12 300 yJ9_abs_0f7a4 ∈ xm_tb := ms_6 (List.mem_of_getElem? (i := 27) (by decide +kernel)) rfl
theorem tw_1228 : Cond.methodLink RX12 303 yX12_step ∈ xm_tb := ms_6 (List.mem_of_getElem? (i := 28) (by decide +kernel)) rfl
theorem tw_1236 : Cond.methodLink RX12 315 yX12_takes ∈ xm_tb := ms_6 (List.mem_of_getElem? (i := 36) (by decide +kernel)) rfl
theorem tw_1252 : (Cond.constantLong "EndingCourtModel" (319 : Nat) (-3 : Int64)) ∈ xm_tb := ms_6 (List.mem_of_getElem? (i := 52) (by decide +kernel)) rfl
theorem tw_1257 : (Cond.constant "EndingCourtModel" (321 : Nat) (-2000000 : Int32)) ∈ xm_tb := ms_6 (List.mem_of_getElem? (i := 57) (by decide +kernel)) rfl
theorem tw_1262 : Cond.methodLink RX12 338 yX12_goRound ∈ xm_tb := ms_6 (List.mem_of_getElem? (i := 62) (by decide +kernel)) rfl
theorem tw_1266 : Cond.methodLink RX12 332 yX12_isPassed ∈ xm_tb := ms_6 (List.mem_of_getElem? (i := 66) (by decide +kernel)) rfl
theorem tw_1270 : Cond.methodLink RX12 328 yX12_reach ∈ xm_tb := ms_6 (List.mem_of_getElem? (i := 70) (by decide +kernel)) rfl
theorem tw_1274 : Cond.methodLink RX12 335 yX12_isChanged ∈ xm_tb := ms_6 (List.mem_of_getElem? (i := 74) (by decide +kernel)) rfl
theorem tw_1278 : (Cond.constantLong "EndingCourtModel" (341 : Nat) (1000000000 : Int64)) ∈ xm_tb := ms_6 (List.mem_of_getElem? (i := 78) (by decide +kernel)) rfl
theorem tw_1279 : (Cond.constantLong "EndingCourtModel" (343 : Nat) (-1000000000 : Int64)) ∈ xm_tb := ms_6 (List.mem_of_getElem? (i := 79) (by decide +kernel)) rfl
theorem tw_1284 : (Cond.constantLong "EndingCourtModel" (345 : Nat) (-3000000000000 : Int64)) ∈ xm_tb := ms_6 (List.mem_of_getElem? (i := 84) (by decide +kernel)) rfl
theorem tw_1293 : (Cond.constant "EndingCourtModel" (347 : Nat) (43046721 : Int32)) ∈ xm_tb := ms_6 (List.mem_of_getElem? (i := 93) (by decide +kernel)) rfl
theorem tw_1302 : Cond.methodLink RX12 362 yX12_makeAll ∈ xm_tb := ms_6 (List.mem_of_getElem? (i := 102) (by decide +kernel)) rfl
theorem tw_1306 : Cond.methodLink RX12 355 yX12_make ∈ xm_tb := ms_6 (List.mem_of_getElem? (i := 106) (by decide +kernel)) rfl
theorem tw_1310 : Cond.methodLink RX12 358 yX12_together ∈ xm_tb := ms_6 (List.mem_of_getElem? (i := 110) (by decide +kernel)) rfl
theorem tw_1314 : Cond.methodLink RX12 351 yX12_spread ∈ xm_tb := ms_6 (List.mem_of_getElem? (i := 114) (by decide +kernel)) rfl
theorem tw_1317 : Cond.methodLink RX12 365 yX12_isAsked ∈ xm_tb := ms_6 (List.mem_of_getElem? (i := 117) (by decide +kernel)) rfl
theorem tn_436 : Cond.methodLinkNest RX0 19 yX11_valueOf "EndingCourt" ∈ lw_tbl := mt_2 (List.mem_of_getElem? (i := 196) (by decide +kernel))
theorem tn_444 : Cond.methodLinkNest RX1 56 yX11_isBeyond "EndingCourt" ∈ lw_tbl := mt_2 (List.mem_of_getElem? (i := 204) (by decide +kernel))
theorem tn_768 : Cond.methodLinkNest RX2 35 yX11_isBeyond "EndingCourt" ∈ lw_tbl := mt_4 (List.mem_of_getElem? (i := 48) (by decide +kernel))
theorem fl_X6_9 : xm_fl RX6 9 6 0 2 RX6 TX6 4 tyX6 := ⟨xc_6, by decide, ms_1 (List.mem_of_getElem? (i := 46) (by decide +kernel)) rfl, rfl, rfl⟩
theorem fl_X6_13 : xm_fl RX6 13 6 1 0 RX6 TX6 4 tyX6 := ⟨xc_6, by decide, ms_1 (List.mem_of_getElem? (i := 47) (by decide +kernel)) rfl, rfl, rfl⟩
theorem fl_X6_17 : xm_fl RX6 17 6 2 0 RX6 TX6 4 tyX6 := ⟨xc_6, by decide, ms_1 (List.mem_of_getElem? (i := 48) (by decide +kernel)) rfl, rfl, rfl⟩
theorem fl_X9_44 : xm_fl RX9 44 6 3 3 RX6 TX6 4 tyX6 := ⟨xc_6, by decide, ms_1 (List.mem_of_getElem? (i := 49) (by decide +kernel)) rfl, rfl, rfl⟩
theorem fl_X11_290 : xm_fl RX11 290 6 3 3 RX6 TX6 4 tyX6 := ⟨xc_6, by decide, ms_1 (List.mem_of_getElem? (i := 50) (by decide +kernel)) rfl, rfl, rfl⟩
theorem fl_X0_9 : xm_fl RX0 9 0 0 2 RX0 TX0 2 tyX0 := ⟨xc_0, by decide, ms_1 (List.mem_of_getElem? (i := 66) (by decide +kernel)) rfl, rfl, rfl⟩
theorem fl_X9_59 : xm_fl RX9 59 0 0 2 RX0 TX0 2 tyX0 := ⟨xc_0, by decide, ms_1 (List.mem_of_getElem? (i := 67) (by decide +kernel)) rfl, rfl, rfl⟩
theorem fl_X1_64 : xm_fl RX1 64 0 0 2 RX0 TX0 2 tyX0 := ⟨xc_0, by decide, ms_1 (List.mem_of_getElem? (i := 68) (by decide +kernel)) rfl, rfl, rfl⟩
theorem fl_X0_15 : xm_fl RX0 15 0 1 0 RX0 TX0 2 tyX0 := ⟨xc_0, by decide, ms_1 (List.mem_of_getElem? (i := 69) (by decide +kernel)) rfl, rfl, rfl⟩
theorem fl_X9_65 : xm_fl RX9 65 0 1 0 RX0 TX0 2 tyX0 := ⟨xc_0, by decide, ms_1 (List.mem_of_getElem? (i := 70) (by decide +kernel)) rfl, rfl, rfl⟩
theorem fl_X1_68 : xm_fl RX1 68 0 1 0 RX0 TX0 2 tyX0 := ⟨xc_0, by decide, ms_1 (List.mem_of_getElem? (i := 71) (by decide +kernel)) rfl, rfl, rfl⟩
theorem fl_X1_11 : xm_fl RX1 11 1 0 2 RX1 TX1 5 tyX1 := ⟨xc_1, by decide, ms_1 (List.mem_of_getElem? (i := 78) (by decide +kernel)) rfl, rfl, rfl⟩
theorem fl_X9_55 : xm_fl RX9 55 1 0 2 RX1 TX1 5 tyX1 := ⟨xc_1, by decide, ms_1 (List.mem_of_getElem? (i := 79) (by decide +kernel)) rfl, rfl, rfl⟩
theorem fl_X1_17 : xm_fl RX1 17 1 1 2 RX1 TX1 5 tyX1 := ⟨xc_1, by decide, ms_1 (List.mem_of_getElem? (i := 80) (by decide +kernel)) rfl, rfl, rfl⟩
theorem fl_X8_56 : xm_fl RX8 56 1 1 2 RX1 TX1 5 tyX1 := ⟨xc_1, by decide, ms_1 (List.mem_of_getElem? (i := 81) (by decide +kernel)) rfl, rfl, rfl⟩
theorem fl_X11_131 : xm_fl RX11 131 1 1 2 RX1 TX1 5 tyX1 := ⟨xc_1, by decide, ms_1 (List.mem_of_getElem? (i := 82) (by decide +kernel)) rfl, rfl, rfl⟩
theorem fl_X1_23 : xm_fl RX1 23 1 2 2 RX1 TX1 5 tyX1 := ⟨xc_1, by decide, ms_1 (List.mem_of_getElem? (i := 83) (by decide +kernel)) rfl, rfl, rfl⟩
theorem fl_X9_22 : xm_fl RX9 22 1 2 2 RX1 TX1 5 tyX1 := ⟨xc_1, by decide, ms_1 (List.mem_of_getElem? (i := 84) (by decide +kernel)) rfl, rfl, rfl⟩
theorem fl_X7_43 : xm_fl RX7 43 1 2 2 RX1 TX1 5 tyX1 := ⟨xc_1, by decide, ms_1 (List.mem_of_getElem? (i := 85) (by decide +kernel)) rfl, rfl, rfl⟩
theorem fl_X11_286 : xm_fl RX11 286 1 2 2 RX1 TX1 5 tyX1 := ⟨xc_1, by decide, ms_1 (List.mem_of_getElem? (i := 86) (by decide +kernel)) rfl, rfl, rfl⟩
theorem fl_X1_27 : xm_fl RX1 27 1 3 2 RX1 TX1 5 tyX1 := ⟨xc_1, by decide, ms_1 (List.mem_of_getElem? (i := 87) (by decide +kernel)) rfl, rfl, rfl⟩
theorem fl_X1_32 : xm_fl RX1 32 1 4 0 RX1 TX1 5 tyX1 := ⟨xc_1, by decide, ms_1 (List.mem_of_getElem? (i := 88) (by decide +kernel)) rfl, rfl, rfl⟩
theorem fl_X9_52 : xm_fl RX9 52 1 4 0 RX1 TX1 5 tyX1 := ⟨xc_1, by decide, ms_1 (List.mem_of_getElem? (i := 89) (by decide +kernel)) rfl, rfl, rfl⟩
theorem fl_X11_119 : xm_fl RX11 119 1 4 0 RX1 TX1 5 tyX1 := ⟨xc_1, by decide, ms_1 (List.mem_of_getElem? (i := 90) (by decide +kernel)) rfl, rfl, rfl⟩
theorem fl_X7_11 : xm_fl RX7 11 7 0 2 RX7 TX7 3 tyX7 := ⟨xc_7, by decide, ms_1 (List.mem_of_getElem? (i := 102) (by decide +kernel)) rfl, rfl, rfl⟩
theorem fl_X8_43 : xm_fl RX8 43 7 0 2 RX7 TX7 3 tyX7 := ⟨xc_7, by decide, ms_1 (List.mem_of_getElem? (i := 103) (by decide +kernel)) rfl, rfl, rfl⟩
theorem fl_X11_115 : xm_fl RX11 115 7 0 2 RX7 TX7 3 tyX7 := ⟨xc_7, by decide, ms_1 (List.mem_of_getElem? (i := 104) (by decide +kernel)) rfl, rfl, rfl⟩
theorem fl_X5_93 : xm_fl RX5 93 7 0 2 RX7 TX7 3 tyX7 := ⟨xc_7, by decide, ms_1 (List.mem_of_getElem? (i := 105) (by decide +kernel)) rfl, rfl, rfl⟩
theorem fl_X7_17 : xm_fl RX7 17 7 1 0 RX7 TX7 3 tyX7 := ⟨xc_7, by decide, ms_1 (List.mem_of_getElem? (i := 106) (by decide +kernel)) rfl, rfl, rfl⟩
theorem fl_X11_69 : xm_fl RX11 69 7 1 0 RX7 TX7 3 tyX7 := ⟨xc_7, by decide, ms_1 (List.mem_of_getElem? (i := 107) (by decide +kernel)) rfl, rfl, rfl⟩
theorem fl_X8_53 : xm_fl RX8 53 7 1 0 RX7 TX7 3 tyX7 := ⟨xc_7, by decide, ms_1 (List.mem_of_getElem? (i := 108) (by decide +kernel)) rfl, rfl, rfl⟩
theorem fl_X5_42 : xm_fl RX5 42 7 1 0 RX7 TX7 3 tyX7 := ⟨xc_7, by decide, ms_1 (List.mem_of_getElem? (i := 109) (by decide +kernel)) rfl, rfl, rfl⟩
theorem fl_X7_22 : xm_fl RX7 22 7 2 0 RX7 TX7 3 tyX7 := ⟨xc_7, by decide, ms_1 (List.mem_of_getElem? (i := 110) (by decide +kernel)) rfl, rfl, rfl⟩
theorem fl_X11_98 : xm_fl RX11 98 7 2 0 RX7 TX7 3 tyX7 := ⟨xc_7, by decide, ms_1 (List.mem_of_getElem? (i := 111) (by decide +kernel)) rfl, rfl, rfl⟩
theorem fl_X8_37 : xm_fl RX8 37 7 2 0 RX7 TX7 3 tyX7 := ⟨xc_7, by decide, ms_1 (List.mem_of_getElem? (i := 112) (by decide +kernel)) rfl, rfl, rfl⟩
theorem fl_X5_80 : xm_fl RX5 80 7 2 0 RX7 TX7 3 tyX7 := ⟨xc_7, by decide, ms_1 (List.mem_of_getElem? (i := 113) (by decide +kernel)) rfl, rfl, rfl⟩
theorem fl_X4_9 : xm_fl RX4 9 4 0 2 RX4 TX4 3 tyX4 := ⟨xc_4, by decide, ms_1 (List.mem_of_getElem? (i := 127) (by decide +kernel)) rfl, rfl, rfl⟩
theorem fl_X4_15 : xm_fl RX4 15 4 1 2 RX4 TX4 3 tyX4 := ⟨xc_4, by decide, ms_1 (List.mem_of_getElem? (i := 128) (by decide +kernel)) rfl, rfl, rfl⟩
theorem fl_X4_18 : xm_fl RX4 18 4 2 0 RX4 TX4 3 tyX4 := ⟨xc_4, by decide, ms_1 (List.mem_of_getElem? (i := 129) (by decide +kernel)) rfl, rfl, rfl⟩
theorem fl_X11_157 : xm_fl RX11 157 4 2 0 RX4 TX4 3 tyX4 := ⟨xc_4, by decide, ms_1 (List.mem_of_getElem? (i := 130) (by decide +kernel)) rfl, rfl, rfl⟩
theorem fl_X2_9 : xm_fl RX2 9 2 0 2 RX2 TX2 1 tyX2 := ⟨xc_2, by decide, ms_1 (List.mem_of_getElem? (i := 144) (by decide +kernel)) rfl, rfl, rfl⟩
theorem fl_X8_70 : xm_fl RX8 70 2 0 2 RX2 TX2 1 tyX2 := ⟨xc_2, by decide, ms_1 (List.mem_of_getElem? (i := 145) (by decide +kernel)) rfl, rfl, rfl⟩
theorem fl_X8_12 : xm_fl RX8 12 8 0 2 RX8 TX8 2 tyX8 := ⟨xc_8, by decide, ms_1 (List.mem_of_getElem? (i := 157) (by decide +kernel)) rfl, rfl, rfl⟩
theorem fl_X11_248 : xm_fl RX11 248 8 0 2 RX8 TX8 2 tyX8 := ⟨xc_8, by decide, ms_1 (List.mem_of_getElem? (i := 158) (by decide +kernel)) rfl, rfl, rfl⟩
theorem fl_X8_18 : xm_fl RX8 18 8 1 2 RX8 TX8 2 tyX8 := ⟨xc_8, by decide, ms_1 (List.mem_of_getElem? (i := 159) (by decide +kernel)) rfl, rfl, rfl⟩
theorem fl_X9_11 : xm_fl RX9 11 9 0 2 RX9 TX9 4 tyX9 := ⟨xc_9, by decide, ms_1 (List.mem_of_getElem? (i := 171) (by decide +kernel)) rfl, rfl, rfl⟩
theorem fl_X9_48 : xm_fl RX9 48 9 1 0 RX9 TX9 4 tyX9 := ⟨xc_9, by decide, ms_1 (List.mem_of_getElem? (i := 172) (by decide +kernel)) rfl, rfl, rfl⟩
theorem fl_X9_86 : xm_fl RX9 86 9 2 0 RX9 TX9 4 tyX9 := ⟨xc_9, by decide, ms_1 (List.mem_of_getElem? (i := 173) (by decide +kernel)) rfl, rfl, rfl⟩
theorem fl_X9_15 : xm_fl RX9 15 9 3 2 RX9 TX9 4 tyX9 := ⟨xc_9, by decide, ms_1 (List.mem_of_getElem? (i := 174) (by decide +kernel)) rfl, rfl, rfl⟩
theorem fl_X10_9 : xm_fl RX10 9 10 0 2 RX10 TX10 6 tyX10 := ⟨xc_10, by decide, ms_1 (List.mem_of_getElem? (i := 196) (by decide +kernel)) rfl, rfl, rfl⟩
theorem fl_X5_55 : xm_fl RX5 55 10 0 2 RX10 TX10 6 tyX10 := ⟨xc_10, by decide, ms_1 (List.mem_of_getElem? (i := 197) (by decide +kernel)) rfl, rfl, rfl⟩
theorem fl_X10_15 : xm_fl RX10 15 10 1 0 RX10 TX10 6 tyX10 := ⟨xc_10, by decide, ms_1 (List.mem_of_getElem? (i := 198) (by decide +kernel)) rfl, rfl, rfl⟩
theorem fl_X10_19 : xm_fl RX10 19 10 2 0 RX10 TX10 6 tyX10 := ⟨xc_10, by decide, ms_1 (List.mem_of_getElem? (i := 199) (by decide +kernel)) rfl, rfl, rfl⟩
theorem fl_X10_22 : xm_fl RX10 22 10 3 0 RX10 TX10 6 tyX10 := ⟨xc_10, by decide, ms_1 (List.mem_of_getElem? (i := 200) (by decide +kernel)) rfl, rfl, rfl⟩
theorem fl_X10_25 : xm_fl RX10 25 10 4 0 RX10 TX10 6 tyX10 := ⟨xc_10, by decide, ms_1 (List.mem_of_getElem? (i := 201) (by decide +kernel)) rfl, rfl, rfl⟩
theorem fl_X10_28 : xm_fl RX10 28 10 5 0 RX10 TX10 6 tyX10 := ⟨xc_10, by decide, ms_1 (List.mem_of_getElem? (i := 202) (by decide +kernel)) rfl, rfl, rfl⟩
theorem fl_X5_12 : xm_fl RX5 12 5 0 2 RX5 TX5 7 tyX5 := ⟨xc_5, by decide, ms_1 (List.mem_of_getElem? (i := 219) (by decide +kernel)) rfl, rfl, rfl⟩
theorem fl_X5_18 : xm_fl RX5 18 5 1 2 RX5 TX5 7 tyX5 := ⟨xc_5, by decide, ms_1 (List.mem_of_getElem? (i := 220) (by decide +kernel)) rfl, rfl, rfl⟩
theorem fl_X5_34 : xm_fl RX5 34 5 2 0 RX5 TX5 7 tyX5 := ⟨xc_5, by decide, ms_1 (List.mem_of_getElem? (i := 221) (by decide +kernel)) rfl, rfl, rfl⟩
theorem fl_X5_22 : xm_fl RX5 22 5 3 2 RX5 TX5 7 tyX5 := ⟨xc_5, by decide, ms_1 (List.mem_of_getElem? (i := 222) (by decide +kernel)) rfl, rfl, rfl⟩
theorem fl_X11_199 : xm_fl RX11 199 5 3 2 RX5 TX5 7 tyX5 := ⟨xc_5, by decide, ms_1 (List.mem_of_getElem? (i := 223) (by decide +kernel)) rfl, rfl, rfl⟩
theorem fl_X5_25 : xm_fl RX5 25 5 4 2 RX5 TX5 7 tyX5 := ⟨xc_5, by decide, ms_1 (List.mem_of_getElem? (i := 224) (by decide +kernel)) rfl, rfl, rfl⟩
theorem fl_X11_214 : xm_fl RX11 214 5 4 2 RX5 TX5 7 tyX5 := ⟨xc_5, by decide, ms_1 (List.mem_of_getElem? (i := 225) (by decide +kernel)) rfl, rfl, rfl⟩
theorem fl_X5_72 : xm_fl RX5 72 5 5 1 RX5 TX5 7 tyX5 := ⟨xc_5, by decide, ms_1 (List.mem_of_getElem? (i := 226) (by decide +kernel)) rfl, rfl, rfl⟩
theorem fl_X11_221 : xm_fl RX11 221 5 5 1 RX5 TX5 7 tyX5 := ⟨xc_5, by decide, ms_1 (List.mem_of_getElem? (i := 227) (by decide +kernel)) rfl, rfl, rfl⟩
theorem fl_X5_38 : xm_fl RX5 38 5 6 3 RX5 TX5 7 tyX5 := ⟨xc_5, by decide, ms_1 (List.mem_of_getElem? (i := 228) (by decide +kernel)) rfl, rfl, rfl⟩
theorem fl_X11_202 : xm_fl RX11 202 5 6 3 RX5 TX5 7 tyX5 := ⟨xc_5, by decide, ms_1 (List.mem_of_getElem? (i := 229) (by decide +kernel)) rfl, rfl, rfl⟩
theorem fl_X3_9 : xm_fl RX3 9 3 0 2 RX3 TX3 8 tyX3 := ⟨xc_3, by decide, ms_2 (List.mem_of_getElem? (i := 11) (by decide +kernel)) rfl, rfl, rfl⟩
theorem fl_X3_32 : xm_fl RX3 32 3 1 0 RX3 TX3 8 tyX3 := ⟨xc_3, by decide, ms_2 (List.mem_of_getElem? (i := 12) (by decide +kernel)) rfl, rfl, rfl⟩
theorem fl_X11_266 : xm_fl RX11 266 3 1 0 RX3 TX3 8 tyX3 := ⟨xc_3, by decide, ms_2 (List.mem_of_getElem? (i := 13) (by decide +kernel)) rfl, rfl, rfl⟩
theorem fl_X3_15 : xm_fl RX3 15 3 2 2 RX3 TX3 8 tyX3 := ⟨xc_3, by decide, ms_2 (List.mem_of_getElem? (i := 14) (by decide +kernel)) rfl, rfl, rfl⟩
theorem fl_X3_47 : xm_fl RX3 47 3 3 0 RX3 TX3 8 tyX3 := ⟨xc_3, by decide, ms_2 (List.mem_of_getElem? (i := 15) (by decide +kernel)) rfl, rfl, rfl⟩
theorem fl_X3_18 : xm_fl RX3 18 3 4 2 RX3 TX3 8 tyX3 := ⟨xc_3, by decide, ms_2 (List.mem_of_getElem? (i := 16) (by decide +kernel)) rfl, rfl, rfl⟩
theorem fl_X3_22 : xm_fl RX3 22 3 5 0 RX3 TX3 8 tyX3 := ⟨xc_3, by decide, ms_2 (List.mem_of_getElem? (i := 17) (by decide +kernel)) rfl, rfl, rfl⟩
theorem fl_X11_277 : xm_fl RX11 277 3 5 0 RX3 TX3 8 tyX3 := ⟨xc_3, by decide, ms_2 (List.mem_of_getElem? (i := 18) (by decide +kernel)) rfl, rfl, rfl⟩
theorem fl_X3_26 : xm_fl RX3 26 3 6 0 RX3 TX3 8 tyX3 := ⟨xc_3, by decide, ms_2 (List.mem_of_getElem? (i := 19) (by decide +kernel)) rfl, rfl, rfl⟩
theorem fl_X11_280 : xm_fl RX11 280 3 6 0 RX3 TX3 8 tyX3 := ⟨xc_3, by decide, ms_2 (List.mem_of_getElem? (i := 20) (by decide +kernel)) rfl, rfl, rfl⟩
theorem fl_X3_29 : xm_fl RX3 29 3 7 0 RX3 TX3 8 tyX3 := ⟨xc_3, by decide, ms_2 (List.mem_of_getElem? (i := 21) (by decide +kernel)) rfl, rfl, rfl⟩
theorem fl_X11_283 : xm_fl RX11 283 3 7 0 RX3 TX3 8 tyX3 := ⟨xc_3, by decide, ms_2 (List.mem_of_getElem? (i := 22) (by decide +kernel)) rfl, rfl, rfl⟩
theorem fl_X11_10 : xm_fl RX11 10 11 0 2 RX11 TX11 10 tyX11 := ⟨xc_11, by decide, ms_2 (List.mem_of_getElem? (i := 45) (by decide +kernel)) rfl, rfl, rfl⟩
theorem fl_X11_16 : xm_fl RX11 16 11 1 2 RX11 TX11 10 tyX11 := ⟨xc_11, by decide, ms_2 (List.mem_of_getElem? (i := 46) (by decide +kernel)) rfl, rfl, rfl⟩
theorem fl_X11_23 : xm_fl RX11 23 11 2 2 RX11 TX11 10 tyX11 := ⟨xc_11, by decide, ms_2 (List.mem_of_getElem? (i := 47) (by decide +kernel)) rfl, rfl, rfl⟩
theorem fl_X11_30 : xm_fl RX11 30 11 3 2 RX11 TX11 10 tyX11 := ⟨xc_11, by decide, ms_2 (List.mem_of_getElem? (i := 48) (by decide +kernel)) rfl, rfl, rfl⟩
theorem fl_X11_34 : xm_fl RX11 34 11 4 2 RX11 TX11 10 tyX11 := ⟨xc_11, by decide, ms_2 (List.mem_of_getElem? (i := 49) (by decide +kernel)) rfl, rfl, rfl⟩
theorem fl_X11_40 : xm_fl RX11 40 11 5 2 RX11 TX11 10 tyX11 := ⟨xc_11, by decide, ms_2 (List.mem_of_getElem? (i := 50) (by decide +kernel)) rfl, rfl, rfl⟩
theorem fl_X11_47 : xm_fl RX11 47 11 6 2 RX11 TX11 10 tyX11 := ⟨xc_11, by decide, ms_2 (List.mem_of_getElem? (i := 51) (by decide +kernel)) rfl, rfl, rfl⟩
theorem fl_X11_54 : xm_fl RX11 54 11 7 2 RX11 TX11 10 tyX11 := ⟨xc_11, by decide, ms_2 (List.mem_of_getElem? (i := 52) (by decide +kernel)) rfl, rfl, rfl⟩
theorem fl_X11_58 : xm_fl RX11 58 11 8 2 RX11 TX11 10 tyX11 := ⟨xc_11, by decide, ms_2 (List.mem_of_getElem? (i := 53) (by decide +kernel)) rfl, rfl, rfl⟩
theorem fl_X11_65 : xm_fl RX11 65 11 9 2 RX11 TX11 10 tyX11 := ⟨xc_11, by decide, ms_2 (List.mem_of_getElem? (i := 54) (by decide +kernel)) rfl, rfl, rfl⟩
theorem fl_X12_7 : xm_fl RX12 7 12 0 0 RX12 TX12 50 tyX12 := ⟨xc_12, by decide, ms_4 (List.mem_of_getElem? (i := 152) (by decide +kernel)) rfl, rfl, rfl⟩
theorem fl_X12_135 : xm_fl RX12 135 12 1 0 RX12 TX12 50 tyX12 := ⟨xc_12, by decide, ms_4 (List.mem_of_getElem? (i := 153) (by decide +kernel)) rfl, rfl, rfl⟩
theorem fl_X12_13 : xm_fl RX12 13 12 2 2 RX12 TX12 50 tyX12 := ⟨xc_12, by decide, ms_4 (List.mem_of_getElem? (i := 154) (by decide +kernel)) rfl, rfl, rfl⟩
theorem fl_X12_17 : xm_fl RX12 17 12 3 2 RX12 TX12 50 tyX12 := ⟨xc_12, by decide, ms_4 (List.mem_of_getElem? (i := 155) (by decide +kernel)) rfl, rfl, rfl⟩
theorem fl_X12_20 : xm_fl RX12 20 12 4 2 RX12 TX12 50 tyX12 := ⟨xc_12, by decide, ms_4 (List.mem_of_getElem? (i := 156) (by decide +kernel)) rfl, rfl, rfl⟩
theorem fl_X12_23 : xm_fl RX12 23 12 5 2 RX12 TX12 50 tyX12 := ⟨xc_12, by decide, ms_4 (List.mem_of_getElem? (i := 157) (by decide +kernel)) rfl, rfl, rfl⟩
theorem fl_X12_27 : xm_fl RX12 27 12 6 2 RX12 TX12 50 tyX12 := ⟨xc_12, by decide, ms_4 (List.mem_of_getElem? (i := 158) (by decide +kernel)) rfl, rfl, rfl⟩
theorem fl_X12_30 : xm_fl RX12 30 12 7 2 RX12 TX12 50 tyX12 := ⟨xc_12, by decide, ms_4 (List.mem_of_getElem? (i := 159) (by decide +kernel)) rfl, rfl, rfl⟩
theorem fl_X12_34 : xm_fl RX12 34 12 8 2 RX12 TX12 50 tyX12 := ⟨xc_12, by decide, ms_4 (List.mem_of_getElem? (i := 160) (by decide +kernel)) rfl, rfl, rfl⟩
theorem fl_X12_37 : xm_fl RX12 37 12 9 2 RX12 TX12 50 tyX12 := ⟨xc_12, by decide, ms_4 (List.mem_of_getElem? (i := 161) (by decide +kernel)) rfl, rfl, rfl⟩
theorem fl_X12_40 : xm_fl RX12 40 12 10 2 RX12 TX12 50 tyX12 := ⟨xc_12, by decide, ms_4 (List.mem_of_getElem? (i := 162) (by decide +kernel)) rfl, rfl, rfl⟩
theorem fl_X12_185 : xm_fl RX12 185 12 11 0 RX12 TX12 50 tyX12 := ⟨xc_12, by decide, ms_4 (List.mem_of_getElem? (i := 163) (by decide +kernel)) rfl, rfl, rfl⟩
theorem fl_X12_243 : xm_fl RX12 243 12 13 1 RX12 TX12 50 tyX12 := ⟨xc_12, by decide, ms_4 (List.mem_of_getElem? (i := 165) (by decide +kernel)) rfl, rfl, rfl⟩
theorem fl_X12_247 : xm_fl RX12 247 12 14 1 RX12 TX12 50 tyX12 := ⟨xc_12, by decide, ms_4 (List.mem_of_getElem? (i := 166) (by decide +kernel)) rfl, rfl, rfl⟩
theorem fl_X12_250 : xm_fl RX12 250 12 15 1 RX12 TX12 50 tyX12 := ⟨xc_12, by decide, ms_4 (List.mem_of_getElem? (i := 167) (by decide +kernel)) rfl, rfl, rfl⟩
theorem fl_X12_240 : xm_fl RX12 240 12 16 3 RX12 TX12 50 tyX12 := ⟨xc_12, by decide, ms_4 (List.mem_of_getElem? (i := 168) (by decide +kernel)) rfl, rfl, rfl⟩
theorem fl_X12_194 : xm_fl RX12 194 12 17 3 RX12 TX12 50 tyX12 := ⟨xc_12, by decide, ms_4 (List.mem_of_getElem? (i := 169) (by decide +kernel)) rfl, rfl, rfl⟩
theorem fl_X12_46 : xm_fl RX12 46 12 18 2 RX12 TX12 50 tyX12 := ⟨xc_12, by decide, ms_4 (List.mem_of_getElem? (i := 170) (by decide +kernel)) rfl, rfl, rfl⟩
theorem fl_X12_138 : xm_fl RX12 138 12 19 0 RX12 TX12 50 tyX12 := ⟨xc_12, by decide, ms_4 (List.mem_of_getElem? (i := 171) (by decide +kernel)) rfl, rfl, rfl⟩
theorem fl_X12_49 : xm_fl RX12 49 12 20 2 RX12 TX12 50 tyX12 := ⟨xc_12, by decide, ms_4 (List.mem_of_getElem? (i := 172) (by decide +kernel)) rfl, rfl, rfl⟩
theorem fl_X12_131 : xm_fl RX12 131 12 21 3 RX12 TX12 50 tyX12 := ⟨xc_12, by decide, ms_4 (List.mem_of_getElem? (i := 173) (by decide +kernel)) rfl, rfl, rfl⟩
theorem fl_X12_52 : xm_fl RX12 52 12 22 2 RX12 TX12 50 tyX12 := ⟨xc_12, by decide, ms_4 (List.mem_of_getElem? (i := 174) (by decide +kernel)) rfl, rfl, rfl⟩
theorem fl_X12_55 : xm_fl RX12 55 12 23 2 RX12 TX12 50 tyX12 := ⟨xc_12, by decide, ms_4 (List.mem_of_getElem? (i := 175) (by decide +kernel)) rfl, rfl, rfl⟩
theorem fl_X12_58 : xm_fl RX12 58 12 24 2 RX12 TX12 50 tyX12 := ⟨xc_12, by decide, ms_4 (List.mem_of_getElem? (i := 176) (by decide +kernel)) rfl, rfl, rfl⟩
theorem fl_X12_62 : xm_fl RX12 62 12 25 2 RX12 TX12 50 tyX12 := ⟨xc_12, by decide, ms_4 (List.mem_of_getElem? (i := 177) (by decide +kernel)) rfl, rfl, rfl⟩
theorem fl_X12_65 : xm_fl RX12 65 12 26 0 RX12 TX12 50 tyX12 := ⟨xc_12, by decide, ms_4 (List.mem_of_getElem? (i := 178) (by decide +kernel)) rfl, rfl, rfl⟩
theorem fl_X12_68 : xm_fl RX12 68 12 27 2 RX12 TX12 50 tyX12 := ⟨xc_12, by decide, ms_4 (List.mem_of_getElem? (i := 179) (by decide +kernel)) rfl, rfl, rfl⟩
theorem fl_X12_71 : xm_fl RX12 71 12 28 2 RX12 TX12 50 tyX12 := ⟨xc_12, by decide, ms_4 (List.mem_of_getElem? (i := 180) (by decide +kernel)) rfl, rfl, rfl⟩
theorem fl_X12_74 : xm_fl RX12 74 12 29 2 RX12 TX12 50 tyX12 := ⟨xc_12, by decide, ms_4 (List.mem_of_getElem? (i := 181) (by decide +kernel)) rfl, rfl, rfl⟩
theorem fl_X12_77 : xm_fl RX12 77 12 30 2 RX12 TX12 50 tyX12 := ⟨xc_12, by decide, ms_4 (List.mem_of_getElem? (i := 182) (by decide +kernel)) rfl, rfl, rfl⟩
theorem fl_X12_80 : xm_fl RX12 80 12 31 2 RX12 TX12 50 tyX12 := ⟨xc_12, by decide, ms_4 (List.mem_of_getElem? (i := 183) (by decide +kernel)) rfl, rfl, rfl⟩
theorem fl_X12_83 : xm_fl RX12 83 12 32 2 RX12 TX12 50 tyX12 := ⟨xc_12, by decide, ms_4 (List.mem_of_getElem? (i := 184) (by decide +kernel)) rfl, rfl, rfl⟩
theorem fl_X12_86 : xm_fl RX12 86 12 33 2 RX12 TX12 50 tyX12 := ⟨xc_12, by decide, ms_4 (List.mem_of_getElem? (i := 185) (by decide +kernel)) rfl, rfl, rfl⟩
theorem fl_X12_89 : xm_fl RX12 89 12 34 2 RX12 TX12 50 tyX12 := ⟨xc_12, by decide, ms_4 (List.mem_of_getElem? (i := 186) (by decide +kernel)) rfl, rfl, rfl⟩
theorem fl_X12_92 : xm_fl RX12 92 12 35 2 RX12 TX12 50 tyX12 := ⟨xc_12, by decide, ms_4 (List.mem_of_getElem? (i := 187) (by decide +kernel)) rfl, rfl, rfl⟩
theorem fl_X12_348 : xm_fl RX12 348 12 36 0 RX12 TX12 50 tyX12 := ⟨xc_12, by decide, ms_4 (List.mem_of_getElem? (i := 188) (by decide +kernel)) rfl, rfl, rfl⟩
theorem fl_X12_95 : xm_fl RX12 95 12 37 2 RX12 TX12 50 tyX12 := ⟨xc_12, by decide, ms_4 (List.mem_of_getElem? (i := 189) (by decide +kernel)) rfl, rfl, rfl⟩
theorem fl_X12_98 : xm_fl RX12 98 12 38 2 RX12 TX12 50 tyX12 := ⟨xc_12, by decide, ms_4 (List.mem_of_getElem? (i := 190) (by decide +kernel)) rfl, rfl, rfl⟩
theorem fl_X12_101 : xm_fl RX12 101 12 39 2 RX12 TX12 50 tyX12 := ⟨xc_12, by decide, ms_4 (List.mem_of_getElem? (i := 191) (by decide +kernel)) rfl, rfl, rfl⟩
theorem fl_X12_104 : xm_fl RX12 104 12 40 0 RX12 TX12 50 tyX12 := ⟨xc_12, by decide, ms_4 (List.mem_of_getElem? (i := 192) (by decide +kernel)) rfl, rfl, rfl⟩
theorem fl_X12_107 : xm_fl RX12 107 12 41 0 RX12 TX12 50 tyX12 := ⟨xc_12, by decide, ms_4 (List.mem_of_getElem? (i := 193) (by decide +kernel)) rfl, rfl, rfl⟩
theorem fl_X12_110 : xm_fl RX12 110 12 42 0 RX12 TX12 50 tyX12 := ⟨xc_12, by decide, ms_4 (List.mem_of_getElem? (i := 194) (by decide +kernel)) rfl, rfl, rfl⟩
theorem fl_X12_113 : xm_fl RX12 113 12 43 0 RX12 TX12 50 tyX12 := ⟨xc_12, by decide, ms_4 (List.mem_of_getElem? (i := 195) (by decide +kernel)) rfl, rfl, rfl⟩
theorem fl_X12_116 : xm_fl RX12 116 12 44 2 RX12 TX12 50 tyX12 := ⟨xc_12, by decide, ms_4 (List.mem_of_getElem? (i := 196) (by decide +kernel)) rfl, rfl, rfl⟩
theorem fl_X12_119 : xm_fl RX12 119 12 45 2 RX12 TX12 50 tyX12 := ⟨xc_12, by decide, ms_4 (List.mem_of_getElem? (i := 197) (by decide +kernel)) rfl, rfl, rfl⟩
theorem fl_X12_122 : xm_fl RX12 122 12 46 2 RX12 TX12 50 tyX12 := ⟨xc_12, by decide, ms_4 (List.mem_of_getElem? (i := 198) (by decide +kernel)) rfl, rfl, rfl⟩
theorem fl_X12_125 : xm_fl RX12 125 12 47 2 RX12 TX12 50 tyX12 := ⟨xc_12, by decide, ms_4 (List.mem_of_getElem? (i := 199) (by decide +kernel)) rfl, rfl, rfl⟩
theorem fl_X12_322 : xm_fl RX12 322 12 48 3 RX12 TX12 50 tyX12 := ⟨xc_12, by decide, ms_4 (List.mem_of_getElem? (i := 200) (by decide +kernel)) rfl, rfl, rfl⟩
theorem fl_X12_325 : xm_fl RX12 325 12 49 1 RX12 TX12 50 tyX12 := ⟨xc_12, by decide, ms_4 (List.mem_of_getElem? (i := 201) (by decide +kernel)) rfl, rfl, rfl⟩
abbrev mt_J7_fill_d0a16 : xm_M := (yJ7_fill_d0a16, cJ7_fill_d0a16, 5, none, 0, 0)
theorem ok_J7_fill_d0a16 : xm_ok mt_J7_fill_d0a16 2 := ⟨plainFor_of_name (by decide), ms_2 (List.mem_of_getElem? (i := 86) (by decide +kernel)) rfl, ms_1 (List.mem_of_getElem? (i := 12) (by decide +kernel)) rfl, by decide, by decide, by decide +kernel⟩
theorem st_J7_fill_d0a16 : Cond.static yJ7_fill_d0a16 ∈ xm_tb := ms_2 (List.mem_of_getElem? (i := 85) (by decide +kernel)) rfl
abbrev mt_J7_fill_53178 : xm_M := (yJ7_fill_53178, cJ7_fill_53178, 4, none, 0, 0)
theorem ok_J7_fill_53178 : xm_ok mt_J7_fill_53178 2 := ⟨plainFor_of_name (by decide), ms_1 (List.mem_of_getElem? (i := 218) (by decide +kernel)) rfl, ms_1 (List.mem_of_getElem? (i := 12) (by decide +kernel)) rfl, by decide, by decide, by decide +kernel⟩
theorem st_J7_fill_53178 : Cond.static yJ7_fill_53178 ∈ xm_tb := ms_1 (List.mem_of_getElem? (i := 217) (by decide +kernel)) rfl
abbrev mt_J9_floorDiv_f86c9 : xm_M := (yJ9_floorDiv_f86c9, cJ9_floorDiv_f86c9, 6, (some .long), 0, 0)
theorem ok_J9_floorDiv_f86c9 : xm_ok mt_J9_floorDiv_f86c9 2 := ⟨by decide +kernel, ms_3 (List.mem_of_getElem? (i := 138) (by decide +kernel)) rfl, ms_1 (List.mem_of_getElem? (i := 16) (by decide +kernel)) rfl, by decide, by decide, by decide +kernel⟩
theorem st_J9_floorDiv_f86c9 : Cond.static yJ9_floorDiv_f86c9 ∈ xm_tb := ms_3 (List.mem_of_getElem? (i := 137) (by decide +kernel)) rfl
abbrev mt_J9_floorMod_f86c9 : xm_M := (yJ9_floorMod_f86c9, cJ9_floorMod_f86c9, 6, (some .long), 0, 0)
theorem ok_J9_floorMod_f86c9 : xm_ok mt_J9_floorMod_f86c9 2 := ⟨by decide +kernel, ms_5 (List.mem_of_getElem? (i := 223) (by decide +kernel)) rfl, ms_1 (List.mem_of_getElem? (i := 16) (by decide +kernel)) rfl, by decide, by decide, by decide +kernel⟩
theorem st_J9_floorMod_f86c9 : Cond.static yJ9_floorMod_f86c9 ∈ xm_tb := ms_5 (List.mem_of_getElem? (i := 222) (by decide +kernel)) rfl
abbrev mt_J9_abs_0f7a4 : xm_M := (yJ9_abs_0f7a4, cJ9_abs_0f7a4, 1, (some .int), 0, 0)
theorem ok_J9_abs_0f7a4 : xm_ok mt_J9_abs_0f7a4 1 := ⟨by decide +kernel, ms_3 (List.mem_of_getElem? (i := 168) (by decide +kernel)) rfl, ms_1 (List.mem_of_getElem? (i := 16) (by decide +kernel)) rfl, by decide, by decide, by decide +kernel⟩
theorem st_J9_abs_0f7a4 : Cond.static yJ9_abs_0f7a4 ∈ xm_tb := ms_3 (List.mem_of_getElem? (i := 167) (by decide +kernel)) rfl
abbrev mt_J9_abs_067f4 : xm_M := (yJ9_abs_067f4, cJ9_abs_067f4, 2, (some .long), 0, 0)
theorem ok_J9_abs_067f4 : xm_ok mt_J9_abs_067f4 1 := ⟨by decide +kernel, ms_3 (List.mem_of_getElem? (i := 55) (by decide +kernel)) rfl, ms_1 (List.mem_of_getElem? (i := 16) (by decide +kernel)) rfl, by decide, by decide, by decide +kernel⟩
theorem st_J9_abs_067f4 : Cond.static yJ9_abs_067f4 ∈ xm_tb := ms_3 (List.mem_of_getElem? (i := 54) (by decide +kernel)) rfl
abbrev mt_J9_max_f86c9 : xm_M := (yJ9_max_f86c9, cJ9_max_f86c9, 4, (some .long), 0, 0)
theorem ok_J9_max_f86c9 : xm_ok mt_J9_max_f86c9 2 := ⟨by decide +kernel, ms_3 (List.mem_of_getElem? (i := 224) (by decide +kernel)) rfl, ms_1 (List.mem_of_getElem? (i := 16) (by decide +kernel)) rfl, by decide, by decide, by decide +kernel⟩
theorem st_J9_max_f86c9 : Cond.static yJ9_max_f86c9 ∈ xm_tb := ms_3 (List.mem_of_getElem? (i := 223) (by decide +kernel)) rfl
abbrev mt_J9_min_f86c9 : xm_M := (yJ9_min_f86c9, cJ9_min_f86c9, 4, (some .long), 0, 0)
theorem ok_J9_min_f86c9 : xm_ok mt_J9_min_f86c9 2 := ⟨by decide +kernel, ms_3 (List.mem_of_getElem? (i := 141) (by decide +kernel)) rfl, ms_1 (List.mem_of_getElem? (i := 16) (by decide +kernel)) rfl, by decide, by decide, by decide +kernel⟩
theorem st_J9_min_f86c9 : Cond.static yJ9_min_f86c9 ∈ xm_tb := ms_3 (List.mem_of_getElem? (i := 140) (by decide +kernel)) rfl
abbrev mt_X0_put : xm_M := (yX0_put, cX0_put, 6, none, 0, 0)
theorem ok_X0_put : xm_ok mt_X0_put 3 := ⟨plainFor_of_name (by decide), ms_2 (List.mem_of_getElem? (i := 146) (by decide +kernel)) rfl, ms_1 (List.mem_of_getElem? (i := 5) (by decide +kernel)) rfl, by decide, by decide, by decide +kernel⟩
theorem im_X0_put : Cond.instanceMethod yX0_put ∈ xm_tb := ms_2 (List.mem_of_getElem? (i := 144) (by decide +kernel)) rfl
theorem se_X0_put : Cond.selects RX0 yX0_put yX0_put ∈ xm_tb := ms_2 (List.mem_of_getElem? (i := 145) (by decide +kernel)) rfl
abbrev mt_X0_putSame : xm_M := (yX0_putSame, cX0_putSame, 3, none, 0, 0)
theorem ok_X0_putSame : xm_ok mt_X0_putSame 1 := ⟨plainFor_of_name (by decide), ms_2 (List.mem_of_getElem? (i := 123) (by decide +kernel)) rfl, ms_1 (List.mem_of_getElem? (i := 5) (by decide +kernel)) rfl, by decide, by decide, by decide +kernel⟩
theorem im_X0_putSame : Cond.instanceMethod yX0_putSame ∈ xm_tb := ms_2 (List.mem_of_getElem? (i := 121) (by decide +kernel)) rfl
theorem se_X0_putSame : Cond.selects RX0 yX0_putSame yX0_putSame ∈ xm_tb := ms_2 (List.mem_of_getElem? (i := 122) (by decide +kernel)) rfl
abbrev mt_X11_valueOf : xm_M := (yX11_valueOf, cX11_valueOf, 2, (some .long), 0, 0)
theorem ok_X11_valueOf : xm_ok mt_X11_valueOf 2 := ⟨plainFor_of_name (by decide), ms_2 (List.mem_of_getElem? (i := 198) (by decide +kernel)) rfl, ms_1 (List.mem_of_getElem? (i := 1) (by decide +kernel)) rfl, by decide, by decide, by decide +kernel⟩
theorem st_X11_valueOf : Cond.static yX11_valueOf ∈ xm_tb := ms_2 (List.mem_of_getElem? (i := 197) (by decide +kernel)) rfl
abbrev mt_X0_valueAt : xm_M := (yX0_valueAt, cX0_valueAt, 2, (some .long), 1, 21)
theorem ok_X0_valueAt : xm_ok mt_X0_valueAt 1 := ⟨plainFor_of_name (by decide), ms_2 (List.mem_of_getElem? (i := 195) (by decide +kernel)) rfl, ms_1 (List.mem_of_getElem? (i := 5) (by decide +kernel)) rfl, by decide, by decide, by decide +kernel⟩
theorem im_X0_valueAt : Cond.instanceMethod yX0_valueAt ∈ xm_tb := ms_2 (List.mem_of_getElem? (i := 193) (by decide +kernel)) rfl
theorem se_X0_valueAt : Cond.selects RX0 yX0_valueAt yX0_valueAt ∈ xm_tb := ms_2 (List.mem_of_getElem? (i := 194) (by decide +kernel)) rfl
abbrev mt_X2_end : xm_M := (yX2_end, cX2_end, 3, (some .long), 0, 0)
theorem ok_X2_end : xm_ok mt_X2_end 2 := ⟨plainFor_of_name (by decide), ms_3 (List.mem_of_getElem? (i := 30) (by decide +kernel)) rfl, ms_1 (List.mem_of_getElem? (i := 7) (by decide +kernel)) rfl, by decide, by decide, by decide +kernel⟩
theorem im_X2_end : Cond.instanceMethod yX2_end ∈ xm_tb := ms_3 (List.mem_of_getElem? (i := 28) (by decide +kernel)) rfl
theorem se_X2_end : Cond.selects RX2 yX2_end yX2_end ∈ xm_tb := ms_3 (List.mem_of_getElem? (i := 29) (by decide +kernel)) rfl
abbrev mt_X0_farthest : xm_M := (yX0_farthest, cX0_farthest, 8, (some .long), 1, 22)
theorem ok_X0_farthest : xm_ok mt_X0_farthest 2 := ⟨plainFor_of_name (by decide), ms_4 (List.mem_of_getElem? (i := 26) (by decide +kernel)) rfl, ms_1 (List.mem_of_getElem? (i := 5) (by decide +kernel)) rfl, by decide, by decide, by decide +kernel⟩
theorem im_X0_farthest : Cond.instanceMethod yX0_farthest ∈ xm_tb := ms_4 (List.mem_of_getElem? (i := 24) (by decide +kernel)) rfl
theorem se_X0_farthest : Cond.selects RX0 yX0_farthest yX0_farthest ∈ xm_tb := ms_4 (List.mem_of_getElem? (i := 25) (by decide +kernel)) rfl
abbrev mt_X1_startAnew : xm_M := (yX1_startAnew, cX1_startAnew, 2, none, 1, 22)
theorem ok_X1_startAnew : xm_ok mt_X1_startAnew 0 := ⟨plainFor_of_name (by decide), ms_2 (List.mem_of_getElem? (i := 119) (by decide +kernel)) rfl, ms_1 (List.mem_of_getElem? (i := 3) (by decide +kernel)) rfl, by decide, by decide, by decide +kernel⟩
theorem im_X1_startAnew : Cond.instanceMethod yX1_startAnew ∈ xm_tb := ms_2 (List.mem_of_getElem? (i := 117) (by decide +kernel)) rfl
theorem se_X1_startAnew : Cond.selects RX1 yX1_startAnew yX1_startAnew ∈ xm_tb := ms_2 (List.mem_of_getElem? (i := 118) (by decide +kernel)) rfl
abbrev mt_X1_addGuard : xm_M := (yX1_addGuard, cX1_addGuard, 4, none, 1, 25)
theorem ok_X1_addGuard : xm_ok mt_X1_addGuard 3 := ⟨plainFor_of_name (by decide), ms_2 (List.mem_of_getElem? (i := 142) (by decide +kernel)) rfl, ms_1 (List.mem_of_getElem? (i := 3) (by decide +kernel)) rfl, by decide, by decide, by decide +kernel⟩
theorem im_X1_addGuard : Cond.instanceMethod yX1_addGuard ∈ xm_tb := ms_2 (List.mem_of_getElem? (i := 140) (by decide +kernel)) rfl
theorem se_X1_addGuard : Cond.selects RX1 yX1_addGuard yX1_addGuard ∈ xm_tb := ms_2 (List.mem_of_getElem? (i := 141) (by decide +kernel)) rfl
abbrev mt_X1_holdsAt : xm_M := (yX1_holdsAt, cX1_holdsAt, 3, (some .boolean), 2, 42)
theorem ok_X1_holdsAt : xm_ok mt_X1_holdsAt 1 := ⟨plainFor_of_name (by decide), ms_2 (List.mem_of_getElem? (i := 191) (by decide +kernel)) rfl, ms_1 (List.mem_of_getElem? (i := 3) (by decide +kernel)) rfl, by decide, by decide, by decide +kernel⟩
theorem im_X1_holdsAt : Cond.instanceMethod yX1_holdsAt ∈ xm_tb := ms_2 (List.mem_of_getElem? (i := 189) (by decide +kernel)) rfl
theorem se_X1_holdsAt : Cond.selects RX1 yX1_holdsAt yX1_holdsAt ∈ xm_tb := ms_2 (List.mem_of_getElem? (i := 190) (by decide +kernel)) rfl
abbrev mt_X1_isPassedOver : xm_M := (yX1_isPassedOver, cX1_isPassedOver, 5, (some .boolean), 2, 49)
theorem ok_X1_isPassedOver : xm_ok mt_X1_isPassedOver 1 := ⟨plainFor_of_name (by decide), ms_4 (List.mem_of_getElem? (i := 22) (by decide +kernel)) rfl, ms_1 (List.mem_of_getElem? (i := 3) (by decide +kernel)) rfl, by decide, by decide, by decide +kernel⟩
theorem im_X1_isPassedOver : Cond.instanceMethod yX1_isPassedOver ∈ xm_tb := ms_4 (List.mem_of_getElem? (i := 20) (by decide +kernel)) rfl
theorem se_X1_isPassedOver : Cond.selects RX1 yX1_isPassedOver yX1_isPassedOver ∈ xm_tb := ms_4 (List.mem_of_getElem? (i := 21) (by decide +kernel)) rfl
abbrev mt_X11_isBeyond : xm_M := (yX11_isBeyond, cX11_isBeyond, 4, (some .boolean), 0, 0)
theorem ok_X11_isBeyond : xm_ok mt_X11_isBeyond 2 := ⟨plainFor_of_name (by decide), ms_2 (List.mem_of_getElem? (i := 206) (by decide +kernel)) rfl, ms_1 (List.mem_of_getElem? (i := 1) (by decide +kernel)) rfl, by decide, by decide, by decide +kernel⟩
theorem st_X11_isBeyond : Cond.static yX11_isBeyond ∈ xm_tb := ms_2 (List.mem_of_getElem? (i := 205) (by decide +kernel)) rfl
abbrev mt_X1_move : xm_M := (yX1_move, cX1_move, 8, (some .boolean), 2, 42)
theorem ok_X1_move : xm_ok mt_X1_move 1 := ⟨plainFor_of_name (by decide), ms_2 (List.mem_of_getElem? (i := 202) (by decide +kernel)) rfl, ms_1 (List.mem_of_getElem? (i := 3) (by decide +kernel)) rfl, by decide, by decide, by decide +kernel⟩
theorem im_X1_move : Cond.instanceMethod yX1_move ∈ xm_tb := ms_2 (List.mem_of_getElem? (i := 200) (by decide +kernel)) rfl
theorem se_X1_move : Cond.selects RX1 yX1_move yX1_move ∈ xm_tb := ms_2 (List.mem_of_getElem? (i := 201) (by decide +kernel)) rfl
abbrev mt_X6_valueAt : xm_M := (yX6_valueAt, cX6_valueAt, 3, (some .long), 0, 0)
theorem ok_X6_valueAt : xm_ok mt_X6_valueAt 2 := ⟨plainFor_of_name (by decide), ms_3 (List.mem_of_getElem? (i := 107) (by decide +kernel)) rfl, ms_1 (List.mem_of_getElem? (i := 4) (by decide +kernel)) rfl, by decide, by decide, by decide +kernel⟩
theorem im_X6_valueAt : Cond.instanceMethod yX6_valueAt ∈ xm_tb := ms_3 (List.mem_of_getElem? (i := 106) (by decide +kernel)) rfl
theorem se_X6_valueAt : Cond.selects RX6 yX6_valueAt yX6_valueAt ∈ xm_tb := List.mem_filter.mpr ⟨List.mem_append_left _ (List.mem_of_getElem? (i := 18) (by decide +kernel)), rfl⟩
abbrev mt_X6_isBoundBelow : xm_M := (yX6_isBoundBelow, cX6_isBoundBelow, 3, (some .boolean), 1, 22)
theorem ok_X6_isBoundBelow : xm_ok mt_X6_isBoundBelow 1 := ⟨plainFor_of_name (by decide), ms_3 (List.mem_of_getElem? (i := 103) (by decide +kernel)) rfl, ms_1 (List.mem_of_getElem? (i := 4) (by decide +kernel)) rfl, by decide, by decide, by decide +kernel⟩
theorem im_X6_isBoundBelow : Cond.instanceMethod yX6_isBoundBelow ∈ xm_tb := ms_3 (List.mem_of_getElem? (i := 101) (by decide +kernel)) rfl
theorem se_X6_isBoundBelow : Cond.selects RX6 yX6_isBoundBelow yX6_isBoundBelow ∈ xm_tb := ms_3 (List.mem_of_getElem? (i := 102) (by decide +kernel)) rfl
abbrev mt_X1_binds : xm_M := (yX1_binds, cX1_binds, 2, (some .boolean), 2, 44)
theorem ok_X1_binds : xm_ok mt_X1_binds 1 := ⟨plainFor_of_name (by decide), ms_3 (List.mem_of_getElem? (i := 99) (by decide +kernel)) rfl, ms_1 (List.mem_of_getElem? (i := 3) (by decide +kernel)) rfl, by decide, by decide, by decide +kernel⟩
theorem im_X1_binds : Cond.instanceMethod yX1_binds ∈ xm_tb := ms_3 (List.mem_of_getElem? (i := 97) (by decide +kernel)) rfl
theorem se_X1_binds : Cond.selects RX1 yX1_binds yX1_binds ∈ xm_tb := ms_3 (List.mem_of_getElem? (i := 98) (by decide +kernel)) rfl
abbrev mt_X6_isNowherePositive : xm_M := (yX6_isNowherePositive, cX6_isNowherePositive, 5, (some .boolean), 0, 0)
theorem ok_X6_isNowherePositive : xm_ok mt_X6_isNowherePositive 2 := ⟨plainFor_of_name (by decide), ms_3 (List.mem_of_getElem? (i := 115) (by decide +kernel)) rfl, ms_1 (List.mem_of_getElem? (i := 4) (by decide +kernel)) rfl, by decide, by decide, by decide +kernel⟩
theorem im_X6_isNowherePositive : Cond.instanceMethod yX6_isNowherePositive ∈ xm_tb := ms_3 (List.mem_of_getElem? (i := 113) (by decide +kernel)) rfl
theorem se_X6_isNowherePositive : Cond.selects RX6 yX6_isNowherePositive yX6_isNowherePositive ∈ xm_tb := ms_3 (List.mem_of_getElem? (i := 114) (by decide +kernel)) rfl
abbrev mt_X1_changesAtMost : xm_M := (yX1_changesAtMost, cX1_changesAtMost, 8, (some .boolean), 1, 24)
theorem ok_X1_changesAtMost : xm_ok mt_X1_changesAtMost 2 := ⟨plainFor_of_name (by decide), ms_3 (List.mem_of_getElem? (i := 111) (by decide +kernel)) rfl, ms_1 (List.mem_of_getElem? (i := 3) (by decide +kernel)) rfl, by decide, by decide, by decide +kernel⟩
theorem im_X1_changesAtMost : Cond.instanceMethod yX1_changesAtMost ∈ xm_tb := ms_3 (List.mem_of_getElem? (i := 109) (by decide +kernel)) rfl
theorem se_X1_changesAtMost : Cond.selects RX1 yX1_changesAtMost yX1_changesAtMost ∈ xm_tb := ms_3 (List.mem_of_getElem? (i := 110) (by decide +kernel)) rfl
abbrev mt_X1_ranksBy : xm_M := (yX1_ranksBy, cX1_ranksBy, 2, (some .boolean), 3, 65)
theorem ok_X1_ranksBy : xm_ok mt_X1_ranksBy 1 := ⟨plainFor_of_name (by decide), ms_3 (List.mem_of_getElem? (i := 95) (by decide +kernel)) rfl, ms_1 (List.mem_of_getElem? (i := 3) (by decide +kernel)) rfl, by decide, by decide, by decide +kernel⟩
theorem im_X1_ranksBy : Cond.instanceMethod yX1_ranksBy ∈ xm_tb := ms_3 (List.mem_of_getElem? (i := 93) (by decide +kernel)) rfl
theorem se_X1_ranksBy : Cond.selects RX1 yX1_ranksBy yX1_ranksBy ∈ xm_tb := ms_3 (List.mem_of_getElem? (i := 94) (by decide +kernel)) rfl
abbrev mt_X10_start : xm_M := (yX10_start, cX10_start, 3, none, 0, 0)
theorem ok_X10_start : xm_ok mt_X10_start 2 := ⟨plainFor_of_name (by decide), ms_3 (List.mem_of_getElem? (i := 157) (by decide +kernel)) rfl, ms_1 (List.mem_of_getElem? (i := 11) (by decide +kernel)) rfl, by decide, by decide, by decide +kernel⟩
theorem im_X10_start : Cond.instanceMethod yX10_start ∈ xm_tb := ms_3 (List.mem_of_getElem? (i := 155) (by decide +kernel)) rfl
theorem se_X10_start : Cond.selects RX10 yX10_start yX10_start ∈ xm_tb := ms_3 (List.mem_of_getElem? (i := 156) (by decide +kernel)) rfl
abbrev mt_X10_nextPair : xm_M := (yX10_nextPair, cX10_nextPair, 1, (some .boolean), 0, 0)
theorem ok_X10_nextPair : xm_ok mt_X10_nextPair 0 := ⟨plainFor_of_name (by decide), ms_3 (List.mem_of_getElem? (i := 165) (by decide +kernel)) rfl, ms_1 (List.mem_of_getElem? (i := 11) (by decide +kernel)) rfl, by decide, by decide, by decide +kernel⟩
theorem im_X10_nextPair : Cond.instanceMethod yX10_nextPair ∈ xm_tb := ms_3 (List.mem_of_getElem? (i := 164) (by decide +kernel)) rfl
theorem se_X10_nextPair : Cond.selects RX10 yX10_nextPair yX10_nextPair ∈ xm_tb := List.mem_filter.mpr ⟨List.mem_append_left _ (List.mem_of_getElem? (i := 19) (by decide +kernel)), rfl⟩
abbrev mt_X10_next : xm_M := (yX10_next, cX10_next, 3, (some .boolean), 1, 20)
theorem ok_X10_next : xm_ok mt_X10_next 0 := ⟨plainFor_of_name (by decide), ms_3 (List.mem_of_getElem? (i := 161) (by decide +kernel)) rfl, ms_1 (List.mem_of_getElem? (i := 11) (by decide +kernel)) rfl, by decide, by decide, by decide +kernel⟩
theorem im_X10_next : Cond.instanceMethod yX10_next ∈ xm_tb := ms_3 (List.mem_of_getElem? (i := 159) (by decide +kernel)) rfl
theorem se_X10_next : Cond.selects RX10 yX10_next yX10_next ∈ xm_tb := ms_3 (List.mem_of_getElem? (i := 160) (by decide +kernel)) rfl
abbrev mt_X7_startAnew : xm_M := (yX7_startAnew, cX7_startAnew, 2, none, 0, 0)
theorem ok_X7_startAnew : xm_ok mt_X7_startAnew 1 := ⟨plainFor_of_name (by decide), ms_2 (List.mem_of_getElem? (i := 83) (by decide +kernel)) rfl, ms_1 (List.mem_of_getElem? (i := 2) (by decide +kernel)) rfl, by decide, by decide, by decide +kernel⟩
theorem im_X7_startAnew : Cond.instanceMethod yX7_startAnew ∈ xm_tb := ms_2 (List.mem_of_getElem? (i := 81) (by decide +kernel)) rfl
theorem se_X7_startAnew : Cond.selects RX7 yX7_startAnew yX7_startAnew ∈ xm_tb := ms_2 (List.mem_of_getElem? (i := 82) (by decide +kernel)) rfl
abbrev mt_X2_zeroAll : xm_M := (yX2_zeroAll, cX2_zeroAll, 1, none, 1, 24)
theorem ok_X2_zeroAll : xm_ok mt_X2_zeroAll 0 := ⟨plainFor_of_name (by decide), ms_2 (List.mem_of_getElem? (i := 90) (by decide +kernel)) rfl, ms_1 (List.mem_of_getElem? (i := 7) (by decide +kernel)) rfl, by decide, by decide, by decide +kernel⟩
theorem im_X2_zeroAll : Cond.instanceMethod yX2_zeroAll ∈ xm_tb := ms_2 (List.mem_of_getElem? (i := 88) (by decide +kernel)) rfl
theorem se_X2_zeroAll : Cond.selects RX2 yX2_zeroAll yX2_zeroAll ∈ xm_tb := ms_2 (List.mem_of_getElem? (i := 89) (by decide +kernel)) rfl
abbrev mt_X4_forgetRing : xm_M := (yX4_forgetRing, cX4_forgetRing, 1, none, 0, 0)
theorem ok_X4_forgetRing : xm_ok mt_X4_forgetRing 0 := ⟨plainFor_of_name (by decide), ms_2 (List.mem_of_getElem? (i := 95) (by decide +kernel)) rfl, ms_1 (List.mem_of_getElem? (i := 6) (by decide +kernel)) rfl, by decide, by decide, by decide +kernel⟩
theorem im_X4_forgetRing : Cond.instanceMethod yX4_forgetRing ∈ xm_tb := ms_2 (List.mem_of_getElem? (i := 93) (by decide +kernel)) rfl
theorem se_X4_forgetRing : Cond.selects RX4 yX4_forgetRing yX4_forgetRing ∈ xm_tb := ms_2 (List.mem_of_getElem? (i := 94) (by decide +kernel)) rfl
abbrev mt_X5_forgetAll : xm_M := (yX5_forgetAll, cX5_forgetAll, 1, none, 1, 23)
theorem ok_X5_forgetAll : xm_ok mt_X5_forgetAll 0 := ⟨plainFor_of_name (by decide), ms_2 (List.mem_of_getElem? (i := 99) (by decide +kernel)) rfl, ms_1 (List.mem_of_getElem? (i := 10) (by decide +kernel)) rfl, by decide, by decide, by decide +kernel⟩
theorem im_X5_forgetAll : Cond.instanceMethod yX5_forgetAll ∈ xm_tb := ms_2 (List.mem_of_getElem? (i := 97) (by decide +kernel)) rfl
theorem se_X5_forgetAll : Cond.selects RX5 yX5_forgetAll yX5_forgetAll ∈ xm_tb := ms_2 (List.mem_of_getElem? (i := 98) (by decide +kernel)) rfl
abbrev mt_X2_openAll : xm_M := (yX2_openAll, cX2_openAll, 3, none, 0, 0)
theorem ok_X2_openAll : xm_ok mt_X2_openAll 1 := ⟨plainFor_of_name (by decide), ms_2 (List.mem_of_getElem? (i := 43) (by decide +kernel)) rfl, ms_1 (List.mem_of_getElem? (i := 7) (by decide +kernel)) rfl, by decide, by decide, by decide +kernel⟩
theorem im_X2_openAll : Cond.instanceMethod yX2_openAll ∈ xm_tb := ms_2 (List.mem_of_getElem? (i := 41) (by decide +kernel)) rfl
theorem se_X2_openAll : Cond.selects RX2 yX2_openAll yX2_openAll ∈ xm_tb := ms_2 (List.mem_of_getElem? (i := 42) (by decide +kernel)) rfl
abbrev mt_X11_forgetPlaces : xm_M := (yX11_forgetPlaces, cX11_forgetPlaces, 2, none, 0, 0)
theorem ok_X11_forgetPlaces : xm_ok mt_X11_forgetPlaces 0 := ⟨plainFor_of_name (by decide), ms_2 (List.mem_of_getElem? (i := 107) (by decide +kernel)) rfl, ms_1 (List.mem_of_getElem? (i := 1) (by decide +kernel)) rfl, by decide, by decide, by decide +kernel⟩
theorem im_X11_forgetPlaces : Cond.instanceMethod yX11_forgetPlaces ∈ xm_tb := ms_2 (List.mem_of_getElem? (i := 106) (by decide +kernel)) rfl
theorem se_X11_forgetPlaces : Cond.selects RX11 yX11_forgetPlaces yX11_forgetPlaces ∈ xm_tb := List.mem_filter.mpr ⟨List.mem_append_left _ (List.mem_of_getElem? (i := 1) (by decide +kernel)), rfl⟩
abbrev mt_X11_openTheBox : xm_M := (yX11_openTheBox, cX11_openTheBox, 1, none, 1, 22)
theorem ok_X11_openTheBox : xm_ok mt_X11_openTheBox 0 := ⟨plainFor_of_name (by decide), ms_2 (List.mem_of_getElem? (i := 103) (by decide +kernel)) rfl, ms_1 (List.mem_of_getElem? (i := 1) (by decide +kernel)) rfl, by decide, by decide, by decide +kernel⟩
theorem im_X11_openTheBox : Cond.instanceMethod yX11_openTheBox ∈ xm_tb := ms_2 (List.mem_of_getElem? (i := 102) (by decide +kernel)) rfl
theorem se_X11_openTheBox : Cond.selects RX11 yX11_openTheBox yX11_openTheBox ∈ xm_tb := List.mem_filter.mpr ⟨List.mem_append_left _ (List.mem_of_getElem? (i := 0) (by decide +kernel)), rfl⟩
abbrev mt_X11_loop : xm_M := (yX11_loop, cX11_loop, 3, (some .int), 2, 44)
theorem ok_X11_loop : xm_ok mt_X11_loop 1 := ⟨plainFor_of_name (by decide), ms_2 (List.mem_of_getElem? (i := 79) (by decide +kernel)) rfl, ms_1 (List.mem_of_getElem? (i := 1) (by decide +kernel)) rfl, by decide, by decide, by decide +kernel⟩
theorem im_X11_loop : Cond.instanceMethod yX11_loop ∈ xm_tb := ms_2 (List.mem_of_getElem? (i := 77) (by decide +kernel)) rfl
theorem se_X11_loop : Cond.selects RX11 yX11_loop yX11_loop ∈ xm_tb := ms_2 (List.mem_of_getElem? (i := 78) (by decide +kernel)) rfl
abbrev mt_X7_addBody : xm_M := (yX7_addBody, cX7_addBody, 1, (some .int), 2, 43)
theorem ok_X7_addBody : xm_ok mt_X7_addBody 0 := ⟨plainFor_of_name (by decide), ms_2 (List.mem_of_getElem? (i := 115) (by decide +kernel)) rfl, ms_1 (List.mem_of_getElem? (i := 2) (by decide +kernel)) rfl, by decide, by decide, by decide +kernel⟩
theorem im_X7_addBody : Cond.instanceMethod yX7_addBody ∈ xm_tb := ms_2 (List.mem_of_getElem? (i := 113) (by decide +kernel)) rfl
theorem se_X7_addBody : Cond.selects RX7 yX7_addBody yX7_addBody ∈ xm_tb := ms_2 (List.mem_of_getElem? (i := 114) (by decide +kernel)) rfl
abbrev mt_X11_body : xm_M := (yX11_body, cX11_body, 2, (some .int), 3, 63)
theorem ok_X11_body : xm_ok mt_X11_body 0 := ⟨plainFor_of_name (by decide), ms_2 (List.mem_of_getElem? (i := 111) (by decide +kernel)) rfl, ms_1 (List.mem_of_getElem? (i := 1) (by decide +kernel)) rfl, by decide, by decide, by decide +kernel⟩
theorem im_X11_body : Cond.instanceMethod yX11_body ∈ xm_tb := ms_2 (List.mem_of_getElem? (i := 109) (by decide +kernel)) rfl
theorem se_X11_body : Cond.selects RX11 yX11_body yX11_body ∈ xm_tb := ms_2 (List.mem_of_getElem? (i := 110) (by decide +kernel)) rfl
abbrev mt_X7_has : xm_M := (yX7_has, cX7_has, 2, (some .boolean), 0, 0)
theorem ok_X7_has : xm_ok mt_X7_has 1 := ⟨plainFor_of_name (by decide), ms_2 (List.mem_of_getElem? (i := 131) (by decide +kernel)) rfl, ms_1 (List.mem_of_getElem? (i := 2) (by decide +kernel)) rfl, by decide, by decide, by decide +kernel⟩
theorem im_X7_has : Cond.instanceMethod yX7_has ∈ xm_tb := ms_2 (List.mem_of_getElem? (i := 129) (by decide +kernel)) rfl
theorem se_X7_has : Cond.selects RX7 yX7_has yX7_has ∈ xm_tb := ms_2 (List.mem_of_getElem? (i := 130) (by decide +kernel)) rfl
abbrev mt_X11_isCode : xm_M := (yX11_isCode, cX11_isCode, 1, (some .boolean), 0, 0)
theorem ok_X11_isCode : xm_ok mt_X11_isCode 1 := ⟨plainFor_of_name (by decide), ms_2 (List.mem_of_getElem? (i := 134) (by decide +kernel)) rfl, ms_1 (List.mem_of_getElem? (i := 1) (by decide +kernel)) rfl, by decide, by decide, by decide +kernel⟩
theorem st_X11_isCode : Cond.static yX11_isCode ∈ xm_tb := ms_2 (List.mem_of_getElem? (i := 133) (by decide +kernel)) rfl
abbrev mt_X11_isConstant : xm_M := (yX11_isConstant, cX11_isConstant, 1, (some .boolean), 0, 0)
theorem ok_X11_isConstant : xm_ok mt_X11_isConstant 1 := ⟨plainFor_of_name (by decide), ms_2 (List.mem_of_getElem? (i := 138) (by decide +kernel)) rfl, ms_1 (List.mem_of_getElem? (i := 1) (by decide +kernel)) rfl, by decide, by decide, by decide +kernel⟩
theorem st_X11_isConstant : Cond.static yX11_isConstant ∈ xm_tb := ms_2 (List.mem_of_getElem? (i := 137) (by decide +kernel)) rfl
abbrev mt_X11_guard : xm_M := (yX11_guard, cX11_guard, 5, (some .int), 2, 48)
theorem ok_X11_guard : xm_ok mt_X11_guard 3 := ⟨plainFor_of_name (by decide), ms_2 (List.mem_of_getElem? (i := 127) (by decide +kernel)) rfl, ms_1 (List.mem_of_getElem? (i := 1) (by decide +kernel)) rfl, by decide, by decide, by decide +kernel⟩
theorem im_X11_guard : Cond.instanceMethod yX11_guard ∈ xm_tb := ms_2 (List.mem_of_getElem? (i := 125) (by decide +kernel)) rfl
theorem se_X11_guard : Cond.selects RX11 yX11_guard yX11_guard ∈ xm_tb := ms_2 (List.mem_of_getElem? (i := 126) (by decide +kernel)) rfl
abbrev mt_X7_hasNumber : xm_M := (yX7_hasNumber, cX7_hasNumber, 2, (some .boolean), 0, 0)
theorem ok_X7_hasNumber : xm_ok mt_X7_hasNumber 1 := ⟨plainFor_of_name (by decide), ms_2 (List.mem_of_getElem? (i := 154) (by decide +kernel)) rfl, ms_1 (List.mem_of_getElem? (i := 2) (by decide +kernel)) rfl, by decide, by decide, by decide +kernel⟩
theorem im_X7_hasNumber : Cond.instanceMethod yX7_hasNumber ∈ xm_tb := ms_2 (List.mem_of_getElem? (i := 152) (by decide +kernel)) rfl
theorem se_X7_hasNumber : Cond.selects RX7 yX7_hasNumber yX7_hasNumber ∈ xm_tb := ms_2 (List.mem_of_getElem? (i := 153) (by decide +kernel)) rfl
abbrev mt_X11_rule : xm_M := (yX11_rule, cX11_rule, 5, (some .int), 2, 42)
theorem ok_X11_rule : xm_ok mt_X11_rule 4 := ⟨plainFor_of_name (by decide), ms_2 (List.mem_of_getElem? (i := 150) (by decide +kernel)) rfl, ms_1 (List.mem_of_getElem? (i := 1) (by decide +kernel)) rfl, by decide, by decide, by decide +kernel⟩
theorem im_X11_rule : Cond.instanceMethod yX11_rule ∈ xm_tb := ms_2 (List.mem_of_getElem? (i := 148) (by decide +kernel)) rfl
theorem se_X11_rule : Cond.selects RX11 yX11_rule yX11_rule ∈ xm_tb := ms_2 (List.mem_of_getElem? (i := 149) (by decide +kernel)) rfl
abbrev mt_X11_many : xm_M := (yX11_many, cX11_many, 2, (some .int), 1, 21)
theorem ok_X11_many : xm_ok mt_X11_many 1 := ⟨plainFor_of_name (by decide), ms_2 (List.mem_of_getElem? (i := 159) (by decide +kernel)) rfl, ms_1 (List.mem_of_getElem? (i := 1) (by decide +kernel)) rfl, by decide, by decide, by decide +kernel⟩
theorem im_X11_many : Cond.instanceMethod yX11_many ∈ xm_tb := ms_2 (List.mem_of_getElem? (i := 157) (by decide +kernel)) rfl
theorem se_X11_many : Cond.selects RX11 yX11_many yX11_many ∈ xm_tb := ms_2 (List.mem_of_getElem? (i := 158) (by decide +kernel)) rfl
abbrev mt_X11_isGiven : xm_M := (yX11_isGiven, cX11_isGiven, 1, (some .boolean), 0, 0)
theorem ok_X11_isGiven : xm_ok mt_X11_isGiven 1 := ⟨plainFor_of_name (by decide), ms_2 (List.mem_of_getElem? (i := 166) (by decide +kernel)) rfl, ms_1 (List.mem_of_getElem? (i := 1) (by decide +kernel)) rfl, by decide, by decide, by decide +kernel⟩
theorem st_X11_isGiven : Cond.static yX11_isGiven ∈ xm_tb := ms_2 (List.mem_of_getElem? (i := 165) (by decide +kernel)) rfl
abbrev mt_X11_set : xm_M := (yX11_set, cX11_set, 3, (some .int), 1, 21)
theorem ok_X11_set : xm_ok mt_X11_set 2 := ⟨plainFor_of_name (by decide), ms_2 (List.mem_of_getElem? (i := 163) (by decide +kernel)) rfl, ms_1 (List.mem_of_getElem? (i := 1) (by decide +kernel)) rfl, by decide, by decide, by decide +kernel⟩
theorem im_X11_set : Cond.instanceMethod yX11_set ∈ xm_tb := ms_2 (List.mem_of_getElem? (i := 161) (by decide +kernel)) rfl
theorem se_X11_set : Cond.selects RX11 yX11_set yX11_set ∈ xm_tb := ms_2 (List.mem_of_getElem? (i := 162) (by decide +kernel)) rfl
abbrev mt_X11_at : xm_M := (yX11_at, cX11_at, 2, (some .long), 1, 21)
theorem ok_X11_at : xm_ok mt_X11_at 1 := ⟨plainFor_of_name (by decide), ms_2 (List.mem_of_getElem? (i := 172) (by decide +kernel)) rfl, ms_1 (List.mem_of_getElem? (i := 1) (by decide +kernel)) rfl, by decide, by decide, by decide +kernel⟩
theorem im_X11_at : Cond.instanceMethod yX11_at ∈ xm_tb := ms_2 (List.mem_of_getElem? (i := 170) (by decide +kernel)) rfl
theorem se_X11_at : Cond.selects RX11 yX11_at yX11_at ∈ xm_tb := ms_2 (List.mem_of_getElem? (i := 171) (by decide +kernel)) rfl
abbrev mt_X11_isTurns : xm_M := (yX11_isTurns, cX11_isTurns, 1, (some .boolean), 0, 0)
theorem ok_X11_isTurns : xm_ok mt_X11_isTurns 1 := ⟨plainFor_of_name (by decide), ms_2 (List.mem_of_getElem? (i := 179) (by decide +kernel)) rfl, ms_1 (List.mem_of_getElem? (i := 1) (by decide +kernel)) rfl, by decide, by decide, by decide +kernel⟩
theorem st_X11_isTurns : Cond.static yX11_isTurns ∈ xm_tb := ms_2 (List.mem_of_getElem? (i := 178) (by decide +kernel)) rfl
abbrev mt_X7_chosen : xm_M := (yX7_chosen, cX7_chosen, 3, (some .int), 3, 64)
theorem ok_X7_chosen : xm_ok mt_X7_chosen 1 := ⟨plainFor_of_name (by decide), ms_2 (List.mem_of_getElem? (i := 187) (by decide +kernel)) rfl, ms_1 (List.mem_of_getElem? (i := 2) (by decide +kernel)) rfl, by decide, by decide, by decide +kernel⟩
theorem im_X7_chosen : Cond.instanceMethod yX7_chosen ∈ xm_tb := ms_2 (List.mem_of_getElem? (i := 185) (by decide +kernel)) rfl
theorem se_X7_chosen : Cond.selects RX7 yX7_chosen yX7_chosen ∈ xm_tb := ms_2 (List.mem_of_getElem? (i := 186) (by decide +kernel)) rfl
abbrev mt_X7_step : xm_M := (yX7_step, cX7_step, 3, (some .int), 4, 86)
theorem ok_X7_step : xm_ok mt_X7_step 1 := ⟨plainFor_of_name (by decide), ms_2 (List.mem_of_getElem? (i := 183) (by decide +kernel)) rfl, ms_1 (List.mem_of_getElem? (i := 2) (by decide +kernel)) rfl, by decide, by decide, by decide +kernel⟩
theorem im_X7_step : Cond.instanceMethod yX7_step ∈ xm_tb := ms_2 (List.mem_of_getElem? (i := 181) (by decide +kernel)) rfl
theorem se_X7_step : Cond.selects RX7 yX7_step yX7_step ∈ xm_tb := ms_2 (List.mem_of_getElem? (i := 182) (by decide +kernel)) rfl
abbrev mt_X11_run : xm_M := (yX11_run, cX11_run, 4, (some .int), 5, 108)
theorem ok_X11_run : xm_ok mt_X11_run 1 := ⟨plainFor_of_name (by decide), ms_2 (List.mem_of_getElem? (i := 176) (by decide +kernel)) rfl, ms_1 (List.mem_of_getElem? (i := 1) (by decide +kernel)) rfl, by decide, by decide, by decide +kernel⟩
theorem im_X11_run : Cond.instanceMethod yX11_run ∈ xm_tb := ms_2 (List.mem_of_getElem? (i := 174) (by decide +kernel)) rfl
theorem se_X11_run : Cond.selects RX11 yX11_run yX11_run ∈ xm_tb := ms_2 (List.mem_of_getElem? (i := 175) (by decide +kernel)) rfl
abbrev mt_X11_turn : xm_M := (yX11_turn, cX11_turn, 1, (some .int), 4, 86)
theorem ok_X11_turn : xm_ok mt_X11_turn 0 := ⟨plainFor_of_name (by decide), ms_2 (List.mem_of_getElem? (i := 210) (by decide +kernel)) rfl, ms_1 (List.mem_of_getElem? (i := 1) (by decide +kernel)) rfl, by decide, by decide, by decide +kernel⟩
theorem im_X11_turn : Cond.instanceMethod yX11_turn ∈ xm_tb := ms_2 (List.mem_of_getElem? (i := 208) (by decide +kernel)) rfl
theorem se_X11_turn : Cond.selects RX11 yX11_turn yX11_turn ∈ xm_tb := ms_2 (List.mem_of_getElem? (i := 209) (by decide +kernel)) rfl
abbrev mt_X4_copy : xm_M := (yX4_copy, cX4_copy, 2, none, 1, 26)
theorem ok_X4_copy : xm_ok mt_X4_copy 2 := ⟨plainFor_of_name (by decide), ms_2 (List.mem_of_getElem? (i := 226) (by decide +kernel)) rfl, ms_1 (List.mem_of_getElem? (i := 6) (by decide +kernel)) rfl, by decide, by decide, by decide +kernel⟩
theorem st_X4_copy : Cond.static yX4_copy ∈ xm_tb := ms_2 (List.mem_of_getElem? (i := 225) (by decide +kernel)) rfl
abbrev mt_X4_isSame : xm_M := (yX4_isSame, cX4_isSame, 1, (some .boolean), 0, 0)
theorem ok_X4_isSame : xm_ok mt_X4_isSame 0 := ⟨plainFor_of_name (by decide), ms_2 (List.mem_of_getElem? (i := 234) (by decide +kernel)) rfl, ms_1 (List.mem_of_getElem? (i := 6) (by decide +kernel)) rfl, by decide, by decide, by decide +kernel⟩
theorem im_X4_isSame : Cond.instanceMethod yX4_isSame ∈ xm_tb := ms_2 (List.mem_of_getElem? (i := 233) (by decide +kernel)) rfl
theorem se_X4_isSame : Cond.selects RX4 yX4_isSame yX4_isSame ∈ xm_tb := List.mem_filter.mpr ⟨List.mem_append_left _ (List.mem_of_getElem? (i := 3) (by decide +kernel)), rfl⟩
abbrev mt_X4_lengthWithin : xm_M := (yX4_lengthWithin, cX4_lengthWithin, 7, (some .int), 5, 108)
theorem ok_X4_lengthWithin : xm_ok mt_X4_lengthWithin 3 := ⟨plainFor_of_name (by decide), ms_2 (List.mem_of_getElem? (i := 223) (by decide +kernel)) rfl, ms_1 (List.mem_of_getElem? (i := 6) (by decide +kernel)) rfl, by decide, by decide, by decide +kernel⟩
theorem im_X4_lengthWithin : Cond.instanceMethod yX4_lengthWithin ∈ xm_tb := ms_2 (List.mem_of_getElem? (i := 222) (by decide +kernel)) rfl
theorem se_X4_lengthWithin : Cond.selects RX4 yX4_lengthWithin yX4_lengthWithin ∈ xm_tb := List.mem_filter.mpr ⟨List.mem_append_left _ (List.mem_of_getElem? (i := 2) (by decide +kernel)), rfl⟩
abbrev mt_X4_leadOf : xm_M := (yX4_leadOf, cX4_leadOf, 6, (some .int), 5, 108)
theorem ok_X4_leadOf : xm_ok mt_X4_leadOf 4 := ⟨plainFor_of_name (by decide), ms_2 (List.mem_of_getElem? (i := 238) (by decide +kernel)) rfl, ms_1 (List.mem_of_getElem? (i := 6) (by decide +kernel)) rfl, by decide, by decide, by decide +kernel⟩
theorem im_X4_leadOf : Cond.instanceMethod yX4_leadOf ∈ xm_tb := ms_2 (List.mem_of_getElem? (i := 237) (by decide +kernel)) rfl
theorem se_X4_leadOf : Cond.selects RX4 yX4_leadOf yX4_leadOf ∈ xm_tb := List.mem_filter.mpr ⟨List.mem_append_left _ (List.mem_of_getElem? (i := 4) (by decide +kernel)), rfl⟩
abbrev mt_X4_findRing : xm_M := (yX4_findRing, cX4_findRing, 6, (some .int), 6, 134)
theorem ok_X4_findRing : xm_ok mt_X4_findRing 3 := ⟨plainFor_of_name (by decide), ms_2 (List.mem_of_getElem? (i := 219) (by decide +kernel)) rfl, ms_1 (List.mem_of_getElem? (i := 6) (by decide +kernel)) rfl, by decide, by decide, by decide +kernel⟩
theorem im_X4_findRing : Cond.instanceMethod yX4_findRing ∈ xm_tb := ms_2 (List.mem_of_getElem? (i := 217) (by decide +kernel)) rfl
theorem se_X4_findRing : Cond.selects RX4 yX4_findRing yX4_findRing ∈ xm_tb := ms_2 (List.mem_of_getElem? (i := 218) (by decide +kernel)) rfl
abbrev mt_X11_ring : xm_M := (yX11_ring, cX11_ring, 2, (some .int), 7, 159)
theorem ok_X11_ring : xm_ok mt_X11_ring 1 := ⟨plainFor_of_name (by decide), ms_2 (List.mem_of_getElem? (i := 215) (by decide +kernel)) rfl, ms_1 (List.mem_of_getElem? (i := 1) (by decide +kernel)) rfl, by decide, by decide, by decide +kernel⟩
theorem im_X11_ring : Cond.instanceMethod yX11_ring ∈ xm_tb := ms_2 (List.mem_of_getElem? (i := 213) (by decide +kernel)) rfl
theorem se_X11_ring : Cond.selects RX11 yX11_ring yX11_ring ∈ xm_tb := ms_2 (List.mem_of_getElem? (i := 214) (by decide +kernel)) rfl
abbrev mt_X11_ahead : xm_M := (yX11_ahead, cX11_ahead, 1, (some .int), 0, 0)
theorem ok_X11_ahead : xm_ok mt_X11_ahead 0 := ⟨plainFor_of_name (by decide), ms_3 (List.mem_of_getElem? (i := 2) (by decide +kernel)) rfl, ms_1 (List.mem_of_getElem? (i := 1) (by decide +kernel)) rfl, by decide, by decide, by decide +kernel⟩
theorem im_X11_ahead : Cond.instanceMethod yX11_ahead ∈ xm_tb := ms_3 (List.mem_of_getElem? (i := 0) (by decide +kernel)) rfl
theorem se_X11_ahead : Cond.selects RX11 yX11_ahead yX11_ahead ∈ xm_tb := ms_3 (List.mem_of_getElem? (i := 1) (by decide +kernel)) rfl
abbrev mt_X11_ask : xm_M := (yX11_ask, cX11_ask, 5, (some .boolean), 0, 0)
theorem ok_X11_ask : xm_ok mt_X11_ask 3 := ⟨plainFor_of_name (by decide), ms_3 (List.mem_of_getElem? (i := 10) (by decide +kernel)) rfl, ms_1 (List.mem_of_getElem? (i := 1) (by decide +kernel)) rfl, by decide, by decide, by decide +kernel⟩
theorem im_X11_ask : Cond.instanceMethod yX11_ask ∈ xm_tb := ms_3 (List.mem_of_getElem? (i := 9) (by decide +kernel)) rfl
theorem se_X11_ask : Cond.selects RX11 yX11_ask yX11_ask ∈ xm_tb := List.mem_filter.mpr ⟨List.mem_append_left _ (List.mem_of_getElem? (i := 5) (by decide +kernel)), rfl⟩
abbrev mt_X9_addPlane : xm_M := (yX9_addPlane, cX9_addPlane, 9, none, 0, 0)
theorem ok_X9_addPlane : xm_ok mt_X9_addPlane 4 := ⟨plainFor_of_name (by decide), ms_3 (List.mem_of_getElem? (i := 26) (by decide +kernel)) rfl, ms_1 (List.mem_of_getElem? (i := 9) (by decide +kernel)) rfl, by decide, by decide, by decide +kernel⟩
theorem im_X9_addPlane : Cond.instanceMethod yX9_addPlane ∈ xm_tb := ms_3 (List.mem_of_getElem? (i := 25) (by decide +kernel)) rfl
theorem se_X9_addPlane : Cond.selects RX9 yX9_addPlane yX9_addPlane ∈ xm_tb := List.mem_filter.mpr ⟨List.mem_append_left _ (List.mem_of_getElem? (i := 8) (by decide +kernel)), rfl⟩
abbrev mt_X9_addAxisPlane : xm_M := (yX9_addAxisPlane, cX9_addAxisPlane, 6, none, 1, 28)
theorem ok_X9_addAxisPlane : xm_ok mt_X9_addAxisPlane 3 := ⟨plainFor_of_name (by decide), ms_3 (List.mem_of_getElem? (i := 35) (by decide +kernel)) rfl, ms_1 (List.mem_of_getElem? (i := 9) (by decide +kernel)) rfl, by decide, by decide, by decide +kernel⟩
theorem im_X9_addAxisPlane : Cond.instanceMethod yX9_addAxisPlane ∈ xm_tb := ms_3 (List.mem_of_getElem? (i := 34) (by decide +kernel)) rfl
theorem se_X9_addAxisPlane : Cond.selects RX9 yX9_addAxisPlane yX9_addAxisPlane ∈ xm_tb := List.mem_filter.mpr ⟨List.mem_append_left _ (List.mem_of_getElem? (i := 9) (by decide +kernel)), rfl⟩
abbrev mt_X9_gather : xm_M := (yX9_gather, cX9_gather, 5, none, 2, 53)
theorem ok_X9_gather : xm_ok mt_X9_gather 2 := ⟨plainFor_of_name (by decide), ms_3 (List.mem_of_getElem? (i := 22) (by decide +kernel)) rfl, ms_1 (List.mem_of_getElem? (i := 9) (by decide +kernel)) rfl, by decide, by decide, by decide +kernel⟩
theorem im_X9_gather : Cond.instanceMethod yX9_gather ∈ xm_tb := ms_3 (List.mem_of_getElem? (i := 21) (by decide +kernel)) rfl
theorem se_X9_gather : Cond.selects RX9 yX9_gather yX9_gather ∈ xm_tb := List.mem_filter.mpr ⟨List.mem_append_left _ (List.mem_of_getElem? (i := 7) (by decide +kernel)), rfl⟩
abbrev mt_X6_empty : xm_M := (yX6_empty, cX6_empty, 1, none, 0, 0)
theorem ok_X6_empty : xm_ok mt_X6_empty 0 := ⟨plainFor_of_name (by decide), ms_3 (List.mem_of_getElem? (i := 40) (by decide +kernel)) rfl, ms_1 (List.mem_of_getElem? (i := 4) (by decide +kernel)) rfl, by decide, by decide, by decide +kernel⟩
theorem im_X6_empty : Cond.instanceMethod yX6_empty ∈ xm_tb := ms_3 (List.mem_of_getElem? (i := 38) (by decide +kernel)) rfl
theorem se_X6_empty : Cond.selects RX6 yX6_empty yX6_empty ∈ xm_tb := ms_3 (List.mem_of_getElem? (i := 39) (by decide +kernel)) rfl
abbrev mt_X9_cross : xm_M := (yX9_cross, cX9_cross, 6, (some .long), 0, 0)
theorem ok_X9_cross : xm_ok mt_X9_cross 3 := ⟨plainFor_of_name (by decide), ms_3 (List.mem_of_getElem? (i := 52) (by decide +kernel)) rfl, ms_1 (List.mem_of_getElem? (i := 9) (by decide +kernel)) rfl, by decide, by decide, by decide +kernel⟩
theorem im_X9_cross : Cond.instanceMethod yX9_cross ∈ xm_tb := ms_3 (List.mem_of_getElem? (i := 51) (by decide +kernel)) rfl
theorem se_X9_cross : Cond.selects RX9 yX9_cross yX9_cross ∈ xm_tb := List.mem_filter.mpr ⟨List.mem_append_left _ (List.mem_of_getElem? (i := 12) (by decide +kernel)), rfl⟩
abbrev mt_X9_meet : xm_M := (yX9_meet, cX9_meet, 18, (some .boolean), 1, 25)
theorem ok_X9_meet : xm_ok mt_X9_meet 3 := ⟨plainFor_of_name (by decide), ms_3 (List.mem_of_getElem? (i := 48) (by decide +kernel)) rfl, ms_1 (List.mem_of_getElem? (i := 9) (by decide +kernel)) rfl, by decide, by decide, by decide +kernel⟩
theorem im_X9_meet : Cond.instanceMethod yX9_meet ∈ xm_tb := ms_3 (List.mem_of_getElem? (i := 47) (by decide +kernel)) rfl
theorem se_X9_meet : Cond.selects RX9 yX9_meet yX9_meet ∈ xm_tb := List.mem_filter.mpr ⟨List.mem_append_left _ (List.mem_of_getElem? (i := 11) (by decide +kernel)), rfl⟩
abbrev mt_X9_isInside : xm_M := (yX9_isInside, cX9_isInside, 2, (some .boolean), 0, 0)
theorem ok_X9_isInside : xm_ok mt_X9_isInside 0 := ⟨plainFor_of_name (by decide), ms_3 (List.mem_of_getElem? (i := 59) (by decide +kernel)) rfl, ms_1 (List.mem_of_getElem? (i := 9) (by decide +kernel)) rfl, by decide, by decide, by decide +kernel⟩
theorem im_X9_isInside : Cond.instanceMethod yX9_isInside ∈ xm_tb := ms_3 (List.mem_of_getElem? (i := 58) (by decide +kernel)) rfl
theorem se_X9_isInside : Cond.selects RX9 yX9_isInside yX9_isInside ∈ xm_tb := List.mem_filter.mpr ⟨List.mem_append_left _ (List.mem_of_getElem? (i := 13) (by decide +kernel)), rfl⟩
abbrev mt_X9_commonPart : xm_M := (yX9_commonPart, cX9_commonPart, 11, (some .long), 0, 0)
theorem ok_X9_commonPart : xm_ok mt_X9_commonPart 2 := ⟨plainFor_of_name (by decide), ms_3 (List.mem_of_getElem? (i := 66) (by decide +kernel)) rfl, ms_1 (List.mem_of_getElem? (i := 9) (by decide +kernel)) rfl, by decide, by decide, by decide +kernel⟩
theorem st_X9_commonPart : Cond.static yX9_commonPart ∈ xm_tb := ms_3 (List.mem_of_getElem? (i := 65) (by decide +kernel)) rfl
abbrev mt_X9_shrink : xm_M := (yX9_shrink, cX9_shrink, 4, none, 1, 30)
theorem ok_X9_shrink : xm_ok mt_X9_shrink 0 := ⟨plainFor_of_name (by decide), ms_3 (List.mem_of_getElem? (i := 63) (by decide +kernel)) rfl, ms_1 (List.mem_of_getElem? (i := 9) (by decide +kernel)) rfl, by decide, by decide, by decide +kernel⟩
theorem im_X9_shrink : Cond.instanceMethod yX9_shrink ∈ xm_tb := ms_3 (List.mem_of_getElem? (i := 62) (by decide +kernel)) rfl
theorem se_X9_shrink : Cond.selects RX9 yX9_shrink yX9_shrink ∈ xm_tb := List.mem_filter.mpr ⟨List.mem_append_left _ (List.mem_of_getElem? (i := 14) (by decide +kernel)), rfl⟩
abbrev mt_X6_hasPoint : xm_M := (yX6_hasPoint, cX6_hasPoint, 3, (some .boolean), 0, 0)
theorem ok_X6_hasPoint : xm_ok mt_X6_hasPoint 1 := ⟨plainFor_of_name (by decide), ms_3 (List.mem_of_getElem? (i := 74) (by decide +kernel)) rfl, ms_1 (List.mem_of_getElem? (i := 4) (by decide +kernel)) rfl, by decide, by decide, by decide +kernel⟩
theorem im_X6_hasPoint : Cond.instanceMethod yX6_hasPoint ∈ xm_tb := ms_3 (List.mem_of_getElem? (i := 73) (by decide +kernel)) rfl
theorem se_X6_hasPoint : Cond.selects RX6 yX6_hasPoint yX6_hasPoint ∈ xm_tb := List.mem_filter.mpr ⟨List.mem_append_left _ (List.mem_of_getElem? (i := 15) (by decide +kernel)), rfl⟩
abbrev mt_X6_add : xm_M := (yX6_add, cX6_add, 2, none, 1, 26)
theorem ok_X6_add : xm_ok mt_X6_add 1 := ⟨plainFor_of_name (by decide), ms_3 (List.mem_of_getElem? (i := 70) (by decide +kernel)) rfl, ms_1 (List.mem_of_getElem? (i := 4) (by decide +kernel)) rfl, by decide, by decide, by decide +kernel⟩
theorem im_X6_add : Cond.instanceMethod yX6_add ∈ xm_tb := ms_3 (List.mem_of_getElem? (i := 68) (by decide +kernel)) rfl
theorem se_X6_add : Cond.selects RX6 yX6_add yX6_add ∈ xm_tb := ms_3 (List.mem_of_getElem? (i := 69) (by decide +kernel)) rfl
abbrev mt_X9_findCorners : xm_M := (yX9_findCorners, cX9_findCorners, 5, none, 2, 62)
theorem ok_X9_findCorners : xm_ok mt_X9_findCorners 1 := ⟨plainFor_of_name (by decide), ms_3 (List.mem_of_getElem? (i := 44) (by decide +kernel)) rfl, ms_1 (List.mem_of_getElem? (i := 9) (by decide +kernel)) rfl, by decide, by decide, by decide +kernel⟩
theorem im_X9_findCorners : Cond.instanceMethod yX9_findCorners ∈ xm_tb := ms_3 (List.mem_of_getElem? (i := 43) (by decide +kernel)) rfl
theorem se_X9_findCorners : Cond.selects RX9 yX9_findCorners yX9_findCorners ∈ xm_tb := List.mem_filter.mpr ⟨List.mem_append_left _ (List.mem_of_getElem? (i := 10) (by decide +kernel)), rfl⟩
abbrev mt_X6_isEmpty : xm_M := (yX6_isEmpty, cX6_isEmpty, 1, (some .boolean), 0, 0)
theorem ok_X6_isEmpty : xm_ok mt_X6_isEmpty 0 := ⟨plainFor_of_name (by decide), ms_3 (List.mem_of_getElem? (i := 79) (by decide +kernel)) rfl, ms_1 (List.mem_of_getElem? (i := 4) (by decide +kernel)) rfl, by decide, by decide, by decide +kernel⟩
theorem im_X6_isEmpty : Cond.instanceMethod yX6_isEmpty ∈ xm_tb := ms_3 (List.mem_of_getElem? (i := 77) (by decide +kernel)) rfl
theorem se_X6_isEmpty : Cond.selects RX6 yX6_isEmpty yX6_isEmpty ∈ xm_tb := ms_3 (List.mem_of_getElem? (i := 78) (by decide +kernel)) rfl
abbrev mt_X9_follow : xm_M := (yX9_follow, cX9_follow, 4, (some .boolean), 1, 25)
theorem ok_X9_follow : xm_ok mt_X9_follow 3 := ⟨plainFor_of_name (by decide), ms_3 (List.mem_of_getElem? (i := 87) (by decide +kernel)) rfl, ms_1 (List.mem_of_getElem? (i := 9) (by decide +kernel)) rfl, by decide, by decide, by decide +kernel⟩
theorem im_X9_follow : Cond.instanceMethod yX9_follow ∈ xm_tb := ms_3 (List.mem_of_getElem? (i := 86) (by decide +kernel)) rfl
theorem se_X9_follow : Cond.selects RX9 yX9_follow yX9_follow ∈ xm_tb := List.mem_filter.mpr ⟨List.mem_append_left _ (List.mem_of_getElem? (i := 17) (by decide +kernel)), rfl⟩
abbrev mt_X9_findDirections : xm_M := (yX9_findDirections, cX9_findDirections, 5, none, 2, 53)
theorem ok_X9_findDirections : xm_ok mt_X9_findDirections 1 := ⟨plainFor_of_name (by decide), ms_3 (List.mem_of_getElem? (i := 83) (by decide +kernel)) rfl, ms_1 (List.mem_of_getElem? (i := 9) (by decide +kernel)) rfl, by decide, by decide, by decide +kernel⟩
theorem im_X9_findDirections : Cond.instanceMethod yX9_findDirections ∈ xm_tb := ms_3 (List.mem_of_getElem? (i := 82) (by decide +kernel)) rfl
theorem se_X9_findDirections : Cond.selects RX9 yX9_findDirections yX9_findDirections ∈ xm_tb := List.mem_filter.mpr ⟨List.mem_append_left _ (List.mem_of_getElem? (i := 16) (by decide +kernel)), rfl⟩
abbrev mt_X9_shape : xm_M := (yX9_shape, cX9_shape, 4, none, 3, 86)
theorem ok_X9_shape : xm_ok mt_X9_shape 2 := ⟨plainFor_of_name (by decide), ms_3 (List.mem_of_getElem? (i := 18) (by decide +kernel)) rfl, ms_1 (List.mem_of_getElem? (i := 9) (by decide +kernel)) rfl, by decide, by decide, by decide +kernel⟩
theorem im_X9_shape : Cond.instanceMethod yX9_shape ∈ xm_tb := ms_3 (List.mem_of_getElem? (i := 16) (by decide +kernel)) rfl
theorem se_X9_shape : Cond.selects RX9 yX9_shape yX9_shape ∈ xm_tb := ms_3 (List.mem_of_getElem? (i := 17) (by decide +kernel)) rfl
abbrev mt_X11_learnPlaces : xm_M := (yX11_learnPlaces, cX11_learnPlaces, 3, none, 4, 109)
theorem ok_X11_learnPlaces : xm_ok mt_X11_learnPlaces 0 := ⟨plainFor_of_name (by decide), ms_3 (List.mem_of_getElem? (i := 14) (by decide +kernel)) rfl, ms_1 (List.mem_of_getElem? (i := 1) (by decide +kernel)) rfl, by decide, by decide, by decide +kernel⟩
theorem im_X11_learnPlaces : Cond.instanceMethod yX11_learnPlaces ∈ xm_tb := ms_3 (List.mem_of_getElem? (i := 13) (by decide +kernel)) rfl
theorem se_X11_learnPlaces : Cond.selects RX11 yX11_learnPlaces yX11_learnPlaces ∈ xm_tb := List.mem_filter.mpr ⟨List.mem_append_left _ (List.mem_of_getElem? (i := 6) (by decide +kernel)), rfl⟩
abbrev mt_X7_isRankedBy : xm_M := (yX7_isRankedBy, cX7_isRankedBy, 3, (some .boolean), 4, 86)
theorem ok_X7_isRankedBy : xm_ok mt_X7_isRankedBy 1 := ⟨plainFor_of_name (by decide), ms_3 (List.mem_of_getElem? (i := 91) (by decide +kernel)) rfl, ms_1 (List.mem_of_getElem? (i := 2) (by decide +kernel)) rfl, by decide, by decide, by decide +kernel⟩
theorem im_X7_isRankedBy : Cond.instanceMethod yX7_isRankedBy ∈ xm_tb := ms_3 (List.mem_of_getElem? (i := 89) (by decide +kernel)) rfl
theorem se_X7_isRankedBy : Cond.selects RX7 yX7_isRankedBy yX7_isRankedBy ∈ xm_tb := ms_3 (List.mem_of_getElem? (i := 90) (by decide +kernel)) rfl
abbrev mt_X11_ranks : xm_M := (yX11_ranks, cX11_ranks, 4, (some .int), 5, 131)
theorem ok_X11_ranks : xm_ok mt_X11_ranks 3 := ⟨plainFor_of_name (by decide), ms_3 (List.mem_of_getElem? (i := 6) (by decide +kernel)) rfl, ms_1 (List.mem_of_getElem? (i := 1) (by decide +kernel)) rfl, by decide, by decide, by decide +kernel⟩
theorem im_X11_ranks : Cond.instanceMethod yX11_ranks ∈ xm_tb := ms_3 (List.mem_of_getElem? (i := 4) (by decide +kernel)) rfl
theorem se_X11_ranks : Cond.selects RX11 yX11_ranks yX11_ranks ∈ xm_tb := ms_3 (List.mem_of_getElem? (i := 5) (by decide +kernel)) rfl
abbrev mt_X11_tells : xm_M := (yX11_tells, cX11_tells, 7, (some .int), 5, 131)
theorem ok_X11_tells : xm_ok mt_X11_tells 4 := ⟨plainFor_of_name (by decide), ms_3 (List.mem_of_getElem? (i := 119) (by decide +kernel)) rfl, ms_1 (List.mem_of_getElem? (i := 1) (by decide +kernel)) rfl, by decide, by decide, by decide +kernel⟩
theorem im_X11_tells : Cond.instanceMethod yX11_tells ∈ xm_tb := ms_3 (List.mem_of_getElem? (i := 117) (by decide +kernel)) rfl
theorem se_X11_tells : Cond.selects RX11 yX11_tells yX11_tells ∈ xm_tb := ms_3 (List.mem_of_getElem? (i := 118) (by decide +kernel)) rfl
abbrev mt_X6_floorOf : xm_M := (yX6_floorOf, cX6_floorOf, 9, (some .long), 1, 25)
theorem ok_X6_floorOf : xm_ok mt_X6_floorOf 1 := ⟨plainFor_of_name (by decide), ms_3 (List.mem_of_getElem? (i := 135) (by decide +kernel)) rfl, ms_1 (List.mem_of_getElem? (i := 4) (by decide +kernel)) rfl, by decide, by decide, by decide +kernel⟩
theorem im_X6_floorOf : Cond.instanceMethod yX6_floorOf ∈ xm_tb := ms_3 (List.mem_of_getElem? (i := 133) (by decide +kernel)) rfl
theorem se_X6_floorOf : Cond.selects RX6 yX6_floorOf yX6_floorOf ∈ xm_tb := ms_3 (List.mem_of_getElem? (i := 134) (by decide +kernel)) rfl
abbrev mt_X7_floorOf : xm_M := (yX7_floorOf, cX7_floorOf, 9, (some .long), 2, 53)
theorem ok_X7_floorOf : xm_ok mt_X7_floorOf 1 := ⟨plainFor_of_name (by decide), ms_3 (List.mem_of_getElem? (i := 130) (by decide +kernel)) rfl, ms_1 (List.mem_of_getElem? (i := 2) (by decide +kernel)) rfl, by decide, by decide, by decide +kernel⟩
theorem im_X7_floorOf : Cond.instanceMethod yX7_floorOf ∈ xm_tb := ms_3 (List.mem_of_getElem? (i := 128) (by decide +kernel)) rfl
theorem se_X7_floorOf : Cond.selects RX7 yX7_floorOf yX7_floorOf ∈ xm_tb := ms_3 (List.mem_of_getElem? (i := 129) (by decide +kernel)) rfl
abbrev mt_X11_floor : xm_M := (yX11_floor, cX11_floor, 4, (some .long), 5, 131)
theorem ok_X11_floor : xm_ok mt_X11_floor 3 := ⟨plainFor_of_name (by decide), ms_3 (List.mem_of_getElem? (i := 125) (by decide +kernel)) rfl, ms_1 (List.mem_of_getElem? (i := 1) (by decide +kernel)) rfl, by decide, by decide, by decide +kernel⟩
theorem im_X11_floor : Cond.instanceMethod yX11_floor ∈ xm_tb := ms_3 (List.mem_of_getElem? (i := 123) (by decide +kernel)) rfl
theorem se_X11_floor : Cond.selects RX11 yX11_floor yX11_floor ∈ xm_tb := ms_3 (List.mem_of_getElem? (i := 124) (by decide +kernel)) rfl
abbrev mt_X11_isSize : xm_M := (yX11_isSize, cX11_isSize, 1, (some .boolean), 0, 0)
theorem ok_X11_isSize : xm_ok mt_X11_isSize 1 := ⟨plainFor_of_name (by decide), ms_3 (List.mem_of_getElem? (i := 149) (by decide +kernel)) rfl, ms_1 (List.mem_of_getElem? (i := 1) (by decide +kernel)) rfl, by decide, by decide, by decide +kernel⟩
theorem st_X11_isSize : Cond.static yX11_isSize ∈ xm_tb := ms_3 (List.mem_of_getElem? (i := 148) (by decide +kernel)) rfl
abbrev mt_X5_keep : xm_M := (yX5_keep, cX5_keep, 2, none, 1, 26)
theorem ok_X5_keep : xm_ok mt_X5_keep 1 := ⟨plainFor_of_name (by decide), ms_3 (List.mem_of_getElem? (i := 175) (by decide +kernel)) rfl, ms_1 (List.mem_of_getElem? (i := 10) (by decide +kernel)) rfl, by decide, by decide, by decide +kernel⟩
theorem im_X5_keep : Cond.instanceMethod yX5_keep ∈ xm_tb := ms_3 (List.mem_of_getElem? (i := 174) (by decide +kernel)) rfl
theorem se_X5_keep : Cond.selects RX5 yX5_keep yX5_keep ∈ xm_tb := List.mem_filter.mpr ⟨List.mem_append_left _ (List.mem_of_getElem? (i := 20) (by decide +kernel)), rfl⟩
abbrev mt_X5_seekRank : xm_M := (yX5_seekRank, cX5_seekRank, 4, (some .boolean), 5, 108)
theorem ok_X5_seekRank : xm_ok mt_X5_seekRank 2 := ⟨plainFor_of_name (by decide), ms_3 (List.mem_of_getElem? (i := 153) (by decide +kernel)) rfl, ms_1 (List.mem_of_getElem? (i := 10) (by decide +kernel)) rfl, by decide, by decide, by decide +kernel⟩
theorem im_X5_seekRank : Cond.instanceMethod yX5_seekRank ∈ xm_tb := ms_3 (List.mem_of_getElem? (i := 151) (by decide +kernel)) rfl
theorem se_X5_seekRank : Cond.selects RX5 yX5_seekRank yX5_seekRank ∈ xm_tb := ms_3 (List.mem_of_getElem? (i := 152) (by decide +kernel)) rfl
abbrev mt_X11_rank : xm_M := (yX11_rank, cX11_rank, 2, (some .int), 6, 131)
theorem ok_X11_rank : xm_ok mt_X11_rank 1 := ⟨plainFor_of_name (by decide), ms_3 (List.mem_of_getElem? (i := 146) (by decide +kernel)) rfl, ms_1 (List.mem_of_getElem? (i := 1) (by decide +kernel)) rfl, by decide, by decide, by decide +kernel⟩
theorem im_X11_rank : Cond.instanceMethod yX11_rank ∈ xm_tb := ms_3 (List.mem_of_getElem? (i := 144) (by decide +kernel)) rfl
theorem se_X11_rank : Cond.selects RX11 yX11_rank yX11_rank ∈ xm_tb := ms_3 (List.mem_of_getElem? (i := 145) (by decide +kernel)) rfl
abbrev mt_X5_isRow : xm_M := (yX5_isRow, cX5_isRow, 6, (some .boolean), 4, 86)
theorem ok_X5_isRow : xm_ok mt_X5_isRow 2 := ⟨plainFor_of_name (by decide), ms_3 (List.mem_of_getElem? (i := 191) (by decide +kernel)) rfl, ms_1 (List.mem_of_getElem? (i := 10) (by decide +kernel)) rfl, by decide, by decide, by decide +kernel⟩
theorem im_X5_isRow : Cond.instanceMethod yX5_isRow ∈ xm_tb := ms_3 (List.mem_of_getElem? (i := 190) (by decide +kernel)) rfl
theorem se_X5_isRow : Cond.selects RX5 yX5_isRow yX5_isRow ∈ xm_tb := List.mem_filter.mpr ⟨List.mem_append_left _ (List.mem_of_getElem? (i := 22) (by decide +kernel)), rfl⟩
abbrev mt_X5_seekRow : xm_M := (yX5_seekRow, cX5_seekRow, 4, (some .boolean), 5, 111)
theorem ok_X5_seekRow : xm_ok mt_X5_seekRow 2 := ⟨plainFor_of_name (by decide), ms_3 (List.mem_of_getElem? (i := 187) (by decide +kernel)) rfl, ms_1 (List.mem_of_getElem? (i := 10) (by decide +kernel)) rfl, by decide, by decide, by decide +kernel⟩
theorem im_X5_seekRow : Cond.instanceMethod yX5_seekRow ∈ xm_tb := ms_3 (List.mem_of_getElem? (i := 186) (by decide +kernel)) rfl
theorem se_X5_seekRow : Cond.selects RX5 yX5_seekRow yX5_seekRow ∈ xm_tb := List.mem_filter.mpr ⟨List.mem_append_left _ (List.mem_of_getElem? (i := 21) (by decide +kernel)), rfl⟩
abbrev mt_X5_release : xm_M := (yX5_release, cX5_release, 5, (some .int), 4, 86)
theorem ok_X5_release : xm_ok mt_X5_release 2 := ⟨plainFor_of_name (by decide), ms_3 (List.mem_of_getElem? (i := 197) (by decide +kernel)) rfl, ms_1 (List.mem_of_getElem? (i := 10) (by decide +kernel)) rfl, by decide, by decide, by decide +kernel⟩
theorem im_X5_release : Cond.instanceMethod yX5_release ∈ xm_tb := ms_3 (List.mem_of_getElem? (i := 196) (by decide +kernel)) rfl
theorem se_X5_release : Cond.selects RX5 yX5_release yX5_release ∈ xm_tb := List.mem_filter.mpr ⟨List.mem_append_left _ (List.mem_of_getElem? (i := 23) (by decide +kernel)), rfl⟩
abbrev mt_X5_seekRows : xm_M := (yX5_seekRows, cX5_seekRows, 5, (some .int), 6, 134)
theorem ok_X5_seekRows : xm_ok mt_X5_seekRows 2 := ⟨plainFor_of_name (by decide), ms_3 (List.mem_of_getElem? (i := 183) (by decide +kernel)) rfl, ms_1 (List.mem_of_getElem? (i := 10) (by decide +kernel)) rfl, by decide, by decide, by decide +kernel⟩
theorem im_X5_seekRows : Cond.instanceMethod yX5_seekRows ∈ xm_tb := ms_3 (List.mem_of_getElem? (i := 181) (by decide +kernel)) rfl
theorem se_X5_seekRows : Cond.selects RX5 yX5_seekRows yX5_seekRows ∈ xm_tb := ms_3 (List.mem_of_getElem? (i := 182) (by decide +kernel)) rfl
abbrev mt_X11_rows : xm_M := (yX11_rows, cX11_rows, 2, (some .int), 7, 158)
theorem ok_X11_rows : xm_ok mt_X11_rows 1 := ⟨plainFor_of_name (by decide), ms_3 (List.mem_of_getElem? (i := 179) (by decide +kernel)) rfl, ms_1 (List.mem_of_getElem? (i := 1) (by decide +kernel)) rfl, by decide, by decide, by decide +kernel⟩
theorem im_X11_rows : Cond.instanceMethod yX11_rows ∈ xm_tb := ms_3 (List.mem_of_getElem? (i := 177) (by decide +kernel)) rfl
theorem se_X11_rows : Cond.selects RX11 yX11_rows yX11_rows ∈ xm_tb := ms_3 (List.mem_of_getElem? (i := 178) (by decide +kernel)) rfl
abbrev mt_X5_weightOf : xm_M := (yX5_weightOf, cX5_weightOf, 3, (some .int), 0, 0)
theorem ok_X5_weightOf : xm_ok mt_X5_weightOf 2 := ⟨plainFor_of_name (by decide), ms_3 (List.mem_of_getElem? (i := 205) (by decide +kernel)) rfl, ms_1 (List.mem_of_getElem? (i := 10) (by decide +kernel)) rfl, by decide, by decide, by decide +kernel⟩
theorem im_X5_weightOf : Cond.instanceMethod yX5_weightOf ∈ xm_tb := ms_3 (List.mem_of_getElem? (i := 203) (by decide +kernel)) rfl
theorem se_X5_weightOf : Cond.selects RX5 yX5_weightOf yX5_weightOf ∈ xm_tb := ms_3 (List.mem_of_getElem? (i := 204) (by decide +kernel)) rfl
abbrev mt_X11_found : xm_M := (yX11_found, cX11_found, 3, (some .int), 1, 22)
theorem ok_X11_found : xm_ok mt_X11_found 2 := ⟨plainFor_of_name (by decide), ms_3 (List.mem_of_getElem? (i := 201) (by decide +kernel)) rfl, ms_1 (List.mem_of_getElem? (i := 1) (by decide +kernel)) rfl, by decide, by decide, by decide +kernel⟩
theorem im_X11_found : Cond.instanceMethod yX11_found ∈ xm_tb := ms_3 (List.mem_of_getElem? (i := 199) (by decide +kernel)) rfl
theorem se_X11_found : Cond.selects RX11 yX11_found yX11_found ∈ xm_tb := ms_3 (List.mem_of_getElem? (i := 200) (by decide +kernel)) rfl
abbrev mt_X11_by : xm_M := (yX11_by, cX11_by, 2, (some .int), 1, 21)
theorem ok_X11_by : xm_ok mt_X11_by 1 := ⟨plainFor_of_name (by decide), ms_3 (List.mem_of_getElem? (i := 209) (by decide +kernel)) rfl, ms_1 (List.mem_of_getElem? (i := 1) (by decide +kernel)) rfl, by decide, by decide, by decide +kernel⟩
theorem im_X11_by : Cond.instanceMethod yX11_by ∈ xm_tb := ms_3 (List.mem_of_getElem? (i := 207) (by decide +kernel)) rfl
theorem se_X11_by : Cond.selects RX11 yX11_by yX11_by ∈ xm_tb := ms_3 (List.mem_of_getElem? (i := 208) (by decide +kernel)) rfl
abbrev mt_X2_encloses : xm_M := (yX2_encloses, cX2_encloses, 7, (some .boolean), 1, 22)
theorem ok_X2_encloses : xm_ok mt_X2_encloses 1 := ⟨plainFor_of_name (by decide), ms_3 (List.mem_of_getElem? (i := 218) (by decide +kernel)) rfl, ms_1 (List.mem_of_getElem? (i := 7) (by decide +kernel)) rfl, by decide, by decide, by decide +kernel⟩
theorem im_X2_encloses : Cond.instanceMethod yX2_encloses ∈ xm_tb := ms_3 (List.mem_of_getElem? (i := 216) (by decide +kernel)) rfl
theorem se_X2_encloses : Cond.selects RX2 yX2_encloses yX2_encloses ∈ xm_tb := ms_3 (List.mem_of_getElem? (i := 217) (by decide +kernel)) rfl
abbrev mt_X11_bound : xm_M := (yX11_bound, cX11_bound, 1, (some .long), 2, 48)
theorem ok_X11_bound : xm_ok mt_X11_bound 0 := ⟨plainFor_of_name (by decide), ms_3 (List.mem_of_getElem? (i := 213) (by decide +kernel)) rfl, ms_1 (List.mem_of_getElem? (i := 1) (by decide +kernel)) rfl, by decide, by decide, by decide +kernel⟩
theorem im_X11_bound : Cond.instanceMethod yX11_bound ∈ xm_tb := ms_3 (List.mem_of_getElem? (i := 211) (by decide +kernel)) rfl
theorem se_X11_bound : Cond.selects RX11 yX11_bound yX11_bound ∈ xm_tb := ms_3 (List.mem_of_getElem? (i := 212) (by decide +kernel)) rfl
abbrev mt_X11_isSide : xm_M := (yX11_isSide, cX11_isSide, 1, (some .boolean), 0, 0)
theorem ok_X11_isSide : xm_ok mt_X11_isSide 1 := ⟨plainFor_of_name (by decide), ms_3 (List.mem_of_getElem? (i := 231) (by decide +kernel)) rfl, ms_1 (List.mem_of_getElem? (i := 1) (by decide +kernel)) rfl, by decide, by decide, by decide +kernel⟩
theorem st_X11_isSide : Cond.static yX11_isSide ∈ xm_tb := ms_3 (List.mem_of_getElem? (i := 230) (by decide +kernel)) rfl
abbrev mt_X2_put : xm_M := (yX2_put, cX2_put, 5, none, 0, 0)
theorem ok_X2_put : xm_ok mt_X2_put 3 := ⟨plainFor_of_name (by decide), ms_3 (List.mem_of_getElem? (i := 237) (by decide +kernel)) rfl, ms_1 (List.mem_of_getElem? (i := 7) (by decide +kernel)) rfl, by decide, by decide, by decide +kernel⟩
theorem im_X2_put : Cond.instanceMethod yX2_put ∈ xm_tb := ms_3 (List.mem_of_getElem? (i := 235) (by decide +kernel)) rfl
theorem se_X2_put : Cond.selects RX2 yX2_put yX2_put ∈ xm_tb := ms_3 (List.mem_of_getElem? (i := 236) (by decide +kernel)) rfl
abbrev mt_X11_begin : xm_M := (yX11_begin, cX11_begin, 4, (some .int), 1, 24)
theorem ok_X11_begin : xm_ok mt_X11_begin 3 := ⟨plainFor_of_name (by decide), ms_3 (List.mem_of_getElem? (i := 228) (by decide +kernel)) rfl, ms_1 (List.mem_of_getElem? (i := 1) (by decide +kernel)) rfl, by decide, by decide, by decide +kernel⟩
theorem im_X11_begin : Cond.instanceMethod yX11_begin ∈ xm_tb := ms_3 (List.mem_of_getElem? (i := 226) (by decide +kernel)) rfl
theorem se_X11_begin : Cond.selects RX11 yX11_begin yX11_begin ∈ xm_tb := ms_3 (List.mem_of_getElem? (i := 227) (by decide +kernel)) rfl
abbrev mt_X2_isCrossed : xm_M := (yX2_isCrossed, cX2_isCrossed, 6, (some .boolean), 1, 22)
theorem ok_X2_isCrossed : xm_ok mt_X2_isCrossed 0 := ⟨plainFor_of_name (by decide), ms_4 (List.mem_of_getElem? (i := 5) (by decide +kernel)) rfl, ms_1 (List.mem_of_getElem? (i := 7) (by decide +kernel)) rfl, by decide, by decide, by decide +kernel⟩
theorem im_X2_isCrossed : Cond.instanceMethod yX2_isCrossed ∈ xm_tb := ms_4 (List.mem_of_getElem? (i := 3) (by decide +kernel)) rfl
theorem se_X2_isCrossed : Cond.selects RX2 yX2_isCrossed yX2_isCrossed ∈ xm_tb := ms_4 (List.mem_of_getElem? (i := 4) (by decide +kernel)) rfl
abbrev mt_X2_copyFrom : xm_M := (yX2_copyFrom, cX2_copyFrom, 2, none, 1, 26)
theorem ok_X2_copyFrom : xm_ok mt_X2_copyFrom 1 := ⟨plainFor_of_name (by decide), ms_4 (List.mem_of_getElem? (i := 13) (by decide +kernel)) rfl, ms_1 (List.mem_of_getElem? (i := 7) (by decide +kernel)) rfl, by decide, by decide, by decide +kernel⟩
theorem im_X2_copyFrom : Cond.instanceMethod yX2_copyFrom ∈ xm_tb := ms_4 (List.mem_of_getElem? (i := 11) (by decide +kernel)) rfl
theorem se_X2_copyFrom : Cond.selects RX2 yX2_copyFrom yX2_copyFrom ∈ xm_tb := ms_4 (List.mem_of_getElem? (i := 12) (by decide +kernel)) rfl
abbrev mt_X2_widen : xm_M := (yX2_widen, cX2_widen, 7, none, 1, 24)
theorem ok_X2_widen : xm_ok mt_X2_widen 3 := ⟨plainFor_of_name (by decide), ms_4 (List.mem_of_getElem? (i := 34) (by decide +kernel)) rfl, ms_1 (List.mem_of_getElem? (i := 7) (by decide +kernel)) rfl, by decide, by decide, by decide +kernel⟩
theorem im_X2_widen : Cond.instanceMethod yX2_widen ∈ xm_tb := ms_4 (List.mem_of_getElem? (i := 32) (by decide +kernel)) rfl
theorem se_X2_widen : Cond.selects RX2 yX2_widen yX2_widen ∈ xm_tb := ms_4 (List.mem_of_getElem? (i := 33) (by decide +kernel)) rfl
abbrev mt_X8_lookAtBodies : xm_M := (yX8_lookAtBodies, cX8_lookAtBodies, 5, none, 3, 73)
theorem ok_X8_lookAtBodies : xm_ok mt_X8_lookAtBodies 1 := ⟨plainFor_of_name (by decide), ms_4 (List.mem_of_getElem? (i := 18) (by decide +kernel)) rfl, ms_1 (List.mem_of_getElem? (i := 8) (by decide +kernel)) rfl, by decide, by decide, by decide +kernel⟩
theorem im_X8_lookAtBodies : Cond.instanceMethod yX8_lookAtBodies ∈ xm_tb := ms_4 (List.mem_of_getElem? (i := 17) (by decide +kernel)) rfl
theorem se_X8_lookAtBodies : Cond.selects RX8 yX8_lookAtBodies yX8_lookAtBodies ∈ xm_tb := List.mem_filter.mpr ⟨List.mem_append_left _ (List.mem_of_getElem? (i := 24) (by decide +kernel)), rfl⟩
abbrev mt_X8_settle : xm_M := (yX8_settle, cX8_settle, 4, (some .boolean), 0, 0)
theorem ok_X8_settle : xm_ok mt_X8_settle 1 := ⟨plainFor_of_name (by decide), ms_4 (List.mem_of_getElem? (i := 41) (by decide +kernel)) rfl, ms_1 (List.mem_of_getElem? (i := 8) (by decide +kernel)) rfl, by decide, by decide, by decide +kernel⟩
theorem im_X8_settle : Cond.instanceMethod yX8_settle ∈ xm_tb := ms_4 (List.mem_of_getElem? (i := 40) (by decide +kernel)) rfl
theorem se_X8_settle : Cond.selects RX8 yX8_settle yX8_settle ∈ xm_tb := List.mem_filter.mpr ⟨List.mem_append_left _ (List.mem_of_getElem? (i := 25) (by decide +kernel)), rfl⟩
abbrev mt_X2_isOut : xm_M := (yX2_isOut, cX2_isOut, 2, (some .boolean), 1, 23)
theorem ok_X2_isOut : xm_ok mt_X2_isOut 0 := ⟨plainFor_of_name (by decide), ms_4 (List.mem_of_getElem? (i := 46) (by decide +kernel)) rfl, ms_1 (List.mem_of_getElem? (i := 7) (by decide +kernel)) rfl, by decide, by decide, by decide +kernel⟩
theorem im_X2_isOut : Cond.instanceMethod yX2_isOut ∈ xm_tb := ms_4 (List.mem_of_getElem? (i := 44) (by decide +kernel)) rfl
theorem se_X2_isOut : Cond.selects RX2 yX2_isOut yX2_isOut ∈ xm_tb := ms_4 (List.mem_of_getElem? (i := 45) (by decide +kernel)) rfl
abbrev mt_X8_goRound : xm_M := (yX8_goRound, cX8_goRound, 6, (some .int), 4, 97)
theorem ok_X8_goRound : xm_ok mt_X8_goRound 3 := ⟨plainFor_of_name (by decide), ms_4 (List.mem_of_getElem? (i := 9) (by decide +kernel)) rfl, ms_1 (List.mem_of_getElem? (i := 8) (by decide +kernel)) rfl, by decide, by decide, by decide +kernel⟩
theorem im_X8_goRound : Cond.instanceMethod yX8_goRound ∈ xm_tb := ms_4 (List.mem_of_getElem? (i := 7) (by decide +kernel)) rfl
theorem se_X8_goRound : Cond.selects RX8 yX8_goRound yX8_goRound ∈ xm_tb := ms_4 (List.mem_of_getElem? (i := 8) (by decide +kernel)) rfl
abbrev mt_X11_round : xm_M := (yX11_round, cX11_round, 3, (some .int), 5, 122)
theorem ok_X11_round : xm_ok mt_X11_round 1 := ⟨plainFor_of_name (by decide), ms_4 (List.mem_of_getElem? (i := 1) (by decide +kernel)) rfl, ms_1 (List.mem_of_getElem? (i := 1) (by decide +kernel)) rfl, by decide, by decide, by decide +kernel⟩
theorem im_X11_round : Cond.instanceMethod yX11_round ∈ xm_tb := ms_3 (List.mem_of_getElem? (i := 239) (by decide +kernel)) rfl
theorem se_X11_round : Cond.selects RX11 yX11_round yX11_round ∈ xm_tb := ms_4 (List.mem_of_getElem? (i := 0) (by decide +kernel)) rfl
abbrev mt_X11_box : xm_M := (yX11_box, cX11_box, 3, (some .long), 1, 22)
theorem ok_X11_box : xm_ok mt_X11_box 2 := ⟨plainFor_of_name (by decide), ms_4 (List.mem_of_getElem? (i := 53) (by decide +kernel)) rfl, ms_1 (List.mem_of_getElem? (i := 1) (by decide +kernel)) rfl, by decide, by decide, by decide +kernel⟩
theorem im_X11_box : Cond.instanceMethod yX11_box ∈ xm_tb := ms_4 (List.mem_of_getElem? (i := 51) (by decide +kernel)) rfl
theorem se_X11_box : Cond.selects RX11 yX11_box yX11_box ∈ xm_tb := ms_4 (List.mem_of_getElem? (i := 52) (by decide +kernel)) rfl
abbrev mt_X11_open : xm_M := (yX11_open, cX11_open, 1, (some .int), 2, 42)
theorem ok_X11_open : xm_ok mt_X11_open 0 := ⟨plainFor_of_name (by decide), ms_4 (List.mem_of_getElem? (i := 58) (by decide +kernel)) rfl, ms_1 (List.mem_of_getElem? (i := 1) (by decide +kernel)) rfl, by decide, by decide, by decide +kernel⟩
theorem im_X11_open : Cond.instanceMethod yX11_open ∈ xm_tb := ms_4 (List.mem_of_getElem? (i := 56) (by decide +kernel)) rfl
theorem se_X11_open : Cond.selects RX11 yX11_open yX11_open ∈ xm_tb := ms_4 (List.mem_of_getElem? (i := 57) (by decide +kernel)) rfl
abbrev mt_X11_isFunction : xm_M := (yX11_isFunction, cX11_isFunction, 1, (some .boolean), 0, 0)
theorem ok_X11_isFunction : xm_ok mt_X11_isFunction 1 := ⟨plainFor_of_name (by decide), ms_4 (List.mem_of_getElem? (i := 65) (by decide +kernel)) rfl, ms_1 (List.mem_of_getElem? (i := 1) (by decide +kernel)) rfl, by decide, by decide, by decide +kernel⟩
theorem st_X11_isFunction : Cond.static yX11_isFunction ∈ xm_tb := ms_4 (List.mem_of_getElem? (i := 64) (by decide +kernel)) rfl
abbrev mt_X3_masksOf : xm_M := (yX3_masksOf, cX3_masksOf, 5, (some .int), 0, 0)
theorem ok_X3_masksOf : xm_ok mt_X3_masksOf 1 := ⟨plainFor_of_name (by decide), ms_4 (List.mem_of_getElem? (i := 73) (by decide +kernel)) rfl, ms_1 (List.mem_of_getElem? (i := 13) (by decide +kernel)) rfl, by decide, by decide, by decide +kernel⟩
theorem st_X3_masksOf : Cond.static yX3_masksOf ∈ xm_tb := ms_4 (List.mem_of_getElem? (i := 72) (by decide +kernel)) rfl
abbrev mt_X3_packed : xm_M := (yX3_packed, cX3_packed, 3, (some .long), 0, 0)
theorem ok_X3_packed : xm_ok mt_X3_packed 3 := ⟨plainFor_of_name (by decide), ms_4 (List.mem_of_getElem? (i := 76) (by decide +kernel)) rfl, ms_1 (List.mem_of_getElem? (i := 13) (by decide +kernel)) rfl, by decide, by decide, by decide +kernel⟩
theorem st_X3_packed : Cond.static yX3_packed ∈ xm_tb := ms_4 (List.mem_of_getElem? (i := 75) (by decide +kernel)) rfl
abbrev mt_X3_add : xm_M := (yX3_add, cX3_add, 4, (some .int), 1, 24)
theorem ok_X3_add : xm_ok mt_X3_add 3 := ⟨plainFor_of_name (by decide), ms_4 (List.mem_of_getElem? (i := 70) (by decide +kernel)) rfl, ms_1 (List.mem_of_getElem? (i := 13) (by decide +kernel)) rfl, by decide, by decide, by decide +kernel⟩
theorem im_X3_add : Cond.instanceMethod yX3_add ∈ xm_tb := ms_4 (List.mem_of_getElem? (i := 68) (by decide +kernel)) rfl
theorem se_X3_add : Cond.selects RX3 yX3_add yX3_add ∈ xm_tb := ms_4 (List.mem_of_getElem? (i := 69) (by decide +kernel)) rfl
abbrev mt_X11_call : xm_M := (yX11_call, cX11_call, 4, (some .int), 2, 47)
theorem ok_X11_call : xm_ok mt_X11_call 3 := ⟨plainFor_of_name (by decide), ms_4 (List.mem_of_getElem? (i := 62) (by decide +kernel)) rfl, ms_1 (List.mem_of_getElem? (i := 1) (by decide +kernel)) rfl, by decide, by decide, by decide +kernel⟩
theorem im_X11_call : Cond.instanceMethod yX11_call ∈ xm_tb := ms_4 (List.mem_of_getElem? (i := 60) (by decide +kernel)) rfl
theorem se_X11_call : Cond.selects RX11 yX11_call yX11_call ∈ xm_tb := ms_4 (List.mem_of_getElem? (i := 61) (by decide +kernel)) rfl
abbrev mt_X3_removeAll : xm_M := (yX3_removeAll, cX3_removeAll, 2, (some .int), 0, 0)
theorem ok_X3_removeAll : xm_ok mt_X3_removeAll 0 := ⟨plainFor_of_name (by decide), ms_4 (List.mem_of_getElem? (i := 85) (by decide +kernel)) rfl, ms_1 (List.mem_of_getElem? (i := 13) (by decide +kernel)) rfl, by decide, by decide, by decide +kernel⟩
theorem im_X3_removeAll : Cond.instanceMethod yX3_removeAll ∈ xm_tb := ms_4 (List.mem_of_getElem? (i := 83) (by decide +kernel)) rfl
theorem se_X3_removeAll : Cond.selects RX3 yX3_removeAll yX3_removeAll ∈ xm_tb := ms_4 (List.mem_of_getElem? (i := 84) (by decide +kernel)) rfl
abbrev mt_X11_clear : xm_M := (yX11_clear, cX11_clear, 1, (some .int), 1, 21)
theorem ok_X11_clear : xm_ok mt_X11_clear 0 := ⟨plainFor_of_name (by decide), ms_4 (List.mem_of_getElem? (i := 81) (by decide +kernel)) rfl, ms_1 (List.mem_of_getElem? (i := 1) (by decide +kernel)) rfl, by decide, by decide, by decide +kernel⟩
theorem im_X11_clear : Cond.instanceMethod yX11_clear ∈ xm_tb := ms_4 (List.mem_of_getElem? (i := 79) (by decide +kernel)) rfl
theorem se_X11_clear : Cond.selects RX11 yX11_clear yX11_clear ∈ xm_tb := ms_4 (List.mem_of_getElem? (i := 80) (by decide +kernel)) rfl
abbrev mt_X3_keep : xm_M := (yX3_keep, cX3_keep, 5, (some .boolean), 0, 0)
theorem ok_X3_keep : xm_ok mt_X3_keep 1 := ⟨plainFor_of_name (by decide), ms_4 (List.mem_of_getElem? (i := 102) (by decide +kernel)) rfl, ms_1 (List.mem_of_getElem? (i := 13) (by decide +kernel)) rfl, by decide, by decide, by decide +kernel⟩
theorem im_X3_keep : Cond.instanceMethod yX3_keep ∈ xm_tb := ms_4 (List.mem_of_getElem? (i := 101) (by decide +kernel)) rfl
theorem se_X3_keep : Cond.selects RX3 yX3_keep yX3_keep ∈ xm_tb := List.mem_filter.mpr ⟨List.mem_append_left _ (List.mem_of_getElem? (i := 27) (by decide +kernel)), rfl⟩
abbrev mt_X3_toOf : xm_M := (yX3_toOf, cX3_toOf, 2, (some .int), 0, 0)
theorem ok_X3_toOf : xm_ok mt_X3_toOf 1 := ⟨plainFor_of_name (by decide), ms_4 (List.mem_of_getElem? (i := 106) (by decide +kernel)) rfl, ms_1 (List.mem_of_getElem? (i := 13) (by decide +kernel)) rfl, by decide, by decide, by decide +kernel⟩
theorem st_X3_toOf : Cond.static yX3_toOf ∈ xm_tb := ms_4 (List.mem_of_getElem? (i := 105) (by decide +kernel)) rfl
abbrev mt_X3_fromOf : xm_M := (yX3_fromOf, cX3_fromOf, 2, (some .int), 0, 0)
theorem ok_X3_fromOf : xm_ok mt_X3_fromOf 1 := ⟨plainFor_of_name (by decide), ms_4 (List.mem_of_getElem? (i := 109) (by decide +kernel)) rfl, ms_1 (List.mem_of_getElem? (i := 13) (by decide +kernel)) rfl, by decide, by decide, by decide +kernel⟩
theorem st_X3_fromOf : Cond.static yX3_fromOf ∈ xm_tb := ms_4 (List.mem_of_getElem? (i := 108) (by decide +kernel)) rfl
abbrev mt_X3_toldOf : xm_M := (yX3_toldOf, cX3_toldOf, 2, (some .int), 0, 0)
theorem ok_X3_toldOf : xm_ok mt_X3_toldOf 1 := ⟨plainFor_of_name (by decide), ms_4 (List.mem_of_getElem? (i := 115) (by decide +kernel)) rfl, ms_1 (List.mem_of_getElem? (i := 13) (by decide +kernel)) rfl, by decide, by decide, by decide +kernel⟩
theorem st_X3_toldOf : Cond.static yX3_toldOf ∈ xm_tb := ms_4 (List.mem_of_getElem? (i := 114) (by decide +kernel)) rfl
abbrev mt_X3_lessOf : xm_M := (yX3_lessOf, cX3_lessOf, 2, (some .int), 0, 0)
theorem ok_X3_lessOf : xm_ok mt_X3_lessOf 1 := ⟨plainFor_of_name (by decide), ms_4 (List.mem_of_getElem? (i := 119) (by decide +kernel)) rfl, ms_1 (List.mem_of_getElem? (i := 13) (by decide +kernel)) rfl, by decide, by decide, by decide +kernel⟩
theorem st_X3_lessOf : Cond.static yX3_lessOf ∈ xm_tb := ms_4 (List.mem_of_getElem? (i := 118) (by decide +kernel)) rfl
abbrev mt_X3_together : xm_M := (yX3_together, cX3_together, 11, (some .long), 1, 22)
theorem ok_X3_together : xm_ok mt_X3_together 2 := ⟨plainFor_of_name (by decide), ms_4 (List.mem_of_getElem? (i := 112) (by decide +kernel)) rfl, ms_1 (List.mem_of_getElem? (i := 13) (by decide +kernel)) rfl, by decide, by decide, by decide +kernel⟩
theorem st_X3_together : Cond.static yX3_together ∈ xm_tb := ms_4 (List.mem_of_getElem? (i := 111) (by decide +kernel)) rfl
abbrev mt_X3_makeAll : xm_M := (yX3_makeAll, cX3_makeAll, 4, (some .boolean), 2, 52)
theorem ok_X3_makeAll : xm_ok mt_X3_makeAll 0 := ⟨plainFor_of_name (by decide), ms_4 (List.mem_of_getElem? (i := 97) (by decide +kernel)) rfl, ms_1 (List.mem_of_getElem? (i := 13) (by decide +kernel)) rfl, by decide, by decide, by decide +kernel⟩
theorem im_X3_makeAll : Cond.instanceMethod yX3_makeAll ∈ xm_tb := ms_4 (List.mem_of_getElem? (i := 96) (by decide +kernel)) rfl
theorem se_X3_makeAll : Cond.selects RX3 yX3_makeAll yX3_makeAll ∈ xm_tb := List.mem_filter.mpr ⟨List.mem_append_left _ (List.mem_of_getElem? (i := 26) (by decide +kernel)), rfl⟩
abbrev mt_X3_isFault : xm_M := (yX3_isFault, cX3_isFault, 3, (some .boolean), 2, 52)
theorem ok_X3_isFault : xm_ok mt_X3_isFault 1 := ⟨plainFor_of_name (by decide), ms_4 (List.mem_of_getElem? (i := 126) (by decide +kernel)) rfl, ms_1 (List.mem_of_getElem? (i := 13) (by decide +kernel)) rfl, by decide, by decide, by decide +kernel⟩
theorem st_X3_isFault : Cond.static yX3_isFault ∈ xm_tb := ms_4 (List.mem_of_getElem? (i := 125) (by decide +kernel)) rfl
abbrev mt_X3_numberOf : xm_M := (yX3_numberOf, cX3_numberOf, 4, (some .int), 1, 21)
theorem ok_X3_numberOf : xm_ok mt_X3_numberOf 1 := ⟨plainFor_of_name (by decide), ms_4 (List.mem_of_getElem? (i := 132) (by decide +kernel)) rfl, ms_1 (List.mem_of_getElem? (i := 13) (by decide +kernel)) rfl, by decide, by decide, by decide +kernel⟩
theorem st_X3_numberOf : Cond.static yX3_numberOf ∈ xm_tb := ms_4 (List.mem_of_getElem? (i := 131) (by decide +kernel)) rfl
abbrev mt_X3_isAhead : xm_M := (yX3_isAhead, cX3_isAhead, 4, (some .boolean), 2, 44)
theorem ok_X3_isAhead : xm_ok mt_X3_isAhead 2 := ⟨plainFor_of_name (by decide), ms_4 (List.mem_of_getElem? (i := 129) (by decide +kernel)) rfl, ms_1 (List.mem_of_getElem? (i := 13) (by decide +kernel)) rfl, by decide, by decide, by decide +kernel⟩
theorem st_X3_isAhead : Cond.static yX3_isAhead ∈ xm_tb := ms_4 (List.mem_of_getElem? (i := 128) (by decide +kernel)) rfl
abbrev mt_X3_firstFault : xm_M := (yX3_firstFault, cX3_firstFault, 3, (some .int), 3, 74)
theorem ok_X3_firstFault : xm_ok mt_X3_firstFault 0 := ⟨plainFor_of_name (by decide), ms_4 (List.mem_of_getElem? (i := 123) (by decide +kernel)) rfl, ms_1 (List.mem_of_getElem? (i := 13) (by decide +kernel)) rfl, by decide, by decide, by decide +kernel⟩
theorem im_X3_firstFault : Cond.instanceMethod yX3_firstFault ∈ xm_tb := ms_4 (List.mem_of_getElem? (i := 122) (by decide +kernel)) rfl
theorem se_X3_firstFault : Cond.selects RX3 yX3_firstFault yX3_firstFault ∈ xm_tb := List.mem_filter.mpr ⟨List.mem_append_left _ (List.mem_of_getElem? (i := 28) (by decide +kernel)), rfl⟩
abbrev mt_X3_judge : xm_M := (yX3_judge, cX3_judge, 2, (some .int), 4, 96)
theorem ok_X3_judge : xm_ok mt_X3_judge 0 := ⟨plainFor_of_name (by decide), ms_4 (List.mem_of_getElem? (i := 93) (by decide +kernel)) rfl, ms_1 (List.mem_of_getElem? (i := 13) (by decide +kernel)) rfl, by decide, by decide, by decide +kernel⟩
theorem im_X3_judge : Cond.instanceMethod yX3_judge ∈ xm_tb := ms_4 (List.mem_of_getElem? (i := 91) (by decide +kernel)) rfl
theorem se_X3_judge : Cond.selects RX3 yX3_judge yX3_judge ∈ xm_tb := ms_4 (List.mem_of_getElem? (i := 92) (by decide +kernel)) rfl
abbrev mt_X11_ending : xm_M := (yX11_ending, cX11_ending, 1, (some .int), 5, 117)
theorem ok_X11_ending : xm_ok mt_X11_ending 0 := ⟨plainFor_of_name (by decide), ms_4 (List.mem_of_getElem? (i := 89) (by decide +kernel)) rfl, ms_1 (List.mem_of_getElem? (i := 1) (by decide +kernel)) rfl, by decide, by decide, by decide +kernel⟩
theorem im_X11_ending : Cond.instanceMethod yX11_ending ∈ xm_tb := ms_4 (List.mem_of_getElem? (i := 87) (by decide +kernel)) rfl
theorem se_X11_ending : Cond.selects RX11 yX11_ending yX11_ending ∈ xm_tb := ms_4 (List.mem_of_getElem? (i := 88) (by decide +kernel)) rfl
abbrev mt_X11_made : xm_M := (yX11_made, cX11_made, 1, (some .int), 0, 0)
theorem ok_X11_made : xm_ok mt_X11_made 0 := ⟨plainFor_of_name (by decide), ms_4 (List.mem_of_getElem? (i := 136) (by decide +kernel)) rfl, ms_1 (List.mem_of_getElem? (i := 1) (by decide +kernel)) rfl, by decide, by decide, by decide +kernel⟩
theorem im_X11_made : Cond.instanceMethod yX11_made ∈ xm_tb := ms_4 (List.mem_of_getElem? (i := 134) (by decide +kernel)) rfl
theorem se_X11_made : Cond.selects RX11 yX11_made yX11_made ∈ xm_tb := ms_4 (List.mem_of_getElem? (i := 135) (by decide +kernel)) rfl
abbrev mt_X11_witness : xm_M := (yX11_witness, cX11_witness, 2, (some .int), 0, 0)
theorem ok_X11_witness : xm_ok mt_X11_witness 1 := ⟨plainFor_of_name (by decide), ms_4 (List.mem_of_getElem? (i := 140) (by decide +kernel)) rfl, ms_1 (List.mem_of_getElem? (i := 1) (by decide +kernel)) rfl, by decide, by decide, by decide +kernel⟩
theorem im_X11_witness : Cond.instanceMethod yX11_witness ∈ xm_tb := ms_4 (List.mem_of_getElem? (i := 138) (by decide +kernel)) rfl
theorem se_X11_witness : Cond.selects RX11 yX11_witness yX11_witness ∈ xm_tb := ms_4 (List.mem_of_getElem? (i := 139) (by decide +kernel)) rfl
abbrev mt_X12_openAll : xm_M := (yX12_openAll, cX12_openAll, 2, none, 0, 0)
theorem ok_X12_openAll : xm_ok mt_X12_openAll 0 := ⟨plainFor_of_name (by decide), ms_4 (List.mem_of_getElem? (i := 151) (by decide +kernel)) rfl, ms_1 (List.mem_of_getElem? (i := 14) (by decide +kernel)) rfl, by decide, by decide, by decide +kernel⟩
theorem im_X12_openAll : Cond.instanceMethod yX12_openAll ∈ xm_tb := ms_4 (List.mem_of_getElem? (i := 150) (by decide +kernel)) rfl
theorem se_X12_openAll : Cond.selects RX12 yX12_openAll yX12_openAll ∈ xm_tb := List.mem_filter.mpr ⟨List.mem_append_left _ (List.mem_of_getElem? (i := 29) (by decide +kernel)), rfl⟩
abbrev mt_X12_loop : xm_M := (yX12_loop, cX12_loop, 4, (some .int), 1, 21)
theorem ok_X12_loop : xm_ok mt_X12_loop 1 := ⟨plainFor_of_name (by decide), ms_5 (List.mem_of_getElem? (i := 67) (by decide +kernel)) rfl, ms_1 (List.mem_of_getElem? (i := 14) (by decide +kernel)) rfl, by decide, by decide, by decide +kernel⟩
theorem im_X12_loop : Cond.instanceMethod yX12_loop ∈ xm_tb := ms_5 (List.mem_of_getElem? (i := 65) (by decide +kernel)) rfl
theorem se_X12_loop : Cond.selects RX12 yX12_loop yX12_loop ∈ xm_tb := ms_5 (List.mem_of_getElem? (i := 66) (by decide +kernel)) rfl
abbrev mt_X12_body : xm_M := (yX12_body, cX12_body, 4, (some .int), 1, 21)
theorem ok_X12_body : xm_ok mt_X12_body 0 := ⟨plainFor_of_name (by decide), ms_5 (List.mem_of_getElem? (i := 71) (by decide +kernel)) rfl, ms_1 (List.mem_of_getElem? (i := 14) (by decide +kernel)) rfl, by decide, by decide, by decide +kernel⟩
theorem im_X12_body : Cond.instanceMethod yX12_body ∈ xm_tb := ms_5 (List.mem_of_getElem? (i := 69) (by decide +kernel)) rfl
theorem se_X12_body : Cond.selects RX12 yX12_body yX12_body ∈ xm_tb := ms_5 (List.mem_of_getElem? (i := 70) (by decide +kernel)) rfl
abbrev mt_X12_areWeights : xm_M := (yX12_areWeights, cX12_areWeights, 2, (some .boolean), 0, 0)
theorem ok_X12_areWeights : xm_ok mt_X12_areWeights 2 := ⟨plainFor_of_name (by decide), ms_5 (List.mem_of_getElem? (i := 82) (by decide +kernel)) rfl, ms_1 (List.mem_of_getElem? (i := 14) (by decide +kernel)) rfl, by decide, by decide, by decide +kernel⟩
theorem st_X12_areWeights : Cond.static yX12_areWeights ∈ xm_tb := ms_5 (List.mem_of_getElem? (i := 81) (by decide +kernel)) rfl
abbrev mt_X12_lay : xm_M := (yX12_lay, cX12_lay, 6, none, 0, 0)
theorem ok_X12_lay : xm_ok mt_X12_lay 4 := ⟨plainFor_of_name (by decide), ms_5 (List.mem_of_getElem? (i := 87) (by decide +kernel)) rfl, ms_1 (List.mem_of_getElem? (i := 14) (by decide +kernel)) rfl, by decide, by decide, by decide +kernel⟩
theorem im_X12_lay : Cond.instanceMethod yX12_lay ∈ xm_tb := ms_5 (List.mem_of_getElem? (i := 86) (by decide +kernel)) rfl
theorem se_X12_lay : Cond.selects RX12 yX12_lay yX12_lay ∈ xm_tb := List.mem_filter.mpr ⟨List.mem_append_left _ (List.mem_of_getElem? (i := 31) (by decide +kernel)), rfl⟩
abbrev mt_X12_isBody : xm_M := (yX12_isBody, cX12_isBody, 2, (some .boolean), 0, 0)
theorem ok_X12_isBody : xm_ok mt_X12_isBody 1 := ⟨plainFor_of_name (by decide), ms_5 (List.mem_of_getElem? (i := 79) (by decide +kernel)) rfl, ms_1 (List.mem_of_getElem? (i := 14) (by decide +kernel)) rfl, by decide, by decide, by decide +kernel⟩
theorem im_X12_isBody : Cond.instanceMethod yX12_isBody ∈ xm_tb := ms_5 (List.mem_of_getElem? (i := 78) (by decide +kernel)) rfl
theorem se_X12_isBody : Cond.selects RX12 yX12_isBody yX12_isBody ∈ xm_tb := List.mem_filter.mpr ⟨List.mem_append_left _ (List.mem_of_getElem? (i := 30) (by decide +kernel)), rfl⟩
abbrev mt_X12_guard : xm_M := (yX12_guard, cX12_guard, 4, (some .int), 1, 25)
theorem ok_X12_guard : xm_ok mt_X12_guard 3 := ⟨plainFor_of_name (by decide), ms_5 (List.mem_of_getElem? (i := 75) (by decide +kernel)) rfl, ms_1 (List.mem_of_getElem? (i := 14) (by decide +kernel)) rfl, by decide, by decide, by decide +kernel⟩
theorem im_X12_guard : Cond.instanceMethod yX12_guard ∈ xm_tb := ms_5 (List.mem_of_getElem? (i := 73) (by decide +kernel)) rfl
theorem se_X12_guard : Cond.selects RX12 yX12_guard yX12_guard ∈ xm_tb := ms_5 (List.mem_of_getElem? (i := 74) (by decide +kernel)) rfl
abbrev mt_X12_rule : xm_M := (yX12_rule, cX12_rule, 5, (some .int), 1, 25)
theorem ok_X12_rule : xm_ok mt_X12_rule 4 := ⟨plainFor_of_name (by decide), ms_5 (List.mem_of_getElem? (i := 91) (by decide +kernel)) rfl, ms_1 (List.mem_of_getElem? (i := 14) (by decide +kernel)) rfl, by decide, by decide, by decide +kernel⟩
theorem im_X12_rule : Cond.instanceMethod yX12_rule ∈ xm_tb := ms_5 (List.mem_of_getElem? (i := 89) (by decide +kernel)) rfl
theorem se_X12_rule : Cond.selects RX12 yX12_rule yX12_rule ∈ xm_tb := ms_5 (List.mem_of_getElem? (i := 90) (by decide +kernel)) rfl
abbrev mt_X12_many : xm_M := (yX12_many, cX12_many, 2, (some .int), 1, 21)
theorem ok_X12_many : xm_ok mt_X12_many 1 := ⟨plainFor_of_name (by decide), ms_5 (List.mem_of_getElem? (i := 95) (by decide +kernel)) rfl, ms_1 (List.mem_of_getElem? (i := 14) (by decide +kernel)) rfl, by decide, by decide, by decide +kernel⟩
theorem im_X12_many : Cond.instanceMethod yX12_many ∈ xm_tb := ms_5 (List.mem_of_getElem? (i := 93) (by decide +kernel)) rfl
theorem se_X12_many : Cond.selects RX12 yX12_many yX12_many ∈ xm_tb := ms_5 (List.mem_of_getElem? (i := 94) (by decide +kernel)) rfl
abbrev mt_X12_set : xm_M := (yX12_set, cX12_set, 3, (some .int), 0, 0)
theorem ok_X12_set : xm_ok mt_X12_set 2 := ⟨plainFor_of_name (by decide), ms_5 (List.mem_of_getElem? (i := 99) (by decide +kernel)) rfl, ms_1 (List.mem_of_getElem? (i := 14) (by decide +kernel)) rfl, by decide, by decide, by decide +kernel⟩
theorem im_X12_set : Cond.instanceMethod yX12_set ∈ xm_tb := ms_5 (List.mem_of_getElem? (i := 97) (by decide +kernel)) rfl
theorem se_X12_set : Cond.selects RX12 yX12_set yX12_set ∈ xm_tb := ms_5 (List.mem_of_getElem? (i := 98) (by decide +kernel)) rfl
abbrev mt_X12_at : xm_M := (yX12_at, cX12_at, 2, (some .long), 0, 0)
theorem ok_X12_at : xm_ok mt_X12_at 1 := ⟨plainFor_of_name (by decide), ms_5 (List.mem_of_getElem? (i := 105) (by decide +kernel)) rfl, ms_1 (List.mem_of_getElem? (i := 14) (by decide +kernel)) rfl, by decide, by decide, by decide +kernel⟩
theorem im_X12_at : Cond.instanceMethod yX12_at ∈ xm_tb := ms_5 (List.mem_of_getElem? (i := 103) (by decide +kernel)) rfl
theorem se_X12_at : Cond.selects RX12 yX12_at yX12_at ∈ xm_tb := ms_5 (List.mem_of_getElem? (i := 104) (by decide +kernel)) rfl
abbrev mt_X12_of : xm_M := (yX12_of, cX12_of, 3, (some .long), 0, 0)
theorem ok_X12_of : xm_ok mt_X12_of 3 := ⟨plainFor_of_name (by decide), ms_5 (List.mem_of_getElem? (i := 120) (by decide +kernel)) rfl, ms_1 (List.mem_of_getElem? (i := 14) (by decide +kernel)) rfl, by decide, by decide, by decide +kernel⟩
theorem st_X12_of : Cond.static yX12_of ∈ xm_tb := ms_5 (List.mem_of_getElem? (i := 119) (by decide +kernel)) rfl
abbrev mt_X12_turnAt : xm_M := (yX12_turnAt, cX12_turnAt, 5, (some .int), 1, 22)
theorem ok_X12_turnAt : xm_ok mt_X12_turnAt 1 := ⟨plainFor_of_name (by decide), ms_5 (List.mem_of_getElem? (i := 117) (by decide +kernel)) rfl, ms_1 (List.mem_of_getElem? (i := 14) (by decide +kernel)) rfl, by decide, by decide, by decide +kernel⟩
theorem im_X12_turnAt : Cond.instanceMethod yX12_turnAt ∈ xm_tb := ms_5 (List.mem_of_getElem? (i := 116) (by decide +kernel)) rfl
theorem se_X12_turnAt : Cond.selects RX12 yX12_turnAt yX12_turnAt ∈ xm_tb := List.mem_filter.mpr ⟨List.mem_append_left _ (List.mem_of_getElem? (i := 33) (by decide +kernel)), rfl⟩
abbrev mt_X12_isFar : xm_M := (yX12_isFar, cX12_isFar, 2, (some .boolean), 0, 0)
theorem ok_X12_isFar : xm_ok mt_X12_isFar 1 := ⟨plainFor_of_name (by decide), ms_5 (List.mem_of_getElem? (i := 123) (by decide +kernel)) rfl, ms_1 (List.mem_of_getElem? (i := 14) (by decide +kernel)) rfl, by decide, by decide, by decide +kernel⟩
theorem st_X12_isFar : Cond.static yX12_isFar ∈ xm_tb := ms_5 (List.mem_of_getElem? (i := 122) (by decide +kernel)) rfl
abbrev mt_X12_turnFrom : xm_M := (yX12_turnFrom, cX12_turnFrom, 4, (some .int), 2, 46)
theorem ok_X12_turnFrom : xm_ok mt_X12_turnFrom 1 := ⟨plainFor_of_name (by decide), ms_5 (List.mem_of_getElem? (i := 113) (by decide +kernel)) rfl, ms_1 (List.mem_of_getElem? (i := 14) (by decide +kernel)) rfl, by decide, by decide, by decide +kernel⟩
theorem im_X12_turnFrom : Cond.instanceMethod yX12_turnFrom ∈ xm_tb := ms_5 (List.mem_of_getElem? (i := 112) (by decide +kernel)) rfl
theorem se_X12_turnFrom : Cond.selects RX12 yX12_turnFrom yX12_turnFrom ∈ xm_tb := List.mem_filter.mpr ⟨List.mem_append_left _ (List.mem_of_getElem? (i := 32) (by decide +kernel)), rfl⟩
abbrev mt_X12_run : xm_M := (yX12_run, cX12_run, 4, (some .int), 3, 69)
theorem ok_X12_run : xm_ok mt_X12_run 1 := ⟨plainFor_of_name (by decide), ms_5 (List.mem_of_getElem? (i := 109) (by decide +kernel)) rfl, ms_1 (List.mem_of_getElem? (i := 14) (by decide +kernel)) rfl, by decide, by decide, by decide +kernel⟩
theorem im_X12_run : Cond.instanceMethod yX12_run ∈ xm_tb := ms_5 (List.mem_of_getElem? (i := 107) (by decide +kernel)) rfl
theorem se_X12_run : Cond.selects RX12 yX12_run yX12_run ∈ xm_tb := ms_5 (List.mem_of_getElem? (i := 108) (by decide +kernel)) rfl
abbrev mt_X12_turn : xm_M := (yX12_turn, cX12_turn, 1, (some .int), 2, 46)
theorem ok_X12_turn : xm_ok mt_X12_turn 0 := ⟨plainFor_of_name (by decide), ms_5 (List.mem_of_getElem? (i := 129) (by decide +kernel)) rfl, ms_1 (List.mem_of_getElem? (i := 14) (by decide +kernel)) rfl, by decide, by decide, by decide +kernel⟩
theorem im_X12_turn : Cond.instanceMethod yX12_turn ∈ xm_tb := ms_5 (List.mem_of_getElem? (i := 127) (by decide +kernel)) rfl
theorem se_X12_turn : Cond.selects RX12 yX12_turn yX12_turn ∈ xm_tb := ms_5 (List.mem_of_getElem? (i := 128) (by decide +kernel)) rfl
abbrev mt_X12_keep : xm_M := (yX12_keep, cX12_keep, 7, (some .int), 0, 0)
theorem ok_X12_keep : xm_ok mt_X12_keep 2 := ⟨plainFor_of_name (by decide), ms_5 (List.mem_of_getElem? (i := 137) (by decide +kernel)) rfl, ms_1 (List.mem_of_getElem? (i := 14) (by decide +kernel)) rfl, by decide, by decide, by decide +kernel⟩
theorem im_X12_keep : Cond.instanceMethod yX12_keep ∈ xm_tb := ms_5 (List.mem_of_getElem? (i := 136) (by decide +kernel)) rfl
theorem se_X12_keep : Cond.selects RX12 yX12_keep yX12_keep ∈ xm_tb := List.mem_filter.mpr ⟨List.mem_append_left _ (List.mem_of_getElem? (i := 34) (by decide +kernel)), rfl⟩
abbrev mt_X12_ring : xm_M := (yX12_ring, cX12_ring, 5, (some .int), 3, 69)
theorem ok_X12_ring : xm_ok mt_X12_ring 1 := ⟨plainFor_of_name (by decide), ms_5 (List.mem_of_getElem? (i := 133) (by decide +kernel)) rfl, ms_1 (List.mem_of_getElem? (i := 14) (by decide +kernel)) rfl, by decide, by decide, by decide +kernel⟩
theorem im_X12_ring : Cond.instanceMethod yX12_ring ∈ xm_tb := ms_5 (List.mem_of_getElem? (i := 131) (by decide +kernel)) rfl
theorem se_X12_ring : Cond.selects RX12 yX12_ring yX12_ring ∈ xm_tb := ms_5 (List.mem_of_getElem? (i := 132) (by decide +kernel)) rfl
abbrev mt_X12_ahead : xm_M := (yX12_ahead, cX12_ahead, 1, (some .int), 0, 0)
theorem ok_X12_ahead : xm_ok mt_X12_ahead 0 := ⟨plainFor_of_name (by decide), ms_5 (List.mem_of_getElem? (i := 144) (by decide +kernel)) rfl, ms_1 (List.mem_of_getElem? (i := 14) (by decide +kernel)) rfl, by decide, by decide, by decide +kernel⟩
theorem im_X12_ahead : Cond.instanceMethod yX12_ahead ∈ xm_tb := ms_5 (List.mem_of_getElem? (i := 142) (by decide +kernel)) rfl
theorem se_X12_ahead : Cond.selects RX12 yX12_ahead yX12_ahead ∈ xm_tb := ms_5 (List.mem_of_getElem? (i := 143) (by decide +kernel)) rfl
abbrev mt_X12_addSide : xm_M := (yX12_addSide, cX12_addSide, 9, none, 0, 0)
theorem ok_X12_addSide : xm_ok mt_X12_addSide 4 := ⟨plainFor_of_name (by decide), ms_5 (List.mem_of_getElem? (i := 168) (by decide +kernel)) rfl, ms_1 (List.mem_of_getElem? (i := 14) (by decide +kernel)) rfl, by decide, by decide, by decide +kernel⟩
theorem im_X12_addSide : Cond.instanceMethod yX12_addSide ∈ xm_tb := ms_5 (List.mem_of_getElem? (i := 167) (by decide +kernel)) rfl
theorem se_X12_addSide : Cond.selects RX12 yX12_addSide yX12_addSide ∈ xm_tb := List.mem_filter.mpr ⟨List.mem_append_left _ (List.mem_of_getElem? (i := 39) (by decide +kernel)), rfl⟩
abbrev mt_X12_isZero : xm_M := (yX12_isZero, cX12_isZero, 2, (some .boolean), 0, 0)
theorem ok_X12_isZero : xm_ok mt_X12_isZero 1 := ⟨plainFor_of_name (by decide), ms_5 (List.mem_of_getElem? (i := 173) (by decide +kernel)) rfl, ms_1 (List.mem_of_getElem? (i := 14) (by decide +kernel)) rfl, by decide, by decide, by decide +kernel⟩
theorem im_X12_isZero : Cond.instanceMethod yX12_isZero ∈ xm_tb := ms_5 (List.mem_of_getElem? (i := 172) (by decide +kernel)) rfl
theorem se_X12_isZero : Cond.selects RX12 yX12_isZero yX12_isZero ∈ xm_tb := List.mem_filter.mpr ⟨List.mem_append_left _ (List.mem_of_getElem? (i := 40) (by decide +kernel)), rfl⟩
abbrev mt_X12_cross : xm_M := (yX12_cross, cX12_cross, 6, (some .long), 0, 0)
theorem ok_X12_cross : xm_ok mt_X12_cross 3 := ⟨plainFor_of_name (by decide), ms_5 (List.mem_of_getElem? (i := 185) (by decide +kernel)) rfl, ms_1 (List.mem_of_getElem? (i := 14) (by decide +kernel)) rfl, by decide, by decide, by decide +kernel⟩
theorem im_X12_cross : Cond.instanceMethod yX12_cross ∈ xm_tb := ms_5 (List.mem_of_getElem? (i := 184) (by decide +kernel)) rfl
theorem se_X12_cross : Cond.selects RX12 yX12_cross yX12_cross ∈ xm_tb := List.mem_filter.mpr ⟨List.mem_append_left _ (List.mem_of_getElem? (i := 43) (by decide +kernel)), rfl⟩
abbrev mt_X12_areParallel : xm_M := (yX12_areParallel, cX12_areParallel, 3, (some .boolean), 1, 25)
theorem ok_X12_areParallel : xm_ok mt_X12_areParallel 2 := ⟨plainFor_of_name (by decide), ms_5 (List.mem_of_getElem? (i := 181) (by decide +kernel)) rfl, ms_1 (List.mem_of_getElem? (i := 14) (by decide +kernel)) rfl, by decide, by decide, by decide +kernel⟩
theorem im_X12_areParallel : Cond.instanceMethod yX12_areParallel ∈ xm_tb := ms_5 (List.mem_of_getElem? (i := 180) (by decide +kernel)) rfl
theorem se_X12_areParallel : Cond.selects RX12 yX12_areParallel yX12_areParallel ∈ xm_tb := List.mem_filter.mpr ⟨List.mem_append_left _ (List.mem_of_getElem? (i := 42) (by decide +kernel)), rfl⟩
abbrev mt_X12_twoLeaveNothing : xm_M := (yX12_twoLeaveNothing, cX12_twoLeaveNothing, 8, (some .boolean), 2, 47)
theorem ok_X12_twoLeaveNothing : xm_ok mt_X12_twoLeaveNothing 2 := ⟨plainFor_of_name (by decide), ms_5 (List.mem_of_getElem? (i := 177) (by decide +kernel)) rfl, ms_1 (List.mem_of_getElem? (i := 14) (by decide +kernel)) rfl, by decide, by decide, by decide +kernel⟩
theorem im_X12_twoLeaveNothing : Cond.instanceMethod yX12_twoLeaveNothing ∈ xm_tb := ms_5 (List.mem_of_getElem? (i := 176) (by decide +kernel)) rfl
theorem se_X12_twoLeaveNothing : Cond.selects RX12 yX12_twoLeaveNothing yX12_twoLeaveNothing ∈ xm_tb := List.mem_filter.mpr ⟨List.mem_append_left _ (List.mem_of_getElem? (i := 41) (by decide +kernel)), rfl⟩
abbrev mt_X12_determinant : xm_M := (yX12_determinant, cX12_determinant, 4, (some .long), 1, 25)
theorem ok_X12_determinant : xm_ok mt_X12_determinant 3 := ⟨plainFor_of_name (by decide), ms_5 (List.mem_of_getElem? (i := 194) (by decide +kernel)) rfl, ms_1 (List.mem_of_getElem? (i := 14) (by decide +kernel)) rfl, by decide, by decide, by decide +kernel⟩
theorem im_X12_determinant : Cond.instanceMethod yX12_determinant ∈ xm_tb := ms_5 (List.mem_of_getElem? (i := 193) (by decide +kernel)) rfl
theorem se_X12_determinant : Cond.selects RX12 yX12_determinant yX12_determinant ∈ xm_tb := List.mem_filter.mpr ⟨List.mem_append_left _ (List.mem_of_getElem? (i := 45) (by decide +kernel)), rfl⟩
abbrev mt_X12_leaveNothing : xm_M := (yX12_leaveNothing, cX12_leaveNothing, 17, (some .boolean), 0, 0)
theorem ok_X12_leaveNothing : xm_ok mt_X12_leaveNothing 8 := ⟨plainFor_of_name (by decide), ms_5 (List.mem_of_getElem? (i := 198) (by decide +kernel)) rfl, ms_1 (List.mem_of_getElem? (i := 14) (by decide +kernel)) rfl, by decide, by decide, by decide +kernel⟩
theorem im_X12_leaveNothing : Cond.instanceMethod yX12_leaveNothing ∈ xm_tb := ms_5 (List.mem_of_getElem? (i := 197) (by decide +kernel)) rfl
theorem se_X12_leaveNothing : Cond.selects RX12 yX12_leaveNothing yX12_leaveNothing ∈ xm_tb := List.mem_filter.mpr ⟨List.mem_append_left _ (List.mem_of_getElem? (i := 46) (by decide +kernel)), rfl⟩
abbrev mt_X12_threeLeaveNothing : xm_M := (yX12_threeLeaveNothing, cX12_threeLeaveNothing, 11, (some .boolean), 2, 48)
theorem ok_X12_threeLeaveNothing : xm_ok mt_X12_threeLeaveNothing 3 := ⟨plainFor_of_name (by decide), ms_5 (List.mem_of_getElem? (i := 190) (by decide +kernel)) rfl, ms_1 (List.mem_of_getElem? (i := 14) (by decide +kernel)) rfl, by decide, by decide, by decide +kernel⟩
theorem im_X12_threeLeaveNothing : Cond.instanceMethod yX12_threeLeaveNothing ∈ xm_tb := ms_5 (List.mem_of_getElem? (i := 189) (by decide +kernel)) rfl
theorem se_X12_threeLeaveNothing : Cond.selects RX12 yX12_threeLeaveNothing yX12_threeLeaveNothing ∈ xm_tb := List.mem_filter.mpr ⟨List.mem_append_left _ (List.mem_of_getElem? (i := 44) (by decide +kernel)), rfl⟩
abbrev mt_X12_fourLeaveNothing : xm_M := (yX12_fourLeaveNothing, cX12_fourLeaveNothing, 13, (some .boolean), 2, 48)
theorem ok_X12_fourLeaveNothing : xm_ok mt_X12_fourLeaveNothing 4 := ⟨plainFor_of_name (by decide), ms_5 (List.mem_of_getElem? (i := 202) (by decide +kernel)) rfl, ms_1 (List.mem_of_getElem? (i := 14) (by decide +kernel)) rfl, by decide, by decide, by decide +kernel⟩
theorem im_X12_fourLeaveNothing : Cond.instanceMethod yX12_fourLeaveNothing ∈ xm_tb := ms_5 (List.mem_of_getElem? (i := 201) (by decide +kernel)) rfl
theorem se_X12_fourLeaveNothing : Cond.selects RX12 yX12_fourLeaveNothing yX12_fourLeaveNothing ∈ xm_tb := List.mem_filter.mpr ⟨List.mem_append_left _ (List.mem_of_getElem? (i := 47) (by decide +kernel)), rfl⟩
abbrev mt_X12_laySides : xm_M := (yX12_laySides, cX12_laySides, 6, none, 3, 80)
theorem ok_X12_laySides : xm_ok mt_X12_laySides 1 := ⟨plainFor_of_name (by decide), ms_5 (List.mem_of_getElem? (i := 164) (by decide +kernel)) rfl, ms_1 (List.mem_of_getElem? (i := 14) (by decide +kernel)) rfl, by decide, by decide, by decide +kernel⟩
theorem im_X12_laySides : Cond.instanceMethod yX12_laySides ∈ xm_tb := ms_5 (List.mem_of_getElem? (i := 163) (by decide +kernel)) rfl
theorem se_X12_laySides : Cond.selects RX12 yX12_laySides yX12_laySides ∈ xm_tb := List.mem_filter.mpr ⟨List.mem_append_left _ (List.mem_of_getElem? (i := 38) (by decide +kernel)), rfl⟩
abbrev mt_X12_isAbove : xm_M := (yX12_isAbove, cX12_isAbove, 16, (some .boolean), 1, 25)
theorem ok_X12_isAbove : xm_ok mt_X12_isAbove 6 := ⟨plainFor_of_name (by decide), ms_5 (List.mem_of_getElem? (i := 226) (by decide +kernel)) rfl, ms_1 (List.mem_of_getElem? (i := 14) (by decide +kernel)) rfl, by decide, by decide, by decide +kernel⟩
theorem st_X12_isAbove : Cond.static yX12_isAbove ∈ xm_tb := ms_5 (List.mem_of_getElem? (i := 225) (by decide +kernel)) rfl
abbrev mt_X12_offer : xm_M := (yX12_offer, cX12_offer, 23, none, 2, 60)
theorem ok_X12_offer : xm_ok mt_X12_offer 7 := ⟨plainFor_of_name (by decide), ms_5 (List.mem_of_getElem? (i := 218) (by decide +kernel)) rfl, ms_1 (List.mem_of_getElem? (i := 14) (by decide +kernel)) rfl, by decide, by decide, by decide +kernel⟩
theorem im_X12_offer : Cond.instanceMethod yX12_offer ∈ xm_tb := ms_5 (List.mem_of_getElem? (i := 217) (by decide +kernel)) rfl
theorem se_X12_offer : Cond.selects RX12 yX12_offer yX12_offer ∈ xm_tb := List.mem_filter.mpr ⟨List.mem_append_left _ (List.mem_of_getElem? (i := 51) (by decide +kernel)), rfl⟩
abbrev mt_X12_crossWanted : xm_M := (yX12_crossWanted, cX12_crossWanted, 5, (some .long), 0, 0)
theorem ok_X12_crossWanted : xm_ok mt_X12_crossWanted 2 := ⟨plainFor_of_name (by decide), ms_5 (List.mem_of_getElem? (i := 214) (by decide +kernel)) rfl, ms_1 (List.mem_of_getElem? (i := 14) (by decide +kernel)) rfl, by decide, by decide, by decide +kernel⟩
theorem im_X12_crossWanted : Cond.instanceMethod yX12_crossWanted ∈ xm_tb := ms_5 (List.mem_of_getElem? (i := 213) (by decide +kernel)) rfl
theorem se_X12_crossWanted : Cond.selects RX12 yX12_crossWanted yX12_crossWanted ∈ xm_tb := List.mem_filter.mpr ⟨List.mem_append_left _ (List.mem_of_getElem? (i := 50) (by decide +kernel)), rfl⟩
abbrev mt_X12_determinantWanted : xm_M := (yX12_determinantWanted, cX12_determinantWanted, 3, (some .long), 1, 25)
theorem ok_X12_determinantWanted : xm_ok mt_X12_determinantWanted 2 := ⟨plainFor_of_name (by decide), ms_5 (List.mem_of_getElem? (i := 234) (by decide +kernel)) rfl, ms_1 (List.mem_of_getElem? (i := 14) (by decide +kernel)) rfl, by decide, by decide, by decide +kernel⟩
theorem im_X12_determinantWanted : Cond.instanceMethod yX12_determinantWanted ∈ xm_tb := ms_5 (List.mem_of_getElem? (i := 233) (by decide +kernel)) rfl
theorem se_X12_determinantWanted : Cond.selects RX12 yX12_determinantWanted yX12_determinantWanted ∈ xm_tb := List.mem_filter.mpr ⟨List.mem_append_left _ (List.mem_of_getElem? (i := 53) (by decide +kernel)), rfl⟩
abbrev mt_X12_byOne : xm_M := (yX12_byOne, cX12_byOne, 3, none, 3, 102)
theorem ok_X12_byOne : xm_ok mt_X12_byOne 1 := ⟨plainFor_of_name (by decide), ms_5 (List.mem_of_getElem? (i := 210) (by decide +kernel)) rfl, ms_1 (List.mem_of_getElem? (i := 14) (by decide +kernel)) rfl, by decide, by decide, by decide +kernel⟩
theorem im_X12_byOne : Cond.instanceMethod yX12_byOne ∈ xm_tb := ms_5 (List.mem_of_getElem? (i := 209) (by decide +kernel)) rfl
theorem se_X12_byOne : Cond.selects RX12 yX12_byOne yX12_byOne ∈ xm_tb := List.mem_filter.mpr ⟨List.mem_append_left _ (List.mem_of_getElem? (i := 49) (by decide +kernel)), rfl⟩
abbrev mt_X12_byTwo : xm_M := (yX12_byTwo, cX12_byTwo, 6, none, 3, 102)
theorem ok_X12_byTwo : xm_ok mt_X12_byTwo 2 := ⟨plainFor_of_name (by decide), ms_5 (List.mem_of_getElem? (i := 230) (by decide +kernel)) rfl, ms_1 (List.mem_of_getElem? (i := 14) (by decide +kernel)) rfl, by decide, by decide, by decide +kernel⟩
theorem im_X12_byTwo : Cond.instanceMethod yX12_byTwo ∈ xm_tb := ms_5 (List.mem_of_getElem? (i := 229) (by decide +kernel)) rfl
theorem se_X12_byTwo : Cond.selects RX12 yX12_byTwo yX12_byTwo ∈ xm_tb := List.mem_filter.mpr ⟨List.mem_append_left _ (List.mem_of_getElem? (i := 52) (by decide +kernel)), rfl⟩
abbrev mt_X12_findLeast : xm_M := (yX12_findLeast, cX12_findLeast, 6, none, 4, 127)
theorem ok_X12_findLeast : xm_ok mt_X12_findLeast 0 := ⟨plainFor_of_name (by decide), ms_5 (List.mem_of_getElem? (i := 206) (by decide +kernel)) rfl, ms_1 (List.mem_of_getElem? (i := 14) (by decide +kernel)) rfl, by decide, by decide, by decide +kernel⟩
theorem im_X12_findLeast : Cond.instanceMethod yX12_findLeast ∈ xm_tb := ms_5 (List.mem_of_getElem? (i := 205) (by decide +kernel)) rfl
theorem se_X12_findLeast : Cond.selects RX12 yX12_findLeast yX12_findLeast ∈ xm_tb := List.mem_filter.mpr ⟨List.mem_append_left _ (List.mem_of_getElem? (i := 48) (by decide +kernel)), rfl⟩
abbrev mt_X12_isLeastAtLeast : xm_M := (yX12_isLeastAtLeast, cX12_isLeastAtLeast, 3, (some .boolean), 2, 60)
theorem ok_X12_isLeastAtLeast : xm_ok mt_X12_isLeastAtLeast 1 := ⟨plainFor_of_name (by decide), ms_5 (List.mem_of_getElem? (i := 238) (by decide +kernel)) rfl, ms_1 (List.mem_of_getElem? (i := 14) (by decide +kernel)) rfl, by decide, by decide, by decide +kernel⟩
theorem im_X12_isLeastAtLeast : Cond.instanceMethod yX12_isLeastAtLeast ∈ xm_tb := ms_5 (List.mem_of_getElem? (i := 237) (by decide +kernel)) rfl
theorem se_X12_isLeastAtLeast : Cond.selects RX12 yX12_isLeastAtLeast yX12_isLeastAtLeast ∈ xm_tb := List.mem_filter.mpr ⟨List.mem_append_left _ (List.mem_of_getElem? (i := 54) (by decide +kernel)), rfl⟩
abbrev mt_X12_isSum : xm_M := (yX12_isSum, cX12_isSum, 7, (some .boolean), 0, 0)
theorem ok_X12_isSum : xm_ok mt_X12_isSum 3 := ⟨plainFor_of_name (by decide), ms_5 (List.mem_of_getElem? (i := 152) (by decide +kernel)) rfl, ms_1 (List.mem_of_getElem? (i := 14) (by decide +kernel)) rfl, by decide, by decide, by decide +kernel⟩
theorem im_X12_isSum : Cond.instanceMethod yX12_isSum ∈ xm_tb := ms_5 (List.mem_of_getElem? (i := 151) (by decide +kernel)) rfl
theorem se_X12_isSum : Cond.selects RX12 yX12_isSum yX12_isSum ∈ xm_tb := List.mem_filter.mpr ⟨List.mem_append_left _ (List.mem_of_getElem? (i := 35) (by decide +kernel)), rfl⟩
abbrev mt_X12_tellsOf : xm_M := (yX12_tellsOf, cX12_tellsOf, 12, (some .int), 5, 152)
theorem ok_X12_tellsOf : xm_ok mt_X12_tellsOf 4 := ⟨plainFor_of_name (by decide), ms_5 (List.mem_of_getElem? (i := 160) (by decide +kernel)) rfl, ms_1 (List.mem_of_getElem? (i := 14) (by decide +kernel)) rfl, by decide, by decide, by decide +kernel⟩
theorem im_X12_tellsOf : Cond.instanceMethod yX12_tellsOf ∈ xm_tb := ms_5 (List.mem_of_getElem? (i := 159) (by decide +kernel)) rfl
theorem se_X12_tellsOf : Cond.selects RX12 yX12_tellsOf yX12_tellsOf ∈ xm_tb := List.mem_filter.mpr ⟨List.mem_append_left _ (List.mem_of_getElem? (i := 37) (by decide +kernel)), rfl⟩
abbrev mt_X12_doesRank : xm_M := (yX12_doesRank, cX12_doesRank, 6, (some .boolean), 6, 183)
theorem ok_X12_doesRank : xm_ok mt_X12_doesRank 3 := ⟨plainFor_of_name (by decide), ms_5 (List.mem_of_getElem? (i := 156) (by decide +kernel)) rfl, ms_1 (List.mem_of_getElem? (i := 14) (by decide +kernel)) rfl, by decide, by decide, by decide +kernel⟩
theorem im_X12_doesRank : Cond.instanceMethod yX12_doesRank ∈ xm_tb := ms_5 (List.mem_of_getElem? (i := 155) (by decide +kernel)) rfl
theorem se_X12_doesRank : Cond.selects RX12 yX12_doesRank yX12_doesRank ∈ xm_tb := List.mem_filter.mpr ⟨List.mem_append_left _ (List.mem_of_getElem? (i := 36) (by decide +kernel)), rfl⟩
abbrev mt_X12_ranks : xm_M := (yX12_ranks, cX12_ranks, 4, (some .int), 7, 208)
theorem ok_X12_ranks : xm_ok mt_X12_ranks 3 := ⟨plainFor_of_name (by decide), ms_5 (List.mem_of_getElem? (i := 148) (by decide +kernel)) rfl, ms_1 (List.mem_of_getElem? (i := 14) (by decide +kernel)) rfl, by decide, by decide, by decide +kernel⟩
theorem im_X12_ranks : Cond.instanceMethod yX12_ranks ∈ xm_tb := ms_5 (List.mem_of_getElem? (i := 146) (by decide +kernel)) rfl
theorem se_X12_ranks : Cond.selects RX12 yX12_ranks yX12_ranks ∈ xm_tb := ms_5 (List.mem_of_getElem? (i := 147) (by decide +kernel)) rfl
abbrev mt_X12_tells : xm_M := (yX12_tells, cX12_tells, 5, (some .int), 6, 183)
theorem ok_X12_tells : xm_ok mt_X12_tells 4 := ⟨plainFor_of_name (by decide), ms_6 (List.mem_of_getElem? (i := 2) (by decide +kernel)) rfl, ms_1 (List.mem_of_getElem? (i := 14) (by decide +kernel)) rfl, by decide, by decide, by decide +kernel⟩
theorem im_X12_tells : Cond.instanceMethod yX12_tells ∈ xm_tb := ms_6 (List.mem_of_getElem? (i := 0) (by decide +kernel)) rfl
theorem se_X12_tells : Cond.selects RX12 yX12_tells yX12_tells ∈ xm_tb := ms_6 (List.mem_of_getElem? (i := 1) (by decide +kernel)) rfl
abbrev mt_X12_floorOf : xm_M := (yX12_floorOf, cX12_floorOf, 10, (some .long), 5, 152)
theorem ok_X12_floorOf : xm_ok mt_X12_floorOf 3 := ⟨plainFor_of_name (by decide), ms_6 (List.mem_of_getElem? (i := 10) (by decide +kernel)) rfl, ms_1 (List.mem_of_getElem? (i := 14) (by decide +kernel)) rfl, by decide, by decide, by decide +kernel⟩
theorem im_X12_floorOf : Cond.instanceMethod yX12_floorOf ∈ xm_tb := ms_6 (List.mem_of_getElem? (i := 9) (by decide +kernel)) rfl
theorem se_X12_floorOf : Cond.selects RX12 yX12_floorOf yX12_floorOf ∈ xm_tb := List.mem_filter.mpr ⟨List.mem_append_left _ (List.mem_of_getElem? (i := 55) (by decide +kernel)), rfl⟩
abbrev mt_X12_floor : xm_M := (yX12_floor, cX12_floor, 4, (some .long), 7, 208)
theorem ok_X12_floor : xm_ok mt_X12_floor 3 := ⟨plainFor_of_name (by decide), ms_6 (List.mem_of_getElem? (i := 6) (by decide +kernel)) rfl, ms_1 (List.mem_of_getElem? (i := 14) (by decide +kernel)) rfl, by decide, by decide, by decide +kernel⟩
theorem im_X12_floor : Cond.instanceMethod yX12_floor ∈ xm_tb := ms_6 (List.mem_of_getElem? (i := 4) (by decide +kernel)) rfl
theorem se_X12_floor : Cond.selects RX12 yX12_floor yX12_floor ∈ xm_tb := ms_6 (List.mem_of_getElem? (i := 5) (by decide +kernel)) rfl
abbrev mt_X12_step : xm_M := (yX12_step, cX12_step, 3, (some .boolean), 0, 0)
theorem ok_X12_step : xm_ok mt_X12_step 1 := ⟨plainFor_of_name (by decide), ms_6 (List.mem_of_getElem? (i := 31) (by decide +kernel)) rfl, ms_1 (List.mem_of_getElem? (i := 14) (by decide +kernel)) rfl, by decide, by decide, by decide +kernel⟩
theorem im_X12_step : Cond.instanceMethod yX12_step ∈ xm_tb := ms_6 (List.mem_of_getElem? (i := 30) (by decide +kernel)) rfl
theorem se_X12_step : Cond.selects RX12 yX12_step yX12_step ∈ xm_tb := List.mem_filter.mpr ⟨List.mem_append_left _ (List.mem_of_getElem? (i := 58) (by decide +kernel)), rfl⟩
abbrev mt_X12_nextSum : xm_M := (yX12_nextSum, cX12_nextSum, 4, (some .boolean), 1, 22)
theorem ok_X12_nextSum : xm_ok mt_X12_nextSum 1 := ⟨plainFor_of_name (by decide), ms_6 (List.mem_of_getElem? (i := 26) (by decide +kernel)) rfl, ms_1 (List.mem_of_getElem? (i := 14) (by decide +kernel)) rfl, by decide, by decide, by decide +kernel⟩
theorem im_X12_nextSum : Cond.instanceMethod yX12_nextSum ∈ xm_tb := ms_6 (List.mem_of_getElem? (i := 25) (by decide +kernel)) rfl
theorem se_X12_nextSum : Cond.selects RX12 yX12_nextSum yX12_nextSum ∈ xm_tb := List.mem_filter.mpr ⟨List.mem_append_left _ (List.mem_of_getElem? (i := 57) (by decide +kernel)), rfl⟩
abbrev mt_X12_firstSum : xm_M := (yX12_firstSum, cX12_firstSum, 3, none, 2, 45)
theorem ok_X12_firstSum : xm_ok mt_X12_firstSum 1 := ⟨plainFor_of_name (by decide), ms_6 (List.mem_of_getElem? (i := 22) (by decide +kernel)) rfl, ms_1 (List.mem_of_getElem? (i := 14) (by decide +kernel)) rfl, by decide, by decide, by decide +kernel⟩
theorem im_X12_firstSum : Cond.instanceMethod yX12_firstSum ∈ xm_tb := ms_6 (List.mem_of_getElem? (i := 21) (by decide +kernel)) rfl
theorem se_X12_firstSum : Cond.selects RX12 yX12_firstSum yX12_firstSum ∈ xm_tb := List.mem_filter.mpr ⟨List.mem_append_left _ (List.mem_of_getElem? (i := 56) (by decide +kernel)), rfl⟩
abbrev mt_X12_isSize : xm_M := (yX12_isSize, cX12_isSize, 1, (some .boolean), 0, 0)
theorem ok_X12_isSize : xm_ok mt_X12_isSize 1 := ⟨plainFor_of_name (by decide), ms_6 (List.mem_of_getElem? (i := 18) (by decide +kernel)) rfl, ms_1 (List.mem_of_getElem? (i := 14) (by decide +kernel)) rfl, by decide, by decide, by decide +kernel⟩
theorem st_X12_isSize : Cond.static yX12_isSize ∈ xm_tb := ms_6 (List.mem_of_getElem? (i := 17) (by decide +kernel)) rfl
abbrev mt_X12_rank : xm_M := (yX12_rank, cX12_rank, 4, (some .int), 7, 208)
theorem ok_X12_rank : xm_ok mt_X12_rank 1 := ⟨plainFor_of_name (by decide), ms_6 (List.mem_of_getElem? (i := 15) (by decide +kernel)) rfl, ms_1 (List.mem_of_getElem? (i := 14) (by decide +kernel)) rfl, by decide, by decide, by decide +kernel⟩
theorem im_X12_rank : Cond.instanceMethod yX12_rank ∈ xm_tb := ms_6 (List.mem_of_getElem? (i := 13) (by decide +kernel)) rfl
theorem se_X12_rank : Cond.selects RX12 yX12_rank yX12_rank ∈ xm_tb := ms_6 (List.mem_of_getElem? (i := 14) (by decide +kernel)) rfl
abbrev mt_X12_takes : xm_M := (yX12_takes, cX12_takes, 5, (some .boolean), 6, 183)
theorem ok_X12_takes : xm_ok mt_X12_takes 0 := ⟨plainFor_of_name (by decide), ms_6 (List.mem_of_getElem? (i := 39) (by decide +kernel)) rfl, ms_1 (List.mem_of_getElem? (i := 14) (by decide +kernel)) rfl, by decide, by decide, by decide +kernel⟩
theorem im_X12_takes : Cond.instanceMethod yX12_takes ∈ xm_tb := ms_6 (List.mem_of_getElem? (i := 38) (by decide +kernel)) rfl
theorem se_X12_takes : Cond.selects RX12 yX12_takes yX12_takes ∈ xm_tb := List.mem_filter.mpr ⟨List.mem_append_left _ (List.mem_of_getElem? (i := 59) (by decide +kernel)), rfl⟩
abbrev mt_X12_rows : xm_M := (yX12_rows, cX12_rows, 7, (some .int), 7, 207)
theorem ok_X12_rows : xm_ok mt_X12_rows 1 := ⟨plainFor_of_name (by decide), ms_6 (List.mem_of_getElem? (i := 35) (by decide +kernel)) rfl, ms_1 (List.mem_of_getElem? (i := 14) (by decide +kernel)) rfl, by decide, by decide, by decide +kernel⟩
theorem im_X12_rows : Cond.instanceMethod yX12_rows ∈ xm_tb := ms_6 (List.mem_of_getElem? (i := 33) (by decide +kernel)) rfl
theorem se_X12_rows : Cond.selects RX12 yX12_rows yX12_rows ∈ xm_tb := ms_6 (List.mem_of_getElem? (i := 34) (by decide +kernel)) rfl
abbrev mt_X12_found : xm_M := (yX12_found, cX12_found, 3, (some .int), 0, 0)
theorem ok_X12_found : xm_ok mt_X12_found 2 := ⟨plainFor_of_name (by decide), ms_6 (List.mem_of_getElem? (i := 43) (by decide +kernel)) rfl, ms_1 (List.mem_of_getElem? (i := 14) (by decide +kernel)) rfl, by decide, by decide, by decide +kernel⟩
theorem im_X12_found : Cond.instanceMethod yX12_found ∈ xm_tb := ms_6 (List.mem_of_getElem? (i := 41) (by decide +kernel)) rfl
theorem se_X12_found : Cond.selects RX12 yX12_found yX12_found ∈ xm_tb := ms_6 (List.mem_of_getElem? (i := 42) (by decide +kernel)) rfl
abbrev mt_X12_by : xm_M := (yX12_by, cX12_by, 2, (some .int), 1, 21)
theorem ok_X12_by : xm_ok mt_X12_by 1 := ⟨plainFor_of_name (by decide), ms_6 (List.mem_of_getElem? (i := 47) (by decide +kernel)) rfl, ms_1 (List.mem_of_getElem? (i := 14) (by decide +kernel)) rfl, by decide, by decide, by decide +kernel⟩
theorem im_X12_by : Cond.instanceMethod yX12_by ∈ xm_tb := ms_6 (List.mem_of_getElem? (i := 45) (by decide +kernel)) rfl
theorem se_X12_by : Cond.selects RX12 yX12_by yX12_by ∈ xm_tb := ms_6 (List.mem_of_getElem? (i := 46) (by decide +kernel)) rfl
abbrev mt_X12_bound : xm_M := (yX12_bound, cX12_bound, 4, (some .long), 6, 181)
theorem ok_X12_bound : xm_ok mt_X12_bound 0 := ⟨plainFor_of_name (by decide), ms_6 (List.mem_of_getElem? (i := 51) (by decide +kernel)) rfl, ms_1 (List.mem_of_getElem? (i := 14) (by decide +kernel)) rfl, by decide, by decide, by decide +kernel⟩
theorem im_X12_bound : Cond.instanceMethod yX12_bound ∈ xm_tb := ms_6 (List.mem_of_getElem? (i := 49) (by decide +kernel)) rfl
theorem se_X12_bound : Cond.selects RX12 yX12_bound yX12_bound ∈ xm_tb := ms_6 (List.mem_of_getElem? (i := 50) (by decide +kernel)) rfl
abbrev mt_X12_begin : xm_M := (yX12_begin, cX12_begin, 4, (some .int), 0, 0)
theorem ok_X12_begin : xm_ok mt_X12_begin 3 := ⟨plainFor_of_name (by decide), ms_6 (List.mem_of_getElem? (i := 56) (by decide +kernel)) rfl, ms_1 (List.mem_of_getElem? (i := 14) (by decide +kernel)) rfl, by decide, by decide, by decide +kernel⟩
theorem im_X12_begin : Cond.instanceMethod yX12_begin ∈ xm_tb := ms_6 (List.mem_of_getElem? (i := 54) (by decide +kernel)) rfl
theorem se_X12_begin : Cond.selects RX12 yX12_begin yX12_begin ∈ xm_tb := ms_6 (List.mem_of_getElem? (i := 55) (by decide +kernel)) rfl
abbrev mt_X12_reach : xm_M := (yX12_reach, cX12_reach, 7, none, 0, 0)
theorem ok_X12_reach : xm_ok mt_X12_reach 3 := ⟨plainFor_of_name (by decide), ms_6 (List.mem_of_getElem? (i := 73) (by decide +kernel)) rfl, ms_1 (List.mem_of_getElem? (i := 14) (by decide +kernel)) rfl, by decide, by decide, by decide +kernel⟩
theorem im_X12_reach : Cond.instanceMethod yX12_reach ∈ xm_tb := ms_6 (List.mem_of_getElem? (i := 72) (by decide +kernel)) rfl
theorem se_X12_reach : Cond.selects RX12 yX12_reach yX12_reach ∈ xm_tb := List.mem_filter.mpr ⟨List.mem_append_left _ (List.mem_of_getElem? (i := 62) (by decide +kernel)), rfl⟩
abbrev mt_X12_isPassed : xm_M := (yX12_isPassed, cX12_isPassed, 4, (some .boolean), 1, 26)
theorem ok_X12_isPassed : xm_ok mt_X12_isPassed 1 := ⟨plainFor_of_name (by decide), ms_6 (List.mem_of_getElem? (i := 69) (by decide +kernel)) rfl, ms_1 (List.mem_of_getElem? (i := 14) (by decide +kernel)) rfl, by decide, by decide, by decide +kernel⟩
theorem im_X12_isPassed : Cond.instanceMethod yX12_isPassed ∈ xm_tb := ms_6 (List.mem_of_getElem? (i := 68) (by decide +kernel)) rfl
theorem se_X12_isPassed : Cond.selects RX12 yX12_isPassed yX12_isPassed ∈ xm_tb := List.mem_filter.mpr ⟨List.mem_append_left _ (List.mem_of_getElem? (i := 61) (by decide +kernel)), rfl⟩
abbrev mt_X12_isChanged : xm_M := (yX12_isChanged, cX12_isChanged, 2, (some .boolean), 0, 0)
theorem ok_X12_isChanged : xm_ok mt_X12_isChanged 1 := ⟨plainFor_of_name (by decide), ms_6 (List.mem_of_getElem? (i := 77) (by decide +kernel)) rfl, ms_1 (List.mem_of_getElem? (i := 14) (by decide +kernel)) rfl, by decide, by decide, by decide +kernel⟩
theorem im_X12_isChanged : Cond.instanceMethod yX12_isChanged ∈ xm_tb := ms_6 (List.mem_of_getElem? (i := 76) (by decide +kernel)) rfl
theorem se_X12_isChanged : Cond.selects RX12 yX12_isChanged yX12_isChanged ∈ xm_tb := List.mem_filter.mpr ⟨List.mem_append_left _ (List.mem_of_getElem? (i := 63) (by decide +kernel)), rfl⟩
abbrev mt_X12_goRound : xm_M := (yX12_goRound, cX12_goRound, 4, (some .boolean), 2, 49)
theorem ok_X12_goRound : xm_ok mt_X12_goRound 0 := ⟨plainFor_of_name (by decide), ms_6 (List.mem_of_getElem? (i := 65) (by decide +kernel)) rfl, ms_1 (List.mem_of_getElem? (i := 14) (by decide +kernel)) rfl, by decide, by decide, by decide +kernel⟩
theorem im_X12_goRound : Cond.instanceMethod yX12_goRound ∈ xm_tb := ms_6 (List.mem_of_getElem? (i := 64) (by decide +kernel)) rfl
theorem se_X12_goRound : Cond.selects RX12 yX12_goRound yX12_goRound ∈ xm_tb := List.mem_filter.mpr ⟨List.mem_append_left _ (List.mem_of_getElem? (i := 60) (by decide +kernel)), rfl⟩
abbrev mt_X12_round : xm_M := (yX12_round, cX12_round, 5, (some .int), 3, 72)
theorem ok_X12_round : xm_ok mt_X12_round 1 := ⟨plainFor_of_name (by decide), ms_6 (List.mem_of_getElem? (i := 61) (by decide +kernel)) rfl, ms_1 (List.mem_of_getElem? (i := 14) (by decide +kernel)) rfl, by decide, by decide, by decide +kernel⟩
theorem im_X12_round : Cond.instanceMethod yX12_round ∈ xm_tb := ms_6 (List.mem_of_getElem? (i := 59) (by decide +kernel)) rfl
theorem se_X12_round : Cond.selects RX12 yX12_round yX12_round ∈ xm_tb := ms_6 (List.mem_of_getElem? (i := 60) (by decide +kernel)) rfl
abbrev mt_X12_box : xm_M := (yX12_box, cX12_box, 3, (some .long), 0, 0)
theorem ok_X12_box : xm_ok mt_X12_box 2 := ⟨plainFor_of_name (by decide), ms_6 (List.mem_of_getElem? (i := 83) (by decide +kernel)) rfl, ms_1 (List.mem_of_getElem? (i := 14) (by decide +kernel)) rfl, by decide, by decide, by decide +kernel⟩
theorem im_X12_box : Cond.instanceMethod yX12_box ∈ xm_tb := ms_6 (List.mem_of_getElem? (i := 81) (by decide +kernel)) rfl
theorem se_X12_box : Cond.selects RX12 yX12_box yX12_box ∈ xm_tb := ms_6 (List.mem_of_getElem? (i := 82) (by decide +kernel)) rfl
abbrev mt_X12_open : xm_M := (yX12_open, cX12_open, 1, (some .int), 1, 21)
theorem ok_X12_open : xm_ok mt_X12_open 0 := ⟨plainFor_of_name (by decide), ms_6 (List.mem_of_getElem? (i := 88) (by decide +kernel)) rfl, ms_1 (List.mem_of_getElem? (i := 14) (by decide +kernel)) rfl, by decide, by decide, by decide +kernel⟩
theorem im_X12_open : Cond.instanceMethod yX12_open ∈ xm_tb := ms_6 (List.mem_of_getElem? (i := 86) (by decide +kernel)) rfl
theorem se_X12_open : Cond.selects RX12 yX12_open yX12_open ∈ xm_tb := ms_6 (List.mem_of_getElem? (i := 87) (by decide +kernel)) rfl
abbrev mt_X12_call : xm_M := (yX12_call, cX12_call, 4, (some .int), 0, 0)
theorem ok_X12_call : xm_ok mt_X12_call 3 := ⟨plainFor_of_name (by decide), ms_6 (List.mem_of_getElem? (i := 92) (by decide +kernel)) rfl, ms_1 (List.mem_of_getElem? (i := 14) (by decide +kernel)) rfl, by decide, by decide, by decide +kernel⟩
theorem im_X12_call : Cond.instanceMethod yX12_call ∈ xm_tb := ms_6 (List.mem_of_getElem? (i := 90) (by decide +kernel)) rfl
theorem se_X12_call : Cond.selects RX12 yX12_call yX12_call ∈ xm_tb := ms_6 (List.mem_of_getElem? (i := 91) (by decide +kernel)) rfl
abbrev mt_X12_clear : xm_M := (yX12_clear, cX12_clear, 2, (some .int), 0, 0)
theorem ok_X12_clear : xm_ok mt_X12_clear 0 := ⟨plainFor_of_name (by decide), ms_6 (List.mem_of_getElem? (i := 97) (by decide +kernel)) rfl, ms_1 (List.mem_of_getElem? (i := 14) (by decide +kernel)) rfl, by decide, by decide, by decide +kernel⟩
theorem im_X12_clear : Cond.instanceMethod yX12_clear ∈ xm_tb := ms_6 (List.mem_of_getElem? (i := 95) (by decide +kernel)) rfl
theorem se_X12_clear : Cond.selects RX12 yX12_clear yX12_clear ∈ xm_tb := ms_6 (List.mem_of_getElem? (i := 96) (by decide +kernel)) rfl
abbrev mt_X12_spread : xm_M := (yX12_spread, cX12_spread, 4, none, 0, 0)
theorem ok_X12_spread : xm_ok mt_X12_spread 2 := ⟨plainFor_of_name (by decide), ms_6 (List.mem_of_getElem? (i := 116) (by decide +kernel)) rfl, ms_1 (List.mem_of_getElem? (i := 14) (by decide +kernel)) rfl, by decide, by decide, by decide +kernel⟩
theorem st_X12_spread : Cond.static yX12_spread ∈ xm_tb := ms_6 (List.mem_of_getElem? (i := 115) (by decide +kernel)) rfl
abbrev mt_X12_together : xm_M := (yX12_together, cX12_together, 11, (some .int), 1, 23)
theorem ok_X12_together : xm_ok mt_X12_together 2 := ⟨plainFor_of_name (by decide), ms_6 (List.mem_of_getElem? (i := 113) (by decide +kernel)) rfl, ms_1 (List.mem_of_getElem? (i := 14) (by decide +kernel)) rfl, by decide, by decide, by decide +kernel⟩
theorem im_X12_together : Cond.instanceMethod yX12_together ∈ xm_tb := ms_6 (List.mem_of_getElem? (i := 112) (by decide +kernel)) rfl
theorem se_X12_together : Cond.selects RX12 yX12_together yX12_together ∈ xm_tb := List.mem_filter.mpr ⟨List.mem_append_left _ (List.mem_of_getElem? (i := 66) (by decide +kernel)), rfl⟩
abbrev mt_X12_make : xm_M := (yX12_make, cX12_make, 5, (some .boolean), 0, 0)
theorem ok_X12_make : xm_ok mt_X12_make 3 := ⟨plainFor_of_name (by decide), ms_6 (List.mem_of_getElem? (i := 109) (by decide +kernel)) rfl, ms_1 (List.mem_of_getElem? (i := 14) (by decide +kernel)) rfl, by decide, by decide, by decide +kernel⟩
theorem im_X12_make : Cond.instanceMethod yX12_make ∈ xm_tb := ms_6 (List.mem_of_getElem? (i := 108) (by decide +kernel)) rfl
theorem se_X12_make : Cond.selects RX12 yX12_make yX12_make ∈ xm_tb := List.mem_filter.mpr ⟨List.mem_append_left _ (List.mem_of_getElem? (i := 65) (by decide +kernel)), rfl⟩
abbrev mt_X12_makeAll : xm_M := (yX12_makeAll, cX12_makeAll, 4, (some .boolean), 2, 53)
theorem ok_X12_makeAll : xm_ok mt_X12_makeAll 0 := ⟨plainFor_of_name (by decide), ms_6 (List.mem_of_getElem? (i := 105) (by decide +kernel)) rfl, ms_1 (List.mem_of_getElem? (i := 14) (by decide +kernel)) rfl, by decide, by decide, by decide +kernel⟩
theorem im_X12_makeAll : Cond.instanceMethod yX12_makeAll ∈ xm_tb := ms_6 (List.mem_of_getElem? (i := 104) (by decide +kernel)) rfl
theorem se_X12_makeAll : Cond.selects RX12 yX12_makeAll yX12_makeAll ∈ xm_tb := List.mem_filter.mpr ⟨List.mem_append_left _ (List.mem_of_getElem? (i := 64) (by decide +kernel)), rfl⟩
abbrev mt_X12_isAsked : xm_M := (yX12_isAsked, cX12_isAsked, 2, (some .boolean), 2, 53)
theorem ok_X12_isAsked : xm_ok mt_X12_isAsked 1 := ⟨plainFor_of_name (by decide), ms_6 (List.mem_of_getElem? (i := 120) (by decide +kernel)) rfl, ms_1 (List.mem_of_getElem? (i := 14) (by decide +kernel)) rfl, by decide, by decide, by decide +kernel⟩
theorem im_X12_isAsked : Cond.instanceMethod yX12_isAsked ∈ xm_tb := ms_6 (List.mem_of_getElem? (i := 119) (by decide +kernel)) rfl
theorem se_X12_isAsked : Cond.selects RX12 yX12_isAsked yX12_isAsked ∈ xm_tb := List.mem_filter.mpr ⟨List.mem_append_left _ (List.mem_of_getElem? (i := 67) (by decide +kernel)), rfl⟩
abbrev mt_X12_ending : xm_M := (yX12_ending, cX12_ending, 3, (some .int), 3, 76)
theorem ok_X12_ending : xm_ok mt_X12_ending 0 := ⟨plainFor_of_name (by decide), ms_6 (List.mem_of_getElem? (i := 101) (by decide +kernel)) rfl, ms_1 (List.mem_of_getElem? (i := 14) (by decide +kernel)) rfl, by decide, by decide, by decide +kernel⟩
theorem im_X12_ending : Cond.instanceMethod yX12_ending ∈ xm_tb := ms_6 (List.mem_of_getElem? (i := 99) (by decide +kernel)) rfl
theorem se_X12_ending : Cond.selects RX12 yX12_ending yX12_ending ∈ xm_tb := ms_6 (List.mem_of_getElem? (i := 100) (by decide +kernel)) rfl
abbrev mt_X12_made : xm_M := (yX12_made, cX12_made, 1, (some .int), 0, 0)
theorem ok_X12_made : xm_ok mt_X12_made 0 := ⟨plainFor_of_name (by decide), ms_6 (List.mem_of_getElem? (i := 124) (by decide +kernel)) rfl, ms_1 (List.mem_of_getElem? (i := 14) (by decide +kernel)) rfl, by decide, by decide, by decide +kernel⟩
theorem im_X12_made : Cond.instanceMethod yX12_made ∈ xm_tb := ms_6 (List.mem_of_getElem? (i := 122) (by decide +kernel)) rfl
theorem se_X12_made : Cond.selects RX12 yX12_made yX12_made ∈ xm_tb := ms_6 (List.mem_of_getElem? (i := 123) (by decide +kernel)) rfl
abbrev mt_X12_witness : xm_M := (yX12_witness, cX12_witness, 2, (some .int), 0, 0)
theorem ok_X12_witness : xm_ok mt_X12_witness 1 := ⟨plainFor_of_name (by decide), ms_6 (List.mem_of_getElem? (i := 128) (by decide +kernel)) rfl, ms_1 (List.mem_of_getElem? (i := 14) (by decide +kernel)) rfl, by decide, by decide, by decide +kernel⟩
theorem im_X12_witness : Cond.instanceMethod yX12_witness ∈ xm_tb := ms_6 (List.mem_of_getElem? (i := 126) (by decide +kernel)) rfl
theorem se_X12_witness : Cond.selects RX12 yX12_witness yX12_witness ∈ xm_tb := ms_6 (List.mem_of_getElem? (i := 127) (by decide +kernel)) rfl
end
section
theorem dJ7_fill_d0a16_0 : decode cJ7_fill_d0a16 0 = .ok (.iconst 0, 1) := by decide +kernel
theorem dJ7_fill_d0a16_1 : decode cJ7_fill_d0a16 1 = .ok (.istore_n 3, 1) := by decide +kernel
theorem dJ7_fill_d0a16_2 : decode cJ7_fill_d0a16 2 = .ok (.aload_n 0, 1) := by decide +kernel
theorem dJ7_fill_d0a16_3 : decode cJ7_fill_d0a16 3 = .ok (.arraylength, 1) := by decide +kernel
theorem dJ7_fill_d0a16_4 : decode cJ7_fill_d0a16 4 = .ok (.istore 4, 2) := by decide +kernel
theorem dJ7_fill_d0a16_6 : decode cJ7_fill_d0a16 6 = .ok (.iload_n 3, 1) := by decide +kernel
theorem dJ7_fill_d0a16_7 : decode cJ7_fill_d0a16 7 = .ok (.iload 4, 2) := by decide +kernel
theorem dJ7_fill_d0a16_9 : decode cJ7_fill_d0a16 9 = .ok (.if_icmp .ge 13, 3) := by decide +kernel
theorem dJ7_fill_d0a16_12 : decode cJ7_fill_d0a16 12 = .ok (.aload_n 0, 1) := by decide +kernel
theorem dJ7_fill_d0a16_13 : decode cJ7_fill_d0a16 13 = .ok (.iload_n 3, 1) := by decide +kernel
theorem dJ7_fill_d0a16_14 : decode cJ7_fill_d0a16 14 = .ok (.lload_n 1, 1) := by decide +kernel
theorem dJ7_fill_d0a16_15 : decode cJ7_fill_d0a16 15 = .ok (.lastore, 1) := by decide +kernel
theorem dJ7_fill_d0a16_16 : decode cJ7_fill_d0a16 16 = .ok (.iinc 3 1, 3) := by decide +kernel
theorem dJ7_fill_d0a16_19 : decode cJ7_fill_d0a16 19 = .ok (.goto (-13), 3) := by decide +kernel
theorem dJ7_fill_d0a16_22 : decode cJ7_fill_d0a16 22 = .ok (.return_, 1) := by decide +kernel
theorem dJ7_fill_53178_0 : decode cJ7_fill_53178 0 = .ok (.iconst 0, 1) := by decide +kernel
theorem dJ7_fill_53178_1 : decode cJ7_fill_53178 1 = .ok (.istore_n 2, 1) := by decide +kernel
theorem dJ7_fill_53178_2 : decode cJ7_fill_53178 2 = .ok (.aload_n 0, 1) := by decide +kernel
theorem dJ7_fill_53178_3 : decode cJ7_fill_53178 3 = .ok (.arraylength, 1) := by decide +kernel
theorem dJ7_fill_53178_4 : decode cJ7_fill_53178 4 = .ok (.istore_n 3, 1) := by decide +kernel
theorem dJ7_fill_53178_5 : decode cJ7_fill_53178 5 = .ok (.iload_n 2, 1) := by decide +kernel
theorem dJ7_fill_53178_6 : decode cJ7_fill_53178 6 = .ok (.iload_n 3, 1) := by decide +kernel
theorem dJ7_fill_53178_7 : decode cJ7_fill_53178 7 = .ok (.if_icmp .ge 13, 3) := by decide +kernel
theorem dJ7_fill_53178_10 : decode cJ7_fill_53178 10 = .ok (.aload_n 0, 1) := by decide +kernel
theorem dJ7_fill_53178_11 : decode cJ7_fill_53178 11 = .ok (.iload_n 2, 1) := by decide +kernel
theorem dJ7_fill_53178_12 : decode cJ7_fill_53178 12 = .ok (.iload_n 1, 1) := by decide +kernel
theorem dJ7_fill_53178_13 : decode cJ7_fill_53178 13 = .ok (.iastore, 1) := by decide +kernel
theorem dJ7_fill_53178_14 : decode cJ7_fill_53178 14 = .ok (.iinc 2 1, 3) := by decide +kernel
theorem dJ7_fill_53178_17 : decode cJ7_fill_53178 17 = .ok (.goto (-12), 3) := by decide +kernel
theorem dJ7_fill_53178_20 : decode cJ7_fill_53178 20 = .ok (.return_, 1) := by decide +kernel
theorem dJ9_floorDiv_f86c9_0 : decode cJ9_floorDiv_f86c9 0 = .ok (.lload_n 0, 1) := by decide +kernel
theorem dJ9_floorDiv_f86c9_1 : decode cJ9_floorDiv_f86c9 1 = .ok (.lload_n 2, 1) := by decide +kernel
theorem dJ9_floorDiv_f86c9_2 : decode cJ9_floorDiv_f86c9 2 = .ok (.ldiv, 1) := by decide +kernel
theorem dJ9_floorDiv_f86c9_3 : decode cJ9_floorDiv_f86c9 3 = .ok (.lstore 4, 2) := by decide +kernel
theorem dJ9_floorDiv_f86c9_5 : decode cJ9_floorDiv_f86c9 5 = .ok (.lload_n 0, 1) := by decide +kernel
theorem dJ9_floorDiv_f86c9_6 : decode cJ9_floorDiv_f86c9 6 = .ok (.lload_n 2, 1) := by decide +kernel
theorem dJ9_floorDiv_f86c9_7 : decode cJ9_floorDiv_f86c9 7 = .ok (.lxor, 1) := by decide +kernel
theorem dJ9_floorDiv_f86c9_8 : decode cJ9_floorDiv_f86c9 8 = .ok (.lconst 0, 1) := by decide +kernel
theorem dJ9_floorDiv_f86c9_9 : decode cJ9_floorDiv_f86c9 9 = .ok (.lcmp, 1) := by decide +kernel
theorem dJ9_floorDiv_f86c9_10 : decode cJ9_floorDiv_f86c9 10 = .ok (.ifCond .ge 17, 3) := by decide +kernel
theorem dJ9_floorDiv_f86c9_13 : decode cJ9_floorDiv_f86c9 13 = .ok (.lload 4, 2) := by decide +kernel
theorem dJ9_floorDiv_f86c9_15 : decode cJ9_floorDiv_f86c9 15 = .ok (.lload_n 2, 1) := by decide +kernel
theorem dJ9_floorDiv_f86c9_16 : decode cJ9_floorDiv_f86c9 16 = .ok (.lmul, 1) := by decide +kernel
theorem dJ9_floorDiv_f86c9_17 : decode cJ9_floorDiv_f86c9 17 = .ok (.lload_n 0, 1) := by decide +kernel
theorem dJ9_floorDiv_f86c9_18 : decode cJ9_floorDiv_f86c9 18 = .ok (.lcmp, 1) := by decide +kernel
theorem dJ9_floorDiv_f86c9_19 : decode cJ9_floorDiv_f86c9 19 = .ok (.ifCond .eq 8, 3) := by decide +kernel
theorem dJ9_floorDiv_f86c9_22 : decode cJ9_floorDiv_f86c9 22 = .ok (.lload 4, 2) := by decide +kernel
theorem dJ9_floorDiv_f86c9_24 : decode cJ9_floorDiv_f86c9 24 = .ok (.lconst 1, 1) := by decide +kernel
theorem dJ9_floorDiv_f86c9_25 : decode cJ9_floorDiv_f86c9 25 = .ok (.lsub, 1) := by decide +kernel
theorem dJ9_floorDiv_f86c9_26 : decode cJ9_floorDiv_f86c9 26 = .ok (.lreturn, 1) := by decide +kernel
theorem dJ9_floorDiv_f86c9_27 : decode cJ9_floorDiv_f86c9 27 = .ok (.lload 4, 2) := by decide +kernel
theorem dJ9_floorDiv_f86c9_29 : decode cJ9_floorDiv_f86c9 29 = .ok (.lreturn, 1) := by decide +kernel
theorem dJ9_floorMod_f86c9_0 : decode cJ9_floorMod_f86c9 0 = .ok (.lload_n 0, 1) := by decide +kernel
theorem dJ9_floorMod_f86c9_1 : decode cJ9_floorMod_f86c9 1 = .ok (.lload_n 2, 1) := by decide +kernel
theorem dJ9_floorMod_f86c9_2 : decode cJ9_floorMod_f86c9 2 = .ok (.lrem, 1) := by decide +kernel
theorem dJ9_floorMod_f86c9_3 : decode cJ9_floorMod_f86c9 3 = .ok (.lstore 4, 2) := by decide +kernel
theorem dJ9_floorMod_f86c9_5 : decode cJ9_floorMod_f86c9 5 = .ok (.lload_n 0, 1) := by decide +kernel
theorem dJ9_floorMod_f86c9_6 : decode cJ9_floorMod_f86c9 6 = .ok (.lload_n 2, 1) := by decide +kernel
theorem dJ9_floorMod_f86c9_7 : decode cJ9_floorMod_f86c9 7 = .ok (.lxor, 1) := by decide +kernel
theorem dJ9_floorMod_f86c9_8 : decode cJ9_floorMod_f86c9 8 = .ok (.lconst 0, 1) := by decide +kernel
theorem dJ9_floorMod_f86c9_9 : decode cJ9_floorMod_f86c9 9 = .ok (.lcmp, 1) := by decide +kernel
theorem dJ9_floorMod_f86c9_10 : decode cJ9_floorMod_f86c9 10 = .ok (.ifCond .ge 15, 3) := by decide +kernel
theorem dJ9_floorMod_f86c9_13 : decode cJ9_floorMod_f86c9 13 = .ok (.lload 4, 2) := by decide +kernel
theorem dJ9_floorMod_f86c9_15 : decode cJ9_floorMod_f86c9 15 = .ok (.lconst 0, 1) := by decide +kernel
theorem dJ9_floorMod_f86c9_16 : decode cJ9_floorMod_f86c9 16 = .ok (.lcmp, 1) := by decide +kernel
theorem dJ9_floorMod_f86c9_17 : decode cJ9_floorMod_f86c9 17 = .ok (.ifCond .eq 8, 3) := by decide +kernel
theorem dJ9_floorMod_f86c9_20 : decode cJ9_floorMod_f86c9 20 = .ok (.lload 4, 2) := by decide +kernel
theorem dJ9_floorMod_f86c9_22 : decode cJ9_floorMod_f86c9 22 = .ok (.lload_n 2, 1) := by decide +kernel
theorem dJ9_floorMod_f86c9_23 : decode cJ9_floorMod_f86c9 23 = .ok (.ladd, 1) := by decide +kernel
theorem dJ9_floorMod_f86c9_24 : decode cJ9_floorMod_f86c9 24 = .ok (.lreturn, 1) := by decide +kernel
theorem dJ9_floorMod_f86c9_25 : decode cJ9_floorMod_f86c9 25 = .ok (.lload 4, 2) := by decide +kernel
theorem dJ9_floorMod_f86c9_27 : decode cJ9_floorMod_f86c9 27 = .ok (.lreturn, 1) := by decide +kernel
theorem dJ9_abs_0f7a4_0 : decode cJ9_abs_0f7a4 0 = .ok (.iload_n 0, 1) := by decide +kernel
theorem dJ9_abs_0f7a4_1 : decode cJ9_abs_0f7a4 1 = .ok (.ifCond .ge 8, 3) := by decide +kernel
theorem dJ9_abs_0f7a4_4 : decode cJ9_abs_0f7a4 4 = .ok (.iload_n 0, 1) := by decide +kernel
theorem dJ9_abs_0f7a4_5 : decode cJ9_abs_0f7a4 5 = .ok (.ineg, 1) := by decide +kernel
theorem dJ9_abs_0f7a4_6 : decode cJ9_abs_0f7a4 6 = .ok (.goto 4, 3) := by decide +kernel
theorem dJ9_abs_0f7a4_9 : decode cJ9_abs_0f7a4 9 = .ok (.iload_n 0, 1) := by decide +kernel
theorem dJ9_abs_0f7a4_10 : decode cJ9_abs_0f7a4 10 = .ok (.ireturn, 1) := by decide +kernel
theorem dJ9_abs_067f4_0 : decode cJ9_abs_067f4 0 = .ok (.lload_n 0, 1) := by decide +kernel
theorem dJ9_abs_067f4_1 : decode cJ9_abs_067f4 1 = .ok (.lconst 0, 1) := by decide +kernel
theorem dJ9_abs_067f4_2 : decode cJ9_abs_067f4 2 = .ok (.lcmp, 1) := by decide +kernel
theorem dJ9_abs_067f4_3 : decode cJ9_abs_067f4 3 = .ok (.ifCond .ge 8, 3) := by decide +kernel
theorem dJ9_abs_067f4_6 : decode cJ9_abs_067f4 6 = .ok (.lload_n 0, 1) := by decide +kernel
theorem dJ9_abs_067f4_7 : decode cJ9_abs_067f4 7 = .ok (.lneg, 1) := by decide +kernel
theorem dJ9_abs_067f4_8 : decode cJ9_abs_067f4 8 = .ok (.goto 4, 3) := by decide +kernel
theorem dJ9_abs_067f4_11 : decode cJ9_abs_067f4 11 = .ok (.lload_n 0, 1) := by decide +kernel
theorem dJ9_abs_067f4_12 : decode cJ9_abs_067f4 12 = .ok (.lreturn, 1) := by decide +kernel
theorem dJ9_max_f86c9_0 : decode cJ9_max_f86c9 0 = .ok (.lload_n 0, 1) := by decide +kernel
theorem dJ9_max_f86c9_1 : decode cJ9_max_f86c9 1 = .ok (.lload_n 2, 1) := by decide +kernel
theorem dJ9_max_f86c9_2 : decode cJ9_max_f86c9 2 = .ok (.lcmp, 1) := by decide +kernel
theorem dJ9_max_f86c9_3 : decode cJ9_max_f86c9 3 = .ok (.ifCond .lt 7, 3) := by decide +kernel
theorem dJ9_max_f86c9_6 : decode cJ9_max_f86c9 6 = .ok (.lload_n 0, 1) := by decide +kernel
theorem dJ9_max_f86c9_7 : decode cJ9_max_f86c9 7 = .ok (.goto 4, 3) := by decide +kernel
theorem dJ9_max_f86c9_10 : decode cJ9_max_f86c9 10 = .ok (.lload_n 2, 1) := by decide +kernel
theorem dJ9_max_f86c9_11 : decode cJ9_max_f86c9 11 = .ok (.lreturn, 1) := by decide +kernel
theorem dJ9_min_f86c9_0 : decode cJ9_min_f86c9 0 = .ok (.lload_n 0, 1) := by decide +kernel
theorem dJ9_min_f86c9_1 : decode cJ9_min_f86c9 1 = .ok (.lload_n 2, 1) := by decide +kernel
theorem dJ9_min_f86c9_2 : decode cJ9_min_f86c9 2 = .ok (.lcmp, 1) := by decide +kernel
theorem dJ9_min_f86c9_3 : decode cJ9_min_f86c9 3 = .ok (.ifCond .gt 7, 3) := by decide +kernel
theorem dJ9_min_f86c9_6 : decode cJ9_min_f86c9 6 = .ok (.lload_n 0, 1) := by decide +kernel
theorem dJ9_min_f86c9_7 : decode cJ9_min_f86c9 7 = .ok (.goto 4, 3) := by decide +kernel
theorem dJ9_min_f86c9_10 : decode cJ9_min_f86c9 10 = .ok (.lload_n 2, 1) := by decide +kernel
theorem dJ9_min_f86c9_11 : decode cJ9_min_f86c9 11 = .ok (.lreturn, 1) := by decide +kernel
theorem dX0_put_0 : decode cX0_put 0 = .ok (.iload_n 1, 1) := by decide +kernel
theorem dX0_put_1 : decode cX0_put 1 = .ok (.istore 4, 2) := by decide +kernel
theorem dX0_put_3 : decode cX0_put 3 = .ok (.iconst 2, 1) := by decide +kernel
theorem dX0_put_4 : decode cX0_put 4 = .ok (.istore 5, 2) := by decide +kernel
theorem dX0_put_6 : decode cX0_put 6 = .ok (.iload 5, 2) := by decide +kernel
theorem dX0_put_8 : decode cX0_put 8 = .ok (.ifCond .lt 41, 3) := by decide +kernel
theorem dX0_put_11 : decode cX0_put 11 = .ok (.aload_n 0, 1) := by decide +kernel
theorem dX0_put_12 : decode cX0_put 12 = .ok (.getfield 9, 3) := by decide +kernel
theorem dX0_put_15 : decode cX0_put 15 = .ok (.iload 5, 2) := by decide +kernel
theorem dX0_put_17 : decode cX0_put 17 = .ok (.iload 5, 2) := by decide +kernel
theorem dX0_put_19 : decode cX0_put 19 = .ok (.iload_n 2, 1) := by decide +kernel
theorem dX0_put_20 : decode cX0_put 20 = .ok (.if_icmp .ge 14, 3) := by decide +kernel
theorem dX0_put_23 : decode cX0_put 23 = .ok (.iload 4, 2) := by decide +kernel
theorem dX0_put_25 : decode cX0_put 25 = .ok (.bipush 41, 2) := by decide +kernel
theorem dX0_put_27 : decode cX0_put 27 = .ok (.irem, 1) := by decide +kernel
theorem dX0_put_28 : decode cX0_put 28 = .ok (.bipush 20, 2) := by decide +kernel
theorem dX0_put_30 : decode cX0_put 30 = .ok (.isub, 1) := by decide +kernel
theorem dX0_put_31 : decode cX0_put 31 = .ok (.goto 4, 3) := by decide +kernel
theorem dX0_put_34 : decode cX0_put 34 = .ok (.iconst 0, 1) := by decide +kernel
theorem dX0_put_35 : decode cX0_put 35 = .ok (.iastore, 1) := by decide +kernel
theorem dX0_put_36 : decode cX0_put 36 = .ok (.iload 4, 2) := by decide +kernel
theorem dX0_put_38 : decode cX0_put 38 = .ok (.bipush 41, 2) := by decide +kernel
theorem dX0_put_40 : decode cX0_put 40 = .ok (.idiv, 1) := by decide +kernel
theorem dX0_put_41 : decode cX0_put 41 = .ok (.istore 4, 2) := by decide +kernel
theorem dX0_put_43 : decode cX0_put 43 = .ok (.iinc 5 (-1), 3) := by decide +kernel
theorem dX0_put_46 : decode cX0_put 46 = .ok (.goto (-40), 3) := by decide +kernel
theorem dX0_put_49 : decode cX0_put 49 = .ok (.aload_n 0, 1) := by decide +kernel
theorem dX0_put_50 : decode cX0_put 50 = .ok (.iload_n 3, 1) := by decide +kernel
theorem dX0_put_51 : decode cX0_put 51 = .ok (.putfield 15, 3) := by decide +kernel
theorem dX0_put_54 : decode cX0_put 54 = .ok (.return_, 1) := by decide +kernel
theorem dX0_putSame_0 : decode cX0_putSame 0 = .ok (.iconst 0, 1) := by decide +kernel
theorem dX0_putSame_1 : decode cX0_putSame 1 = .ok (.istore_n 2, 1) := by decide +kernel
theorem dX0_putSame_2 : decode cX0_putSame 2 = .ok (.iload_n 2, 1) := by decide +kernel
theorem dX0_putSame_3 : decode cX0_putSame 3 = .ok (.iconst 3, 1) := by decide +kernel
theorem dX0_putSame_4 : decode cX0_putSame 4 = .ok (.if_icmp .ge 25, 3) := by decide +kernel
theorem dX0_putSame_7 : decode cX0_putSame 7 = .ok (.aload_n 0, 1) := by decide +kernel
theorem dX0_putSame_8 : decode cX0_putSame 8 = .ok (.getfield 9, 3) := by decide +kernel
theorem dX0_putSame_11 : decode cX0_putSame 11 = .ok (.iload_n 2, 1) := by decide +kernel
theorem dX0_putSame_12 : decode cX0_putSame 12 = .ok (.iload_n 2, 1) := by decide +kernel
theorem dX0_putSame_13 : decode cX0_putSame 13 = .ok (.iload_n 1, 1) := by decide +kernel
theorem dX0_putSame_14 : decode cX0_putSame 14 = .ok (.if_icmp .ne 7, 3) := by decide +kernel
theorem dX0_putSame_17 : decode cX0_putSame 17 = .ok (.iconst 1, 1) := by decide +kernel
theorem dX0_putSame_18 : decode cX0_putSame 18 = .ok (.goto 4, 3) := by decide +kernel
theorem dX0_putSame_21 : decode cX0_putSame 21 = .ok (.iconst 0, 1) := by decide +kernel
theorem dX0_putSame_22 : decode cX0_putSame 22 = .ok (.iastore, 1) := by decide +kernel
theorem dX0_putSame_23 : decode cX0_putSame 23 = .ok (.iinc 2 1, 3) := by decide +kernel
theorem dX0_putSame_26 : decode cX0_putSame 26 = .ok (.goto (-24), 3) := by decide +kernel
theorem dX0_putSame_29 : decode cX0_putSame 29 = .ok (.aload_n 0, 1) := by decide +kernel
theorem dX0_putSame_30 : decode cX0_putSame 30 = .ok (.iconst 0, 1) := by decide +kernel
theorem dX0_putSame_31 : decode cX0_putSame 31 = .ok (.putfield 15, 3) := by decide +kernel
theorem dX0_putSame_34 : decode cX0_putSame 34 = .ok (.return_, 1) := by decide +kernel
theorem dX11_valueOf_0 : decode cX11_valueOf 0 = .ok (.aload_n 0, 1) := by decide +kernel
theorem dX11_valueOf_1 : decode cX11_valueOf 1 = .ok (.iconst 0, 1) := by decide +kernel
theorem dX11_valueOf_2 : decode cX11_valueOf 2 = .ok (.iaload, 1) := by decide +kernel
theorem dX11_valueOf_3 : decode cX11_valueOf 3 = .ok (.i2l, 1) := by decide +kernel
theorem dX11_valueOf_4 : decode cX11_valueOf 4 = .ok (.aload_n 1, 1) := by decide +kernel
theorem dX11_valueOf_5 : decode cX11_valueOf 5 = .ok (.iconst 0, 1) := by decide +kernel
theorem dX11_valueOf_6 : decode cX11_valueOf 6 = .ok (.laload, 1) := by decide +kernel
theorem dX11_valueOf_7 : decode cX11_valueOf 7 = .ok (.lmul, 1) := by decide +kernel
theorem dX11_valueOf_8 : decode cX11_valueOf 8 = .ok (.aload_n 0, 1) := by decide +kernel
theorem dX11_valueOf_9 : decode cX11_valueOf 9 = .ok (.iconst 1, 1) := by decide +kernel
theorem dX11_valueOf_10 : decode cX11_valueOf 10 = .ok (.iaload, 1) := by decide +kernel
theorem dX11_valueOf_11 : decode cX11_valueOf 11 = .ok (.i2l, 1) := by decide +kernel
theorem dX11_valueOf_12 : decode cX11_valueOf 12 = .ok (.aload_n 1, 1) := by decide +kernel
theorem dX11_valueOf_13 : decode cX11_valueOf 13 = .ok (.iconst 1, 1) := by decide +kernel
theorem dX11_valueOf_14 : decode cX11_valueOf 14 = .ok (.laload, 1) := by decide +kernel
theorem dX11_valueOf_15 : decode cX11_valueOf 15 = .ok (.lmul, 1) := by decide +kernel
theorem dX11_valueOf_16 : decode cX11_valueOf 16 = .ok (.ladd, 1) := by decide +kernel
theorem dX11_valueOf_17 : decode cX11_valueOf 17 = .ok (.aload_n 0, 1) := by decide +kernel
theorem dX11_valueOf_18 : decode cX11_valueOf 18 = .ok (.iconst 2, 1) := by decide +kernel
theorem dX11_valueOf_19 : decode cX11_valueOf 19 = .ok (.iaload, 1) := by decide +kernel
theorem dX11_valueOf_20 : decode cX11_valueOf 20 = .ok (.i2l, 1) := by decide +kernel
theorem dX11_valueOf_21 : decode cX11_valueOf 21 = .ok (.aload_n 1, 1) := by decide +kernel
theorem dX11_valueOf_22 : decode cX11_valueOf 22 = .ok (.iconst 2, 1) := by decide +kernel
theorem dX11_valueOf_23 : decode cX11_valueOf 23 = .ok (.laload, 1) := by decide +kernel
theorem dX11_valueOf_24 : decode cX11_valueOf 24 = .ok (.lmul, 1) := by decide +kernel
theorem dX11_valueOf_25 : decode cX11_valueOf 25 = .ok (.ladd, 1) := by decide +kernel
theorem dX11_valueOf_26 : decode cX11_valueOf 26 = .ok (.lreturn, 1) := by decide +kernel
theorem dX0_valueAt_0 : decode cX0_valueAt 0 = .ok (.aload_n 0, 1) := by decide +kernel
theorem dX0_valueAt_1 : decode cX0_valueAt 1 = .ok (.getfield 9, 3) := by decide +kernel
theorem dX0_valueAt_4 : decode cX0_valueAt 4 = .ok (.aload_n 1, 1) := by decide +kernel
theorem dX0_valueAt_5 : decode cX0_valueAt 5 = .ok (.invokestatic 19, 3) := by decide +kernel
theorem dX0_valueAt_8 : decode cX0_valueAt 8 = .ok (.aload_n 0, 1) := by decide +kernel
theorem dX0_valueAt_9 : decode cX0_valueAt 9 = .ok (.getfield 15, 3) := by decide +kernel
theorem dX0_valueAt_12 : decode cX0_valueAt 12 = .ok (.i2l, 1) := by decide +kernel
theorem dX0_valueAt_13 : decode cX0_valueAt 13 = .ok (.ladd, 1) := by decide +kernel
theorem dX0_valueAt_14 : decode cX0_valueAt 14 = .ok (.lreturn, 1) := by decide +kernel
theorem dX2_end_0 : decode cX2_end 0 = .ok (.aload_n 0, 1) := by decide +kernel
theorem dX2_end_1 : decode cX2_end 1 = .ok (.getfield 9, 3) := by decide +kernel
theorem dX2_end_4 : decode cX2_end 4 = .ok (.iconst 2, 1) := by decide +kernel
theorem dX2_end_5 : decode cX2_end 5 = .ok (.iload_n 1, 1) := by decide +kernel
theorem dX2_end_6 : decode cX2_end 6 = .ok (.imul, 1) := by decide +kernel
theorem dX2_end_7 : decode cX2_end 7 = .ok (.iload_n 2, 1) := by decide +kernel
theorem dX2_end_8 : decode cX2_end 8 = .ok (.iadd, 1) := by decide +kernel
theorem dX2_end_9 : decode cX2_end 9 = .ok (.laload, 1) := by decide +kernel
theorem dX2_end_10 : decode cX2_end 10 = .ok (.lreturn, 1) := by decide +kernel
theorem dX0_farthest_0 : decode cX0_farthest 0 = .ok (.aload_n 0, 1) := by decide +kernel
theorem dX0_farthest_1 : decode cX0_farthest 1 = .ok (.getfield 15, 3) := by decide +kernel
theorem dX0_farthest_4 : decode cX0_farthest 4 = .ok (.i2l, 1) := by decide +kernel
theorem dX0_farthest_5 : decode cX0_farthest 5 = .ok (.lstore_n 3, 1) := by decide +kernel
theorem dX0_farthest_6 : decode cX0_farthest 6 = .ok (.iconst 0, 1) := by decide +kernel
theorem dX0_farthest_7 : decode cX0_farthest 7 = .ok (.istore 5, 2) := by decide +kernel
theorem dX0_farthest_9 : decode cX0_farthest 9 = .ok (.iload 5, 2) := by decide +kernel
theorem dX0_farthest_11 : decode cX0_farthest 11 = .ok (.iconst 3, 1) := by decide +kernel
theorem dX0_farthest_12 : decode cX0_farthest 12 = .ok (.if_icmp .ge 71, 3) := by decide +kernel
theorem dX0_farthest_15 : decode cX0_farthest 15 = .ok (.aload_n 0, 1) := by decide +kernel
theorem dX0_farthest_16 : decode cX0_farthest 16 = .ok (.getfield 9, 3) := by decide +kernel
theorem dX0_farthest_19 : decode cX0_farthest 19 = .ok (.iload 5, 2) := by decide +kernel
theorem dX0_farthest_21 : decode cX0_farthest 21 = .ok (.iaload, 1) := by decide +kernel
theorem dX0_farthest_22 : decode cX0_farthest 22 = .ok (.ifCond .eq 55, 3) := by decide +kernel
theorem dX0_farthest_25 : decode cX0_farthest 25 = .ok (.aload_n 1, 1) := by decide +kernel
theorem dX0_farthest_26 : decode cX0_farthest 26 = .ok (.iload 5, 2) := by decide +kernel
theorem dX0_farthest_28 : decode cX0_farthest 28 = .ok (.aload_n 0, 1) := by decide +kernel
theorem dX0_farthest_29 : decode cX0_farthest 29 = .ok (.getfield 9, 3) := by decide +kernel
theorem dX0_farthest_32 : decode cX0_farthest 32 = .ok (.iload 5, 2) := by decide +kernel
theorem dX0_farthest_34 : decode cX0_farthest 34 = .ok (.iaload, 1) := by decide +kernel
theorem dX0_farthest_35 : decode cX0_farthest 35 = .ok (.ifCond .le 7, 3) := by decide +kernel
theorem dX0_farthest_38 : decode cX0_farthest 38 = .ok (.iload_n 2, 1) := by decide +kernel
theorem dX0_farthest_39 : decode cX0_farthest 39 = .ok (.goto 6, 3) := by decide +kernel
theorem dX0_farthest_42 : decode cX0_farthest 42 = .ok (.iconst 1, 1) := by decide +kernel
theorem dX0_farthest_43 : decode cX0_farthest 43 = .ok (.iload_n 2, 1) := by decide +kernel
theorem dX0_farthest_44 : decode cX0_farthest 44 = .ok (.isub, 1) := by decide +kernel
theorem dX0_farthest_45 : decode cX0_farthest 45 = .ok (.invokevirtual 23, 3) := by decide +kernel
theorem dX0_farthest_48 : decode cX0_farthest 48 = .ok (.lstore 6, 2) := by decide +kernel
theorem dX0_farthest_50 : decode cX0_farthest 50 = .ok (.lload 6, 2) := by decide +kernel
theorem dX0_farthest_52 : decode cX0_farthest 52 = .ok (.ldc2_w 29, 3) := by decide +kernel
theorem dX0_farthest_55 : decode cX0_farthest 55 = .ok (.lcmp, 1) := by decide +kernel
theorem dX0_farthest_56 : decode cX0_farthest 56 = .ok (.ifCond .ne 7, 3) := by decide +kernel
theorem dX0_farthest_59 : decode cX0_farthest 59 = .ok (.ldc2_w 29, 3) := by decide +kernel
theorem dX0_farthest_62 : decode cX0_farthest 62 = .ok (.lreturn, 1) := by decide +kernel
theorem dX0_farthest_63 : decode cX0_farthest 63 = .ok (.lload_n 3, 1) := by decide +kernel
theorem dX0_farthest_64 : decode cX0_farthest 64 = .ok (.aload_n 0, 1) := by decide +kernel
theorem dX0_farthest_65 : decode cX0_farthest 65 = .ok (.getfield 9, 3) := by decide +kernel
theorem dX0_farthest_68 : decode cX0_farthest 68 = .ok (.iload 5, 2) := by decide +kernel
theorem dX0_farthest_70 : decode cX0_farthest 70 = .ok (.iaload, 1) := by decide +kernel
theorem dX0_farthest_71 : decode cX0_farthest 71 = .ok (.i2l, 1) := by decide +kernel
theorem dX0_farthest_72 : decode cX0_farthest 72 = .ok (.lload 6, 2) := by decide +kernel
theorem dX0_farthest_74 : decode cX0_farthest 74 = .ok (.lmul, 1) := by decide +kernel
theorem dX0_farthest_75 : decode cX0_farthest 75 = .ok (.ladd, 1) := by decide +kernel
theorem dX0_farthest_76 : decode cX0_farthest 76 = .ok (.lstore_n 3, 1) := by decide +kernel
theorem dX0_farthest_77 : decode cX0_farthest 77 = .ok (.iinc 5 1, 3) := by decide +kernel
theorem dX0_farthest_80 : decode cX0_farthest 80 = .ok (.goto (-71), 3) := by decide +kernel
theorem dX0_farthest_83 : decode cX0_farthest 83 = .ok (.lload_n 3, 1) := by decide +kernel
theorem dX0_farthest_84 : decode cX0_farthest 84 = .ok (.lreturn, 1) := by decide +kernel
theorem dX1_startAnew_0 : decode cX1_startAnew 0 = .ok (.aload_n 0, 1) := by decide +kernel
theorem dX1_startAnew_1 : decode cX1_startAnew 1 = .ok (.iconst 0, 1) := by decide +kernel
theorem dX1_startAnew_2 : decode cX1_startAnew 2 = .ok (.putfield 32, 3) := by decide +kernel
theorem dX1_startAnew_5 : decode cX1_startAnew 5 = .ok (.iconst 0, 1) := by decide +kernel
theorem dX1_startAnew_6 : decode cX1_startAnew 6 = .ok (.istore_n 1, 1) := by decide +kernel
theorem dX1_startAnew_7 : decode cX1_startAnew 7 = .ok (.iload_n 1, 1) := by decide +kernel
theorem dX1_startAnew_8 : decode cX1_startAnew 8 = .ok (.iconst 3, 1) := by decide +kernel
theorem dX1_startAnew_9 : decode cX1_startAnew 9 = .ok (.if_icmp .ge 19, 3) := by decide +kernel
theorem dX1_startAnew_12 : decode cX1_startAnew 12 = .ok (.aload_n 0, 1) := by decide +kernel
theorem dX1_startAnew_13 : decode cX1_startAnew 13 = .ok (.getfield 17, 3) := by decide +kernel
theorem dX1_startAnew_16 : decode cX1_startAnew 16 = .ok (.iload_n 1, 1) := by decide +kernel
theorem dX1_startAnew_17 : decode cX1_startAnew 17 = .ok (.aaload, 1) := by decide +kernel
theorem dX1_startAnew_18 : decode cX1_startAnew 18 = .ok (.iload_n 1, 1) := by decide +kernel
theorem dX1_startAnew_19 : decode cX1_startAnew 19 = .ok (.invokevirtual 36, 3) := by decide +kernel
theorem dX1_startAnew_22 : decode cX1_startAnew 22 = .ok (.iinc 1 1, 3) := by decide +kernel
theorem dX1_startAnew_25 : decode cX1_startAnew 25 = .ok (.goto (-18), 3) := by decide +kernel
theorem dX1_startAnew_28 : decode cX1_startAnew 28 = .ok (.return_, 1) := by decide +kernel
theorem dX1_addGuard_0 : decode cX1_addGuard 0 = .ok (.aload_n 0, 1) := by decide +kernel
theorem dX1_addGuard_1 : decode cX1_addGuard 1 = .ok (.getfield 32, 3) := by decide +kernel
theorem dX1_addGuard_4 : decode cX1_addGuard 4 = .ok (.bipush 6, 2) := by decide +kernel
theorem dX1_addGuard_6 : decode cX1_addGuard 6 = .ok (.if_icmp .ge 28, 3) := by decide +kernel
theorem dX1_addGuard_9 : decode cX1_addGuard 9 = .ok (.aload_n 0, 1) := by decide +kernel
theorem dX1_addGuard_10 : decode cX1_addGuard 10 = .ok (.getfield 11, 3) := by decide +kernel
theorem dX1_addGuard_13 : decode cX1_addGuard 13 = .ok (.aload_n 0, 1) := by decide +kernel
theorem dX1_addGuard_14 : decode cX1_addGuard 14 = .ok (.getfield 32, 3) := by decide +kernel
theorem dX1_addGuard_17 : decode cX1_addGuard 17 = .ok (.aaload, 1) := by decide +kernel
theorem dX1_addGuard_18 : decode cX1_addGuard 18 = .ok (.iload_n 1, 1) := by decide +kernel
theorem dX1_addGuard_19 : decode cX1_addGuard 19 = .ok (.iload_n 2, 1) := by decide +kernel
theorem dX1_addGuard_20 : decode cX1_addGuard 20 = .ok (.iload_n 3, 1) := by decide +kernel
theorem dX1_addGuard_21 : decode cX1_addGuard 21 = .ok (.invokevirtual 40, 3) := by decide +kernel
theorem dX1_addGuard_24 : decode cX1_addGuard 24 = .ok (.aload_n 0, 1) := by decide +kernel
theorem dX1_addGuard_25 : decode cX1_addGuard 25 = .ok (.dup, 1) := by decide +kernel
theorem dX1_addGuard_26 : decode cX1_addGuard 26 = .ok (.getfield 32, 3) := by decide +kernel
theorem dX1_addGuard_29 : decode cX1_addGuard 29 = .ok (.iconst 1, 1) := by decide +kernel
theorem dX1_addGuard_30 : decode cX1_addGuard 30 = .ok (.iadd, 1) := by decide +kernel
theorem dX1_addGuard_31 : decode cX1_addGuard 31 = .ok (.putfield 32, 3) := by decide +kernel
theorem dX1_addGuard_34 : decode cX1_addGuard 34 = .ok (.return_, 1) := by decide +kernel
theorem dX1_holdsAt_0 : decode cX1_holdsAt 0 = .ok (.iconst 0, 1) := by decide +kernel
theorem dX1_holdsAt_1 : decode cX1_holdsAt 1 = .ok (.istore_n 2, 1) := by decide +kernel
theorem dX1_holdsAt_2 : decode cX1_holdsAt 2 = .ok (.iload_n 2, 1) := by decide +kernel
theorem dX1_holdsAt_3 : decode cX1_holdsAt 3 = .ok (.aload_n 0, 1) := by decide +kernel
theorem dX1_holdsAt_4 : decode cX1_holdsAt 4 = .ok (.getfield 32, 3) := by decide +kernel
theorem dX1_holdsAt_7 : decode cX1_holdsAt 7 = .ok (.if_icmp .ge 26, 3) := by decide +kernel
theorem dX1_holdsAt_10 : decode cX1_holdsAt 10 = .ok (.aload_n 0, 1) := by decide +kernel
theorem dX1_holdsAt_11 : decode cX1_holdsAt 11 = .ok (.getfield 11, 3) := by decide +kernel
theorem dX1_holdsAt_14 : decode cX1_holdsAt 14 = .ok (.iload_n 2, 1) := by decide +kernel
theorem dX1_holdsAt_15 : decode cX1_holdsAt 15 = .ok (.aaload, 1) := by decide +kernel
theorem dX1_holdsAt_16 : decode cX1_holdsAt 16 = .ok (.aload_n 1, 1) := by decide +kernel
theorem dX1_holdsAt_17 : decode cX1_holdsAt 17 = .ok (.invokevirtual 44, 3) := by decide +kernel
theorem dX1_holdsAt_20 : decode cX1_holdsAt 20 = .ok (.lconst 0, 1) := by decide +kernel
theorem dX1_holdsAt_21 : decode cX1_holdsAt 21 = .ok (.lcmp, 1) := by decide +kernel
theorem dX1_holdsAt_22 : decode cX1_holdsAt 22 = .ok (.ifCond .ge 5, 3) := by decide +kernel
theorem dX1_holdsAt_25 : decode cX1_holdsAt 25 = .ok (.iconst 0, 1) := by decide +kernel
theorem dX1_holdsAt_26 : decode cX1_holdsAt 26 = .ok (.ireturn, 1) := by decide +kernel
theorem dX1_holdsAt_27 : decode cX1_holdsAt 27 = .ok (.iinc 2 1, 3) := by decide +kernel
theorem dX1_holdsAt_30 : decode cX1_holdsAt 30 = .ok (.goto (-28), 3) := by decide +kernel
theorem dX1_holdsAt_33 : decode cX1_holdsAt 33 = .ok (.iconst 1, 1) := by decide +kernel
theorem dX1_holdsAt_34 : decode cX1_holdsAt 34 = .ok (.ireturn, 1) := by decide +kernel
theorem dX1_isPassedOver_0 : decode cX1_isPassedOver 0 = .ok (.iconst 0, 1) := by decide +kernel
theorem dX1_isPassedOver_1 : decode cX1_isPassedOver 1 = .ok (.istore_n 2, 1) := by decide +kernel
theorem dX1_isPassedOver_2 : decode cX1_isPassedOver 2 = .ok (.iload_n 2, 1) := by decide +kernel
theorem dX1_isPassedOver_3 : decode cX1_isPassedOver 3 = .ok (.aload_n 0, 1) := by decide +kernel
theorem dX1_isPassedOver_4 : decode cX1_isPassedOver 4 = .ok (.getfield 32, 3) := by decide +kernel
theorem dX1_isPassedOver_7 : decode cX1_isPassedOver 7 = .ok (.if_icmp .ge 37, 3) := by decide +kernel
theorem dX1_isPassedOver_10 : decode cX1_isPassedOver 10 = .ok (.aload_n 0, 1) := by decide +kernel
theorem dX1_isPassedOver_11 : decode cX1_isPassedOver 11 = .ok (.getfield 11, 3) := by decide +kernel
theorem dX1_isPassedOver_14 : decode cX1_isPassedOver 14 = .ok (.iload_n 2, 1) := by decide +kernel
theorem dX1_isPassedOver_15 : decode cX1_isPassedOver 15 = .ok (.aaload, 1) := by decide +kernel
theorem dX1_isPassedOver_16 : decode cX1_isPassedOver 16 = .ok (.aload_n 1, 1) := by decide +kernel
theorem dX1_isPassedOver_17 : decode cX1_isPassedOver 17 = .ok (.iconst 1, 1) := by decide +kernel
theorem dX1_isPassedOver_18 : decode cX1_isPassedOver 18 = .ok (.invokevirtual 48, 3) := by decide +kernel
theorem dX1_isPassedOver_21 : decode cX1_isPassedOver 21 = .ok (.lstore_n 3, 1) := by decide +kernel
theorem dX1_isPassedOver_22 : decode cX1_isPassedOver 22 = .ok (.lload_n 3, 1) := by decide +kernel
theorem dX1_isPassedOver_23 : decode cX1_isPassedOver 23 = .ok (.ldc2_w 52, 3) := by decide +kernel
theorem dX1_isPassedOver_26 : decode cX1_isPassedOver 26 = .ok (.lcmp, 1) := by decide +kernel
theorem dX1_isPassedOver_27 : decode cX1_isPassedOver 27 = .ok (.ifCond .eq 11, 3) := by decide +kernel
theorem dX1_isPassedOver_30 : decode cX1_isPassedOver 30 = .ok (.lload_n 3, 1) := by decide +kernel
theorem dX1_isPassedOver_31 : decode cX1_isPassedOver 31 = .ok (.lconst 0, 1) := by decide +kernel
theorem dX1_isPassedOver_32 : decode cX1_isPassedOver 32 = .ok (.lcmp, 1) := by decide +kernel
theorem dX1_isPassedOver_33 : decode cX1_isPassedOver 33 = .ok (.ifCond .ge 5, 3) := by decide +kernel
theorem dX1_isPassedOver_36 : decode cX1_isPassedOver 36 = .ok (.iconst 1, 1) := by decide +kernel
theorem dX1_isPassedOver_37 : decode cX1_isPassedOver 37 = .ok (.ireturn, 1) := by decide +kernel
theorem dX1_isPassedOver_38 : decode cX1_isPassedOver 38 = .ok (.iinc 2 1, 3) := by decide +kernel
theorem dX1_isPassedOver_41 : decode cX1_isPassedOver 41 = .ok (.goto (-39), 3) := by decide +kernel
theorem dX1_isPassedOver_44 : decode cX1_isPassedOver 44 = .ok (.iconst 0, 1) := by decide +kernel
theorem dX1_isPassedOver_45 : decode cX1_isPassedOver 45 = .ok (.ireturn, 1) := by decide +kernel
theorem dX11_isBeyond_0 : decode cX11_isBeyond 0 = .ok (.lload_n 0, 1) := by decide +kernel
theorem dX11_isBeyond_1 : decode cX11_isBeyond 1 = .ok (.lload_n 2, 1) := by decide +kernel
theorem dX11_isBeyond_2 : decode cX11_isBeyond 2 = .ok (.lneg, 1) := by decide +kernel
theorem dX11_isBeyond_3 : decode cX11_isBeyond 3 = .ok (.lcmp, 1) := by decide +kernel
theorem dX11_isBeyond_4 : decode cX11_isBeyond 4 = .ok (.ifCond .lt 9, 3) := by decide +kernel
theorem dX11_isBeyond_7 : decode cX11_isBeyond 7 = .ok (.lload_n 0, 1) := by decide +kernel
theorem dX11_isBeyond_8 : decode cX11_isBeyond 8 = .ok (.lload_n 2, 1) := by decide +kernel
theorem dX11_isBeyond_9 : decode cX11_isBeyond 9 = .ok (.lcmp, 1) := by decide +kernel
theorem dX11_isBeyond_10 : decode cX11_isBeyond 10 = .ok (.ifCond .le 7, 3) := by decide +kernel
theorem dX11_isBeyond_13 : decode cX11_isBeyond 13 = .ok (.iconst 1, 1) := by decide +kernel
theorem dX11_isBeyond_14 : decode cX11_isBeyond 14 = .ok (.goto 4, 3) := by decide +kernel
theorem dX11_isBeyond_17 : decode cX11_isBeyond 17 = .ok (.iconst 0, 1) := by decide +kernel
theorem dX11_isBeyond_18 : decode cX11_isBeyond 18 = .ok (.ireturn, 1) := by decide +kernel
theorem dX1_move_0 : decode cX1_move 0 = .ok (.aload_n 0, 1) := by decide +kernel
theorem dX1_move_1 : decode cX1_move 1 = .ok (.getfield 17, 3) := by decide +kernel
theorem dX1_move_4 : decode cX1_move 4 = .ok (.iconst 0, 1) := by decide +kernel
theorem dX1_move_5 : decode cX1_move 5 = .ok (.aaload, 1) := by decide +kernel
theorem dX1_move_6 : decode cX1_move 6 = .ok (.aload_n 1, 1) := by decide +kernel
theorem dX1_move_7 : decode cX1_move 7 = .ok (.invokevirtual 44, 3) := by decide +kernel
theorem dX1_move_10 : decode cX1_move 10 = .ok (.lstore_n 2, 1) := by decide +kernel
theorem dX1_move_11 : decode cX1_move 11 = .ok (.aload_n 0, 1) := by decide +kernel
theorem dX1_move_12 : decode cX1_move 12 = .ok (.getfield 17, 3) := by decide +kernel
theorem dX1_move_15 : decode cX1_move 15 = .ok (.iconst 1, 1) := by decide +kernel
theorem dX1_move_16 : decode cX1_move 16 = .ok (.aaload, 1) := by decide +kernel
theorem dX1_move_17 : decode cX1_move 17 = .ok (.aload_n 1, 1) := by decide +kernel
theorem dX1_move_18 : decode cX1_move 18 = .ok (.invokevirtual 44, 3) := by decide +kernel
theorem dX1_move_21 : decode cX1_move 21 = .ok (.lstore 4, 2) := by decide +kernel
theorem dX1_move_23 : decode cX1_move 23 = .ok (.aload_n 0, 1) := by decide +kernel
theorem dX1_move_24 : decode cX1_move 24 = .ok (.getfield 17, 3) := by decide +kernel
theorem dX1_move_27 : decode cX1_move 27 = .ok (.iconst 2, 1) := by decide +kernel
theorem dX1_move_28 : decode cX1_move 28 = .ok (.aaload, 1) := by decide +kernel
theorem dX1_move_29 : decode cX1_move 29 = .ok (.aload_n 1, 1) := by decide +kernel
theorem dX1_move_30 : decode cX1_move 30 = .ok (.invokevirtual 44, 3) := by decide +kernel
theorem dX1_move_33 : decode cX1_move 33 = .ok (.lstore 6, 2) := by decide +kernel
theorem dX1_move_35 : decode cX1_move 35 = .ok (.lload_n 2, 1) := by decide +kernel
theorem dX1_move_36 : decode cX1_move 36 = .ok (.ldc2_w 54, 3) := by decide +kernel
theorem dX1_move_39 : decode cX1_move 39 = .ok (.invokestatic 56, 3) := by decide +kernel
theorem dX1_move_42 : decode cX1_move 42 = .ok (.ifCond .ne 25, 3) := by decide +kernel
theorem dX1_move_45 : decode cX1_move 45 = .ok (.lload 4, 2) := by decide +kernel
theorem dX1_move_47 : decode cX1_move 47 = .ok (.ldc2_w 54, 3) := by decide +kernel
theorem dX1_move_50 : decode cX1_move 50 = .ok (.invokestatic 56, 3) := by decide +kernel
theorem dX1_move_53 : decode cX1_move 53 = .ok (.ifCond .ne 14, 3) := by decide +kernel
theorem dX1_move_56 : decode cX1_move 56 = .ok (.lload 6, 2) := by decide +kernel
theorem dX1_move_58 : decode cX1_move 58 = .ok (.ldc2_w 54, 3) := by decide +kernel
theorem dX1_move_61 : decode cX1_move 61 = .ok (.invokestatic 56, 3) := by decide +kernel
theorem dX1_move_64 : decode cX1_move 64 = .ok (.ifCond .eq 5, 3) := by decide +kernel
theorem dX1_move_67 : decode cX1_move 67 = .ok (.iconst 0, 1) := by decide +kernel
theorem dX1_move_68 : decode cX1_move 68 = .ok (.ireturn, 1) := by decide +kernel
theorem dX1_move_69 : decode cX1_move 69 = .ok (.aload_n 1, 1) := by decide +kernel
theorem dX1_move_70 : decode cX1_move 70 = .ok (.iconst 0, 1) := by decide +kernel
theorem dX1_move_71 : decode cX1_move 71 = .ok (.lload_n 2, 1) := by decide +kernel
theorem dX1_move_72 : decode cX1_move 72 = .ok (.lastore, 1) := by decide +kernel
theorem dX1_move_73 : decode cX1_move 73 = .ok (.aload_n 1, 1) := by decide +kernel
theorem dX1_move_74 : decode cX1_move 74 = .ok (.iconst 1, 1) := by decide +kernel
theorem dX1_move_75 : decode cX1_move 75 = .ok (.lload 4, 2) := by decide +kernel
theorem dX1_move_77 : decode cX1_move 77 = .ok (.lastore, 1) := by decide +kernel
theorem dX1_move_78 : decode cX1_move 78 = .ok (.aload_n 1, 1) := by decide +kernel
theorem dX1_move_79 : decode cX1_move 79 = .ok (.iconst 2, 1) := by decide +kernel
theorem dX1_move_80 : decode cX1_move 80 = .ok (.lload 6, 2) := by decide +kernel
theorem dX1_move_82 : decode cX1_move 82 = .ok (.lastore, 1) := by decide +kernel
theorem dX1_move_83 : decode cX1_move 83 = .ok (.iconst 1, 1) := by decide +kernel
theorem dX1_move_84 : decode cX1_move 84 = .ok (.ireturn, 1) := by decide +kernel
theorem dX6_valueAt_0 : decode cX6_valueAt 0 = .ok (.aload_n 1, 1) := by decide +kernel
theorem dX6_valueAt_1 : decode cX6_valueAt 1 = .ok (.iconst 0, 1) := by decide +kernel
theorem dX6_valueAt_2 : decode cX6_valueAt 2 = .ok (.iaload, 1) := by decide +kernel
theorem dX6_valueAt_3 : decode cX6_valueAt 3 = .ok (.i2l, 1) := by decide +kernel
theorem dX6_valueAt_4 : decode cX6_valueAt 4 = .ok (.aload_n 0, 1) := by decide +kernel
theorem dX6_valueAt_5 : decode cX6_valueAt 5 = .ok (.getfield 9, 3) := by decide +kernel
theorem dX6_valueAt_8 : decode cX6_valueAt 8 = .ok (.iload_n 2, 1) := by decide +kernel
theorem dX6_valueAt_9 : decode cX6_valueAt 9 = .ok (.laload, 1) := by decide +kernel
theorem dX6_valueAt_10 : decode cX6_valueAt 10 = .ok (.lmul, 1) := by decide +kernel
theorem dX6_valueAt_11 : decode cX6_valueAt 11 = .ok (.aload_n 1, 1) := by decide +kernel
theorem dX6_valueAt_12 : decode cX6_valueAt 12 = .ok (.iconst 1, 1) := by decide +kernel
theorem dX6_valueAt_13 : decode cX6_valueAt 13 = .ok (.iaload, 1) := by decide +kernel
theorem dX6_valueAt_14 : decode cX6_valueAt 14 = .ok (.i2l, 1) := by decide +kernel
theorem dX6_valueAt_15 : decode cX6_valueAt 15 = .ok (.aload_n 0, 1) := by decide +kernel
theorem dX6_valueAt_16 : decode cX6_valueAt 16 = .ok (.getfield 9, 3) := by decide +kernel
theorem dX6_valueAt_19 : decode cX6_valueAt 19 = .ok (.iload_n 2, 1) := by decide +kernel
theorem dX6_valueAt_20 : decode cX6_valueAt 20 = .ok (.iconst 1, 1) := by decide +kernel
theorem dX6_valueAt_21 : decode cX6_valueAt 21 = .ok (.iadd, 1) := by decide +kernel
theorem dX6_valueAt_22 : decode cX6_valueAt 22 = .ok (.laload, 1) := by decide +kernel
theorem dX6_valueAt_23 : decode cX6_valueAt 23 = .ok (.lmul, 1) := by decide +kernel
theorem dX6_valueAt_24 : decode cX6_valueAt 24 = .ok (.ladd, 1) := by decide +kernel
theorem dX6_valueAt_25 : decode cX6_valueAt 25 = .ok (.aload_n 1, 1) := by decide +kernel
theorem dX6_valueAt_26 : decode cX6_valueAt 26 = .ok (.iconst 2, 1) := by decide +kernel
theorem dX6_valueAt_27 : decode cX6_valueAt 27 = .ok (.iaload, 1) := by decide +kernel
theorem dX6_valueAt_28 : decode cX6_valueAt 28 = .ok (.i2l, 1) := by decide +kernel
theorem dX6_valueAt_29 : decode cX6_valueAt 29 = .ok (.aload_n 0, 1) := by decide +kernel
theorem dX6_valueAt_30 : decode cX6_valueAt 30 = .ok (.getfield 9, 3) := by decide +kernel
theorem dX6_valueAt_33 : decode cX6_valueAt 33 = .ok (.iload_n 2, 1) := by decide +kernel
theorem dX6_valueAt_34 : decode cX6_valueAt 34 = .ok (.iconst 2, 1) := by decide +kernel
theorem dX6_valueAt_35 : decode cX6_valueAt 35 = .ok (.iadd, 1) := by decide +kernel
theorem dX6_valueAt_36 : decode cX6_valueAt 36 = .ok (.laload, 1) := by decide +kernel
theorem dX6_valueAt_37 : decode cX6_valueAt 37 = .ok (.lmul, 1) := by decide +kernel
theorem dX6_valueAt_38 : decode cX6_valueAt 38 = .ok (.ladd, 1) := by decide +kernel
theorem dX6_valueAt_39 : decode cX6_valueAt 39 = .ok (.lreturn, 1) := by decide +kernel
theorem dX6_isBoundBelow_0 : decode cX6_isBoundBelow 0 = .ok (.iconst 4, 1) := by decide +kernel
theorem dX6_isBoundBelow_1 : decode cX6_isBoundBelow 1 = .ok (.aload_n 0, 1) := by decide +kernel
theorem dX6_isBoundBelow_2 : decode cX6_isBoundBelow 2 = .ok (.getfield 17, 3) := by decide +kernel
theorem dX6_isBoundBelow_5 : decode cX6_isBoundBelow 5 = .ok (.imul, 1) := by decide +kernel
theorem dX6_isBoundBelow_6 : decode cX6_isBoundBelow 6 = .ok (.istore_n 2, 1) := by decide +kernel
theorem dX6_isBoundBelow_7 : decode cX6_isBoundBelow 7 = .ok (.iload_n 2, 1) := by decide +kernel
theorem dX6_isBoundBelow_8 : decode cX6_isBoundBelow 8 = .ok (.iconst 4, 1) := by decide +kernel
theorem dX6_isBoundBelow_9 : decode cX6_isBoundBelow 9 = .ok (.aload_n 0, 1) := by decide +kernel
theorem dX6_isBoundBelow_10 : decode cX6_isBoundBelow 10 = .ok (.getfield 13, 3) := by decide +kernel
theorem dX6_isBoundBelow_13 : decode cX6_isBoundBelow 13 = .ok (.imul, 1) := by decide +kernel
theorem dX6_isBoundBelow_14 : decode cX6_isBoundBelow 14 = .ok (.if_icmp .ge 22, 3) := by decide +kernel
theorem dX6_isBoundBelow_17 : decode cX6_isBoundBelow 17 = .ok (.aload_n 0, 1) := by decide +kernel
theorem dX6_isBoundBelow_18 : decode cX6_isBoundBelow 18 = .ok (.aload_n 1, 1) := by decide +kernel
theorem dX6_isBoundBelow_19 : decode cX6_isBoundBelow 19 = .ok (.iload_n 2, 1) := by decide +kernel
theorem dX6_isBoundBelow_20 : decode cX6_isBoundBelow 20 = .ok (.invokevirtual 30, 3) := by decide +kernel
theorem dX6_isBoundBelow_23 : decode cX6_isBoundBelow 23 = .ok (.lconst 0, 1) := by decide +kernel
theorem dX6_isBoundBelow_24 : decode cX6_isBoundBelow 24 = .ok (.lcmp, 1) := by decide +kernel
theorem dX6_isBoundBelow_25 : decode cX6_isBoundBelow 25 = .ok (.ifCond .ge 5, 3) := by decide +kernel
theorem dX6_isBoundBelow_28 : decode cX6_isBoundBelow 28 = .ok (.iconst 0, 1) := by decide +kernel
theorem dX6_isBoundBelow_29 : decode cX6_isBoundBelow 29 = .ok (.ireturn, 1) := by decide +kernel
theorem dX6_isBoundBelow_30 : decode cX6_isBoundBelow 30 = .ok (.iinc 2 4, 3) := by decide +kernel
theorem dX6_isBoundBelow_33 : decode cX6_isBoundBelow 33 = .ok (.goto (-26), 3) := by decide +kernel
theorem dX6_isBoundBelow_36 : decode cX6_isBoundBelow 36 = .ok (.iconst 1, 1) := by decide +kernel
theorem dX6_isBoundBelow_37 : decode cX6_isBoundBelow 37 = .ok (.ireturn, 1) := by decide +kernel
theorem dX1_binds_0 : decode cX1_binds 0 = .ok (.aload_n 0, 1) := by decide +kernel
theorem dX1_binds_1 : decode cX1_binds 1 = .ok (.getfield 23, 3) := by decide +kernel
theorem dX1_binds_4 : decode cX1_binds 4 = .ok (.aload_n 1, 1) := by decide +kernel
theorem dX1_binds_5 : decode cX1_binds 5 = .ok (.invokevirtual 60, 3) := by decide +kernel
theorem dX1_binds_8 : decode cX1_binds 8 = .ok (.ireturn, 1) := by decide +kernel
theorem dX6_isNowherePositive_0 : decode cX6_isNowherePositive 0 = .ok (.iconst 0, 1) := by decide +kernel
theorem dX6_isNowherePositive_1 : decode cX6_isNowherePositive 1 = .ok (.istore 4, 2) := by decide +kernel
theorem dX6_isNowherePositive_3 : decode cX6_isNowherePositive 3 = .ok (.iload 4, 2) := by decide +kernel
theorem dX6_isNowherePositive_5 : decode cX6_isNowherePositive 5 = .ok (.iconst 4, 1) := by decide +kernel
theorem dX6_isNowherePositive_6 : decode cX6_isNowherePositive 6 = .ok (.aload_n 0, 1) := by decide +kernel
theorem dX6_isNowherePositive_7 : decode cX6_isNowherePositive 7 = .ok (.getfield 13, 3) := by decide +kernel
theorem dX6_isNowherePositive_10 : decode cX6_isNowherePositive 10 = .ok (.imul, 1) := by decide +kernel
theorem dX6_isNowherePositive_11 : decode cX6_isNowherePositive 11 = .ok (.if_icmp .ge 67, 3) := by decide +kernel
theorem dX6_isNowherePositive_14 : decode cX6_isNowherePositive 14 = .ok (.aload_n 1, 1) := by decide +kernel
theorem dX6_isNowherePositive_15 : decode cX6_isNowherePositive 15 = .ok (.iconst 0, 1) := by decide +kernel
theorem dX6_isNowherePositive_16 : decode cX6_isNowherePositive 16 = .ok (.laload, 1) := by decide +kernel
theorem dX6_isNowherePositive_17 : decode cX6_isNowherePositive 17 = .ok (.aload_n 0, 1) := by decide +kernel
theorem dX6_isNowherePositive_18 : decode cX6_isNowherePositive 18 = .ok (.getfield 9, 3) := by decide +kernel
theorem dX6_isNowherePositive_21 : decode cX6_isNowherePositive 21 = .ok (.iload 4, 2) := by decide +kernel
theorem dX6_isNowherePositive_23 : decode cX6_isNowherePositive 23 = .ok (.laload, 1) := by decide +kernel
theorem dX6_isNowherePositive_24 : decode cX6_isNowherePositive 24 = .ok (.lmul, 1) := by decide +kernel
theorem dX6_isNowherePositive_25 : decode cX6_isNowherePositive 25 = .ok (.aload_n 1, 1) := by decide +kernel
theorem dX6_isNowherePositive_26 : decode cX6_isNowherePositive 26 = .ok (.iconst 1, 1) := by decide +kernel
theorem dX6_isNowherePositive_27 : decode cX6_isNowherePositive 27 = .ok (.laload, 1) := by decide +kernel
theorem dX6_isNowherePositive_28 : decode cX6_isNowherePositive 28 = .ok (.aload_n 0, 1) := by decide +kernel
theorem dX6_isNowherePositive_29 : decode cX6_isNowherePositive 29 = .ok (.getfield 9, 3) := by decide +kernel
theorem dX6_isNowherePositive_32 : decode cX6_isNowherePositive 32 = .ok (.iload 4, 2) := by decide +kernel
theorem dX6_isNowherePositive_34 : decode cX6_isNowherePositive 34 = .ok (.iconst 1, 1) := by decide +kernel
theorem dX6_isNowherePositive_35 : decode cX6_isNowherePositive 35 = .ok (.iadd, 1) := by decide +kernel
theorem dX6_isNowherePositive_36 : decode cX6_isNowherePositive 36 = .ok (.laload, 1) := by decide +kernel
theorem dX6_isNowherePositive_37 : decode cX6_isNowherePositive 37 = .ok (.lmul, 1) := by decide +kernel
theorem dX6_isNowherePositive_38 : decode cX6_isNowherePositive 38 = .ok (.ladd, 1) := by decide +kernel
theorem dX6_isNowherePositive_39 : decode cX6_isNowherePositive 39 = .ok (.aload_n 1, 1) := by decide +kernel
theorem dX6_isNowherePositive_40 : decode cX6_isNowherePositive 40 = .ok (.iconst 2, 1) := by decide +kernel
theorem dX6_isNowherePositive_41 : decode cX6_isNowherePositive 41 = .ok (.laload, 1) := by decide +kernel
theorem dX6_isNowherePositive_42 : decode cX6_isNowherePositive 42 = .ok (.aload_n 0, 1) := by decide +kernel
theorem dX6_isNowherePositive_43 : decode cX6_isNowherePositive 43 = .ok (.getfield 9, 3) := by decide +kernel
theorem dX6_isNowherePositive_46 : decode cX6_isNowherePositive 46 = .ok (.iload 4, 2) := by decide +kernel
theorem dX6_isNowherePositive_48 : decode cX6_isNowherePositive 48 = .ok (.iconst 2, 1) := by decide +kernel
theorem dX6_isNowherePositive_49 : decode cX6_isNowherePositive 49 = .ok (.iadd, 1) := by decide +kernel
theorem dX6_isNowherePositive_50 : decode cX6_isNowherePositive 50 = .ok (.laload, 1) := by decide +kernel
theorem dX6_isNowherePositive_51 : decode cX6_isNowherePositive 51 = .ok (.lmul, 1) := by decide +kernel
theorem dX6_isNowherePositive_52 : decode cX6_isNowherePositive 52 = .ok (.ladd, 1) := by decide +kernel
theorem dX6_isNowherePositive_53 : decode cX6_isNowherePositive 53 = .ok (.lload_n 2, 1) := by decide +kernel
theorem dX6_isNowherePositive_54 : decode cX6_isNowherePositive 54 = .ok (.aload_n 0, 1) := by decide +kernel
theorem dX6_isNowherePositive_55 : decode cX6_isNowherePositive 55 = .ok (.getfield 9, 3) := by decide +kernel
theorem dX6_isNowherePositive_58 : decode cX6_isNowherePositive 58 = .ok (.iload 4, 2) := by decide +kernel
theorem dX6_isNowherePositive_60 : decode cX6_isNowherePositive 60 = .ok (.iconst 3, 1) := by decide +kernel
theorem dX6_isNowherePositive_61 : decode cX6_isNowherePositive 61 = .ok (.iadd, 1) := by decide +kernel
theorem dX6_isNowherePositive_62 : decode cX6_isNowherePositive 62 = .ok (.laload, 1) := by decide +kernel
theorem dX6_isNowherePositive_63 : decode cX6_isNowherePositive 63 = .ok (.lmul, 1) := by decide +kernel
theorem dX6_isNowherePositive_64 : decode cX6_isNowherePositive 64 = .ok (.ladd, 1) := by decide +kernel
theorem dX6_isNowherePositive_65 : decode cX6_isNowherePositive 65 = .ok (.lconst 0, 1) := by decide +kernel
theorem dX6_isNowherePositive_66 : decode cX6_isNowherePositive 66 = .ok (.lcmp, 1) := by decide +kernel
theorem dX6_isNowherePositive_67 : decode cX6_isNowherePositive 67 = .ok (.ifCond .le 5, 3) := by decide +kernel
theorem dX6_isNowherePositive_70 : decode cX6_isNowherePositive 70 = .ok (.iconst 0, 1) := by decide +kernel
theorem dX6_isNowherePositive_71 : decode cX6_isNowherePositive 71 = .ok (.ireturn, 1) := by decide +kernel
theorem dX6_isNowherePositive_72 : decode cX6_isNowherePositive 72 = .ok (.iinc 4 4, 3) := by decide +kernel
theorem dX6_isNowherePositive_75 : decode cX6_isNowherePositive 75 = .ok (.goto (-72), 3) := by decide +kernel
theorem dX6_isNowherePositive_78 : decode cX6_isNowherePositive 78 = .ok (.iconst 1, 1) := by decide +kernel
theorem dX6_isNowherePositive_79 : decode cX6_isNowherePositive 79 = .ok (.ireturn, 1) := by decide +kernel
theorem dX1_changesAtMost_0 : decode cX1_changesAtMost 0 = .ok (.iload_n 2, 1) := by decide +kernel
theorem dX1_changesAtMost_1 : decode cX1_changesAtMost 1 = .ok (.ineg, 1) := by decide +kernel
theorem dX1_changesAtMost_2 : decode cX1_changesAtMost 2 = .ok (.i2l, 1) := by decide +kernel
theorem dX1_changesAtMost_3 : decode cX1_changesAtMost 3 = .ok (.lstore_n 3, 1) := by decide +kernel
theorem dX1_changesAtMost_4 : decode cX1_changesAtMost 4 = .ok (.iconst 0, 1) := by decide +kernel
theorem dX1_changesAtMost_5 : decode cX1_changesAtMost 5 = .ok (.istore 5, 2) := by decide +kernel
theorem dX1_changesAtMost_7 : decode cX1_changesAtMost 7 = .ok (.iload 5, 2) := by decide +kernel
theorem dX1_changesAtMost_9 : decode cX1_changesAtMost 9 = .ok (.iconst 3, 1) := by decide +kernel
theorem dX1_changesAtMost_10 : decode cX1_changesAtMost 10 = .ok (.if_icmp .ge 22, 3) := by decide +kernel
theorem dX1_changesAtMost_13 : decode cX1_changesAtMost 13 = .ok (.aload_n 0, 1) := by decide +kernel
theorem dX1_changesAtMost_14 : decode cX1_changesAtMost 14 = .ok (.getfield 27, 3) := by decide +kernel
theorem dX1_changesAtMost_17 : decode cX1_changesAtMost 17 = .ok (.iload 5, 2) := by decide +kernel
theorem dX1_changesAtMost_19 : decode cX1_changesAtMost 19 = .ok (.aload_n 1, 1) := by decide +kernel
theorem dX1_changesAtMost_20 : decode cX1_changesAtMost 20 = .ok (.iload 5, 2) := by decide +kernel
theorem dX1_changesAtMost_22 : decode cX1_changesAtMost 22 = .ok (.iaload, 1) := by decide +kernel
theorem dX1_changesAtMost_23 : decode cX1_changesAtMost 23 = .ok (.ineg, 1) := by decide +kernel
theorem dX1_changesAtMost_24 : decode cX1_changesAtMost 24 = .ok (.i2l, 1) := by decide +kernel
theorem dX1_changesAtMost_25 : decode cX1_changesAtMost 25 = .ok (.lastore, 1) := by decide +kernel
theorem dX1_changesAtMost_26 : decode cX1_changesAtMost 26 = .ok (.iinc 5 1, 3) := by decide +kernel
theorem dX1_changesAtMost_29 : decode cX1_changesAtMost 29 = .ok (.goto (-22), 3) := by decide +kernel
theorem dX1_changesAtMost_32 : decode cX1_changesAtMost 32 = .ok (.iconst 0, 1) := by decide +kernel
theorem dX1_changesAtMost_33 : decode cX1_changesAtMost 33 = .ok (.istore 5, 2) := by decide +kernel
theorem dX1_changesAtMost_35 : decode cX1_changesAtMost 35 = .ok (.iload 5, 2) := by decide +kernel
theorem dX1_changesAtMost_37 : decode cX1_changesAtMost 37 = .ok (.iconst 3, 1) := by decide +kernel
theorem dX1_changesAtMost_38 : decode cX1_changesAtMost 38 = .ok (.if_icmp .ge 76, 3) := by decide +kernel
theorem dX1_changesAtMost_41 : decode cX1_changesAtMost 41 = .ok (.aload_n 0, 1) := by decide +kernel
theorem dX1_changesAtMost_42 : decode cX1_changesAtMost 42 = .ok (.getfield 17, 3) := by decide +kernel
theorem dX1_changesAtMost_45 : decode cX1_changesAtMost 45 = .ok (.iload 5, 2) := by decide +kernel
theorem dX1_changesAtMost_47 : decode cX1_changesAtMost 47 = .ok (.aaload, 1) := by decide +kernel
theorem dX1_changesAtMost_48 : decode cX1_changesAtMost 48 = .ok (.getfield 64, 3) := by decide +kernel
theorem dX1_changesAtMost_51 : decode cX1_changesAtMost 51 = .ok (.astore 6, 2) := by decide +kernel
theorem dX1_changesAtMost_53 : decode cX1_changesAtMost 53 = .ok (.iconst 0, 1) := by decide +kernel
theorem dX1_changesAtMost_54 : decode cX1_changesAtMost 54 = .ok (.istore 7, 2) := by decide +kernel
theorem dX1_changesAtMost_56 : decode cX1_changesAtMost 56 = .ok (.iload 7, 2) := by decide +kernel
theorem dX1_changesAtMost_58 : decode cX1_changesAtMost 58 = .ok (.iconst 3, 1) := by decide +kernel
theorem dX1_changesAtMost_59 : decode cX1_changesAtMost 59 = .ok (.if_icmp .ge 30, 3) := by decide +kernel
theorem dX1_changesAtMost_62 : decode cX1_changesAtMost 62 = .ok (.aload_n 0, 1) := by decide +kernel
theorem dX1_changesAtMost_63 : decode cX1_changesAtMost 63 = .ok (.getfield 27, 3) := by decide +kernel
theorem dX1_changesAtMost_66 : decode cX1_changesAtMost 66 = .ok (.iload 7, 2) := by decide +kernel
theorem dX1_changesAtMost_68 : decode cX1_changesAtMost 68 = .ok (.dup2, 1) := by decide +kernel
theorem dX1_changesAtMost_69 : decode cX1_changesAtMost 69 = .ok (.laload, 1) := by decide +kernel
theorem dX1_changesAtMost_70 : decode cX1_changesAtMost 70 = .ok (.aload_n 1, 1) := by decide +kernel
theorem dX1_changesAtMost_71 : decode cX1_changesAtMost 71 = .ok (.iload 5, 2) := by decide +kernel
theorem dX1_changesAtMost_73 : decode cX1_changesAtMost 73 = .ok (.iaload, 1) := by decide +kernel
theorem dX1_changesAtMost_74 : decode cX1_changesAtMost 74 = .ok (.aload 6, 2) := by decide +kernel
theorem dX1_changesAtMost_76 : decode cX1_changesAtMost 76 = .ok (.iload 7, 2) := by decide +kernel
theorem dX1_changesAtMost_78 : decode cX1_changesAtMost 78 = .ok (.iaload, 1) := by decide +kernel
theorem dX1_changesAtMost_79 : decode cX1_changesAtMost 79 = .ok (.imul, 1) := by decide +kernel
theorem dX1_changesAtMost_80 : decode cX1_changesAtMost 80 = .ok (.i2l, 1) := by decide +kernel
theorem dX1_changesAtMost_81 : decode cX1_changesAtMost 81 = .ok (.ladd, 1) := by decide +kernel
theorem dX1_changesAtMost_82 : decode cX1_changesAtMost 82 = .ok (.lastore, 1) := by decide +kernel
theorem dX1_changesAtMost_83 : decode cX1_changesAtMost 83 = .ok (.iinc 7 1, 3) := by decide +kernel
theorem dX1_changesAtMost_86 : decode cX1_changesAtMost 86 = .ok (.goto (-30), 3) := by decide +kernel
theorem dX1_changesAtMost_89 : decode cX1_changesAtMost 89 = .ok (.lload_n 3, 1) := by decide +kernel
theorem dX1_changesAtMost_90 : decode cX1_changesAtMost 90 = .ok (.aload_n 1, 1) := by decide +kernel
theorem dX1_changesAtMost_91 : decode cX1_changesAtMost 91 = .ok (.iload 5, 2) := by decide +kernel
theorem dX1_changesAtMost_93 : decode cX1_changesAtMost 93 = .ok (.iaload, 1) := by decide +kernel
theorem dX1_changesAtMost_94 : decode cX1_changesAtMost 94 = .ok (.aload_n 0, 1) := by decide +kernel
theorem dX1_changesAtMost_95 : decode cX1_changesAtMost 95 = .ok (.getfield 17, 3) := by decide +kernel
theorem dX1_changesAtMost_98 : decode cX1_changesAtMost 98 = .ok (.iload 5, 2) := by decide +kernel
theorem dX1_changesAtMost_100 : decode cX1_changesAtMost 100 = .ok (.aaload, 1) := by decide +kernel
theorem dX1_changesAtMost_101 : decode cX1_changesAtMost 101 = .ok (.getfield 68, 3) := by decide +kernel
theorem dX1_changesAtMost_104 : decode cX1_changesAtMost 104 = .ok (.imul, 1) := by decide +kernel
theorem dX1_changesAtMost_105 : decode cX1_changesAtMost 105 = .ok (.i2l, 1) := by decide +kernel
theorem dX1_changesAtMost_106 : decode cX1_changesAtMost 106 = .ok (.ladd, 1) := by decide +kernel
theorem dX1_changesAtMost_107 : decode cX1_changesAtMost 107 = .ok (.lstore_n 3, 1) := by decide +kernel
theorem dX1_changesAtMost_108 : decode cX1_changesAtMost 108 = .ok (.iinc 5 1, 3) := by decide +kernel
theorem dX1_changesAtMost_111 : decode cX1_changesAtMost 111 = .ok (.goto (-76), 3) := by decide +kernel
theorem dX1_changesAtMost_114 : decode cX1_changesAtMost 114 = .ok (.aload_n 0, 1) := by decide +kernel
theorem dX1_changesAtMost_115 : decode cX1_changesAtMost 115 = .ok (.getfield 23, 3) := by decide +kernel
theorem dX1_changesAtMost_118 : decode cX1_changesAtMost 118 = .ok (.aload_n 0, 1) := by decide +kernel
theorem dX1_changesAtMost_119 : decode cX1_changesAtMost 119 = .ok (.getfield 27, 3) := by decide +kernel
theorem dX1_changesAtMost_122 : decode cX1_changesAtMost 122 = .ok (.lload_n 3, 1) := by decide +kernel
theorem dX1_changesAtMost_123 : decode cX1_changesAtMost 123 = .ok (.invokevirtual 71, 3) := by decide +kernel
theorem dX1_changesAtMost_126 : decode cX1_changesAtMost 126 = .ok (.ireturn, 1) := by decide +kernel
theorem dX1_ranksBy_0 : decode cX1_ranksBy 0 = .ok (.aload_n 0, 1) := by decide +kernel
theorem dX1_ranksBy_1 : decode cX1_ranksBy 1 = .ok (.aload_n 1, 1) := by decide +kernel
theorem dX1_ranksBy_2 : decode cX1_ranksBy 2 = .ok (.invokevirtual 75, 3) := by decide +kernel
theorem dX1_ranksBy_5 : decode cX1_ranksBy 5 = .ok (.ifCond .eq 16, 3) := by decide +kernel
theorem dX1_ranksBy_8 : decode cX1_ranksBy 8 = .ok (.aload_n 0, 1) := by decide +kernel
theorem dX1_ranksBy_9 : decode cX1_ranksBy 9 = .ok (.aload_n 1, 1) := by decide +kernel
theorem dX1_ranksBy_10 : decode cX1_ranksBy 10 = .ok (.iconst (-1), 1) := by decide +kernel
theorem dX1_ranksBy_11 : decode cX1_ranksBy 11 = .ok (.invokevirtual 78, 3) := by decide +kernel
theorem dX1_ranksBy_14 : decode cX1_ranksBy 14 = .ok (.ifCond .eq 7, 3) := by decide +kernel
theorem dX1_ranksBy_17 : decode cX1_ranksBy 17 = .ok (.iconst 1, 1) := by decide +kernel
theorem dX1_ranksBy_18 : decode cX1_ranksBy 18 = .ok (.goto 4, 3) := by decide +kernel
theorem dX1_ranksBy_21 : decode cX1_ranksBy 21 = .ok (.iconst 0, 1) := by decide +kernel
theorem dX1_ranksBy_22 : decode cX1_ranksBy 22 = .ok (.ireturn, 1) := by decide +kernel
theorem dX10_start_0 : decode cX10_start 0 = .ok (.aload_n 0, 1) := by decide +kernel
theorem dX10_start_1 : decode cX10_start 1 = .ok (.iload_n 1, 1) := by decide +kernel
theorem dX10_start_2 : decode cX10_start 2 = .ok (.putfield 15, 3) := by decide +kernel
theorem dX10_start_5 : decode cX10_start 5 = .ok (.aload_n 0, 1) := by decide +kernel
theorem dX10_start_6 : decode cX10_start 6 = .ok (.iload_n 2, 1) := by decide +kernel
theorem dX10_start_7 : decode cX10_start 7 = .ok (.iconst 1, 1) := by decide +kernel
theorem dX10_start_8 : decode cX10_start 8 = .ok (.if_icmp .le 10, 3) := by decide +kernel
theorem dX10_start_11 : decode cX10_start 11 = .ok (.aload_n 0, 1) := by decide +kernel
theorem dX10_start_12 : decode cX10_start 12 = .ok (.getfield 15, 3) := by decide +kernel
theorem dX10_start_15 : decode cX10_start 15 = .ok (.goto 4, 3) := by decide +kernel
theorem dX10_start_18 : decode cX10_start 18 = .ok (.iconst 0, 1) := by decide +kernel
theorem dX10_start_19 : decode cX10_start 19 = .ok (.putfield 19, 3) := by decide +kernel
theorem dX10_start_22 : decode cX10_start 22 = .ok (.aload_n 0, 1) := by decide +kernel
theorem dX10_start_23 : decode cX10_start 23 = .ok (.iload_n 2, 1) := by decide +kernel
theorem dX10_start_24 : decode cX10_start 24 = .ok (.iconst 2, 1) := by decide +kernel
theorem dX10_start_25 : decode cX10_start 25 = .ok (.if_icmp .le 10, 3) := by decide +kernel
theorem dX10_start_28 : decode cX10_start 28 = .ok (.aload_n 0, 1) := by decide +kernel
theorem dX10_start_29 : decode cX10_start 29 = .ok (.getfield 15, 3) := by decide +kernel
theorem dX10_start_32 : decode cX10_start 32 = .ok (.goto 4, 3) := by decide +kernel
theorem dX10_start_35 : decode cX10_start 35 = .ok (.iconst 0, 1) := by decide +kernel
theorem dX10_start_36 : decode cX10_start 36 = .ok (.putfield 22, 3) := by decide +kernel
theorem dX10_start_39 : decode cX10_start 39 = .ok (.aload_n 0, 1) := by decide +kernel
theorem dX10_start_40 : decode cX10_start 40 = .ok (.iconst 1, 1) := by decide +kernel
theorem dX10_start_41 : decode cX10_start 41 = .ok (.putfield 25, 3) := by decide +kernel
theorem dX10_start_44 : decode cX10_start 44 = .ok (.aload_n 0, 1) := by decide +kernel
theorem dX10_start_45 : decode cX10_start 45 = .ok (.aload_n 0, 1) := by decide +kernel
theorem dX10_start_46 : decode cX10_start 46 = .ok (.getfield 15, 3) := by decide +kernel
theorem dX10_start_49 : decode cX10_start 49 = .ok (.aload_n 0, 1) := by decide +kernel
theorem dX10_start_50 : decode cX10_start 50 = .ok (.getfield 19, 3) := by decide +kernel
theorem dX10_start_53 : decode cX10_start 53 = .ok (.iadd, 1) := by decide +kernel
theorem dX10_start_54 : decode cX10_start 54 = .ok (.aload_n 0, 1) := by decide +kernel
theorem dX10_start_55 : decode cX10_start 55 = .ok (.getfield 22, 3) := by decide +kernel
theorem dX10_start_58 : decode cX10_start 58 = .ok (.iadd, 1) := by decide +kernel
theorem dX10_start_59 : decode cX10_start 59 = .ok (.putfield 28, 3) := by decide +kernel
theorem dX10_start_62 : decode cX10_start 62 = .ok (.aload_n 0, 1) := by decide +kernel
theorem dX10_start_63 : decode cX10_start 63 = .ok (.getfield 9, 3) := by decide +kernel
theorem dX10_start_66 : decode cX10_start 66 = .ok (.iconst 0, 1) := by decide +kernel
theorem dX10_start_67 : decode cX10_start 67 = .ok (.aload_n 0, 1) := by decide +kernel
theorem dX10_start_68 : decode cX10_start 68 = .ok (.getfield 15, 3) := by decide +kernel
theorem dX10_start_71 : decode cX10_start 71 = .ok (.ineg, 1) := by decide +kernel
theorem dX10_start_72 : decode cX10_start 72 = .ok (.iastore, 1) := by decide +kernel
theorem dX10_start_73 : decode cX10_start 73 = .ok (.aload_n 0, 1) := by decide +kernel
theorem dX10_start_74 : decode cX10_start 74 = .ok (.getfield 9, 3) := by decide +kernel
theorem dX10_start_77 : decode cX10_start 77 = .ok (.iconst 1, 1) := by decide +kernel
theorem dX10_start_78 : decode cX10_start 78 = .ok (.aload_n 0, 1) := by decide +kernel
theorem dX10_start_79 : decode cX10_start 79 = .ok (.getfield 19, 3) := by decide +kernel
theorem dX10_start_82 : decode cX10_start 82 = .ok (.ineg, 1) := by decide +kernel
theorem dX10_start_83 : decode cX10_start 83 = .ok (.iconst 1, 1) := by decide +kernel
theorem dX10_start_84 : decode cX10_start 84 = .ok (.isub, 1) := by decide +kernel
theorem dX10_start_85 : decode cX10_start 85 = .ok (.iastore, 1) := by decide +kernel
theorem dX10_start_86 : decode cX10_start 86 = .ok (.aload_n 0, 1) := by decide +kernel
theorem dX10_start_87 : decode cX10_start 87 = .ok (.getfield 9, 3) := by decide +kernel
theorem dX10_start_90 : decode cX10_start 90 = .ok (.iconst 2, 1) := by decide +kernel
theorem dX10_start_91 : decode cX10_start 91 = .ok (.iconst 0, 1) := by decide +kernel
theorem dX10_start_92 : decode cX10_start 92 = .ok (.iastore, 1) := by decide +kernel
theorem dX10_start_93 : decode cX10_start 93 = .ok (.return_, 1) := by decide +kernel
theorem dX10_nextPair_0 : decode cX10_nextPair 0 = .ok (.aload_n 0, 1) := by decide +kernel
theorem dX10_nextPair_1 : decode cX10_nextPair 1 = .ok (.getfield 9, 3) := by decide +kernel
theorem dX10_nextPair_4 : decode cX10_nextPair 4 = .ok (.iconst 1, 1) := by decide +kernel
theorem dX10_nextPair_5 : decode cX10_nextPair 5 = .ok (.dup2, 1) := by decide +kernel
theorem dX10_nextPair_6 : decode cX10_nextPair 6 = .ok (.iaload, 1) := by decide +kernel
theorem dX10_nextPair_7 : decode cX10_nextPair 7 = .ok (.iconst 1, 1) := by decide +kernel
theorem dX10_nextPair_8 : decode cX10_nextPair 8 = .ok (.iadd, 1) := by decide +kernel
theorem dX10_nextPair_9 : decode cX10_nextPair 9 = .ok (.iastore, 1) := by decide +kernel
theorem dX10_nextPair_10 : decode cX10_nextPair 10 = .ok (.aload_n 0, 1) := by decide +kernel
theorem dX10_nextPair_11 : decode cX10_nextPair 11 = .ok (.getfield 9, 3) := by decide +kernel
theorem dX10_nextPair_14 : decode cX10_nextPair 14 = .ok (.iconst 1, 1) := by decide +kernel
theorem dX10_nextPair_15 : decode cX10_nextPair 15 = .ok (.iaload, 1) := by decide +kernel
theorem dX10_nextPair_16 : decode cX10_nextPair 16 = .ok (.aload_n 0, 1) := by decide +kernel
theorem dX10_nextPair_17 : decode cX10_nextPair 17 = .ok (.getfield 19, 3) := by decide +kernel
theorem dX10_nextPair_20 : decode cX10_nextPair 20 = .ok (.if_icmp .le 24, 3) := by decide +kernel
theorem dX10_nextPair_23 : decode cX10_nextPair 23 = .ok (.aload_n 0, 1) := by decide +kernel
theorem dX10_nextPair_24 : decode cX10_nextPair 24 = .ok (.getfield 9, 3) := by decide +kernel
theorem dX10_nextPair_27 : decode cX10_nextPair 27 = .ok (.iconst 1, 1) := by decide +kernel
theorem dX10_nextPair_28 : decode cX10_nextPair 28 = .ok (.aload_n 0, 1) := by decide +kernel
theorem dX10_nextPair_29 : decode cX10_nextPair 29 = .ok (.getfield 19, 3) := by decide +kernel
theorem dX10_nextPair_32 : decode cX10_nextPair 32 = .ok (.ineg, 1) := by decide +kernel
theorem dX10_nextPair_33 : decode cX10_nextPair 33 = .ok (.iastore, 1) := by decide +kernel
theorem dX10_nextPair_34 : decode cX10_nextPair 34 = .ok (.aload_n 0, 1) := by decide +kernel
theorem dX10_nextPair_35 : decode cX10_nextPair 35 = .ok (.getfield 9, 3) := by decide +kernel
theorem dX10_nextPair_38 : decode cX10_nextPair 38 = .ok (.iconst 0, 1) := by decide +kernel
theorem dX10_nextPair_39 : decode cX10_nextPair 39 = .ok (.dup2, 1) := by decide +kernel
theorem dX10_nextPair_40 : decode cX10_nextPair 40 = .ok (.iaload, 1) := by decide +kernel
theorem dX10_nextPair_41 : decode cX10_nextPair 41 = .ok (.iconst 1, 1) := by decide +kernel
theorem dX10_nextPair_42 : decode cX10_nextPair 42 = .ok (.iadd, 1) := by decide +kernel
theorem dX10_nextPair_43 : decode cX10_nextPair 43 = .ok (.iastore, 1) := by decide +kernel
theorem dX10_nextPair_44 : decode cX10_nextPair 44 = .ok (.aload_n 0, 1) := by decide +kernel
theorem dX10_nextPair_45 : decode cX10_nextPair 45 = .ok (.getfield 9, 3) := by decide +kernel
theorem dX10_nextPair_48 : decode cX10_nextPair 48 = .ok (.iconst 0, 1) := by decide +kernel
theorem dX10_nextPair_49 : decode cX10_nextPair 49 = .ok (.iaload, 1) := by decide +kernel
theorem dX10_nextPair_50 : decode cX10_nextPair 50 = .ok (.aload_n 0, 1) := by decide +kernel
theorem dX10_nextPair_51 : decode cX10_nextPair 51 = .ok (.getfield 15, 3) := by decide +kernel
theorem dX10_nextPair_54 : decode cX10_nextPair 54 = .ok (.if_icmp .le 24, 3) := by decide +kernel
theorem dX10_nextPair_57 : decode cX10_nextPair 57 = .ok (.aload_n 0, 1) := by decide +kernel
theorem dX10_nextPair_58 : decode cX10_nextPair 58 = .ok (.getfield 9, 3) := by decide +kernel
theorem dX10_nextPair_61 : decode cX10_nextPair 61 = .ok (.iconst 0, 1) := by decide +kernel
theorem dX10_nextPair_62 : decode cX10_nextPair 62 = .ok (.aload_n 0, 1) := by decide +kernel
theorem dX10_nextPair_63 : decode cX10_nextPair 63 = .ok (.getfield 15, 3) := by decide +kernel
theorem dX10_nextPair_66 : decode cX10_nextPair 66 = .ok (.ineg, 1) := by decide +kernel
theorem dX10_nextPair_67 : decode cX10_nextPair 67 = .ok (.iastore, 1) := by decide +kernel
theorem dX10_nextPair_68 : decode cX10_nextPair 68 = .ok (.aload_n 0, 1) := by decide +kernel
theorem dX10_nextPair_69 : decode cX10_nextPair 69 = .ok (.dup, 1) := by decide +kernel
theorem dX10_nextPair_70 : decode cX10_nextPair 70 = .ok (.getfield 25, 3) := by decide +kernel
theorem dX10_nextPair_73 : decode cX10_nextPair 73 = .ok (.iconst 1, 1) := by decide +kernel
theorem dX10_nextPair_74 : decode cX10_nextPair 74 = .ok (.iadd, 1) := by decide +kernel
theorem dX10_nextPair_75 : decode cX10_nextPair 75 = .ok (.putfield 25, 3) := by decide +kernel
theorem dX10_nextPair_78 : decode cX10_nextPair 78 = .ok (.aload_n 0, 1) := by decide +kernel
theorem dX10_nextPair_79 : decode cX10_nextPair 79 = .ok (.getfield 25, 3) := by decide +kernel
theorem dX10_nextPair_82 : decode cX10_nextPair 82 = .ok (.aload_n 0, 1) := by decide +kernel
theorem dX10_nextPair_83 : decode cX10_nextPair 83 = .ok (.getfield 28, 3) := by decide +kernel
theorem dX10_nextPair_86 : decode cX10_nextPair 86 = .ok (.if_icmp .gt 7, 3) := by decide +kernel
theorem dX10_nextPair_89 : decode cX10_nextPair 89 = .ok (.iconst 1, 1) := by decide +kernel
theorem dX10_nextPair_90 : decode cX10_nextPair 90 = .ok (.goto 4, 3) := by decide +kernel
theorem dX10_nextPair_93 : decode cX10_nextPair 93 = .ok (.iconst 0, 1) := by decide +kernel
theorem dX10_nextPair_94 : decode cX10_nextPair 94 = .ok (.ireturn, 1) := by decide +kernel
theorem dX10_next_0 : decode cX10_next 0 = .ok (.aload_n 0, 1) := by decide +kernel
theorem dX10_next_1 : decode cX10_next 1 = .ok (.getfield 9, 3) := by decide +kernel
theorem dX10_next_4 : decode cX10_next 4 = .ok (.iconst 2, 1) := by decide +kernel
theorem dX10_next_5 : decode cX10_next 5 = .ok (.iaload, 1) := by decide +kernel
theorem dX10_next_6 : decode cX10_next 6 = .ok (.ifCond .ge 18, 3) := by decide +kernel
theorem dX10_next_9 : decode cX10_next 9 = .ok (.aload_n 0, 1) := by decide +kernel
theorem dX10_next_10 : decode cX10_next 10 = .ok (.getfield 9, 3) := by decide +kernel
theorem dX10_next_13 : decode cX10_next 13 = .ok (.iconst 2, 1) := by decide +kernel
theorem dX10_next_14 : decode cX10_next 14 = .ok (.aload_n 0, 1) := by decide +kernel
theorem dX10_next_15 : decode cX10_next 15 = .ok (.getfield 9, 3) := by decide +kernel
theorem dX10_next_18 : decode cX10_next 18 = .ok (.iconst 2, 1) := by decide +kernel
theorem dX10_next_19 : decode cX10_next 19 = .ok (.iaload, 1) := by decide +kernel
theorem dX10_next_20 : decode cX10_next 20 = .ok (.ineg, 1) := by decide +kernel
theorem dX10_next_21 : decode cX10_next 21 = .ok (.iastore, 1) := by decide +kernel
theorem dX10_next_22 : decode cX10_next 22 = .ok (.iconst 1, 1) := by decide +kernel
theorem dX10_next_23 : decode cX10_next 23 = .ok (.ireturn, 1) := by decide +kernel
theorem dX10_next_24 : decode cX10_next 24 = .ok (.iconst 0, 1) := by decide +kernel
theorem dX10_next_25 : decode cX10_next 25 = .ok (.istore_n 1, 1) := by decide +kernel
theorem dX10_next_26 : decode cX10_next 26 = .ok (.iload_n 1, 1) := by decide +kernel
theorem dX10_next_27 : decode cX10_next 27 = .ok (.sipush 4000, 3) := by decide +kernel
theorem dX10_next_30 : decode cX10_next 30 = .ok (.if_icmp .ge 63, 3) := by decide +kernel
theorem dX10_next_33 : decode cX10_next 33 = .ok (.aload_n 0, 1) := by decide +kernel
theorem dX10_next_34 : decode cX10_next 34 = .ok (.invokevirtual 31, 3) := by decide +kernel
theorem dX10_next_37 : decode cX10_next 37 = .ok (.ifCond .eq 56, 3) := by decide +kernel
theorem dX10_next_40 : decode cX10_next 40 = .ok (.aload_n 0, 1) := by decide +kernel
theorem dX10_next_41 : decode cX10_next 41 = .ok (.getfield 25, 3) := by decide +kernel
theorem dX10_next_44 : decode cX10_next 44 = .ok (.aload_n 0, 1) := by decide +kernel
theorem dX10_next_45 : decode cX10_next 45 = .ok (.getfield 9, 3) := by decide +kernel
theorem dX10_next_48 : decode cX10_next 48 = .ok (.iconst 0, 1) := by decide +kernel
theorem dX10_next_49 : decode cX10_next 49 = .ok (.iaload, 1) := by decide +kernel
theorem dX10_next_50 : decode cX10_next 50 = .ok (.invokestatic 35, 3) := by decide +kernel
theorem dX10_next_53 : decode cX10_next 53 = .ok (.isub, 1) := by decide +kernel
theorem dX10_next_54 : decode cX10_next 54 = .ok (.aload_n 0, 1) := by decide +kernel
theorem dX10_next_55 : decode cX10_next 55 = .ok (.getfield 9, 3) := by decide +kernel
theorem dX10_next_58 : decode cX10_next 58 = .ok (.iconst 1, 1) := by decide +kernel
theorem dX10_next_59 : decode cX10_next 59 = .ok (.iaload, 1) := by decide +kernel
theorem dX10_next_60 : decode cX10_next 60 = .ok (.invokestatic 35, 3) := by decide +kernel
theorem dX10_next_63 : decode cX10_next 63 = .ok (.isub, 1) := by decide +kernel
theorem dX10_next_64 : decode cX10_next 64 = .ok (.istore_n 2, 1) := by decide +kernel
theorem dX10_next_65 : decode cX10_next 65 = .ok (.iload_n 2, 1) := by decide +kernel
theorem dX10_next_66 : decode cX10_next 66 = .ok (.ifCond .lt 21, 3) := by decide +kernel
theorem dX10_next_69 : decode cX10_next 69 = .ok (.iload_n 2, 1) := by decide +kernel
theorem dX10_next_70 : decode cX10_next 70 = .ok (.aload_n 0, 1) := by decide +kernel
theorem dX10_next_71 : decode cX10_next 71 = .ok (.getfield 22, 3) := by decide +kernel
theorem dX10_next_74 : decode cX10_next 74 = .ok (.if_icmp .gt 13, 3) := by decide +kernel
theorem dX10_next_77 : decode cX10_next 77 = .ok (.aload_n 0, 1) := by decide +kernel
theorem dX10_next_78 : decode cX10_next 78 = .ok (.getfield 9, 3) := by decide +kernel
theorem dX10_next_81 : decode cX10_next 81 = .ok (.iconst 2, 1) := by decide +kernel
theorem dX10_next_82 : decode cX10_next 82 = .ok (.iload_n 2, 1) := by decide +kernel
theorem dX10_next_83 : decode cX10_next 83 = .ok (.ineg, 1) := by decide +kernel
theorem dX10_next_84 : decode cX10_next 84 = .ok (.iastore, 1) := by decide +kernel
theorem dX10_next_85 : decode cX10_next 85 = .ok (.iconst 1, 1) := by decide +kernel
theorem dX10_next_86 : decode cX10_next 86 = .ok (.ireturn, 1) := by decide +kernel
theorem dX10_next_87 : decode cX10_next 87 = .ok (.iinc 1 1, 3) := by decide +kernel
theorem dX10_next_90 : decode cX10_next 90 = .ok (.goto (-64), 3) := by decide +kernel
theorem dX10_next_93 : decode cX10_next 93 = .ok (.iconst 0, 1) := by decide +kernel
theorem dX10_next_94 : decode cX10_next 94 = .ok (.ireturn, 1) := by decide +kernel
theorem dX7_startAnew_0 : decode cX7_startAnew 0 = .ok (.aload_n 0, 1) := by decide +kernel
theorem dX7_startAnew_1 : decode cX7_startAnew 1 = .ok (.iload_n 1, 1) := by decide +kernel
theorem dX7_startAnew_2 : decode cX7_startAnew 2 = .ok (.putfield 17, 3) := by decide +kernel
theorem dX7_startAnew_5 : decode cX7_startAnew 5 = .ok (.aload_n 0, 1) := by decide +kernel
theorem dX7_startAnew_6 : decode cX7_startAnew 6 = .ok (.iconst 0, 1) := by decide +kernel
theorem dX7_startAnew_7 : decode cX7_startAnew 7 = .ok (.putfield 22, 3) := by decide +kernel
theorem dX7_startAnew_10 : decode cX7_startAnew 10 = .ok (.return_, 1) := by decide +kernel
theorem dX2_zeroAll_0 : decode cX2_zeroAll 0 = .ok (.aload_n 0, 1) := by decide +kernel
theorem dX2_zeroAll_1 : decode cX2_zeroAll 1 = .ok (.getfield 9, 3) := by decide +kernel
theorem dX2_zeroAll_4 : decode cX2_zeroAll 4 = .ok (.lconst 0, 1) := by decide +kernel
theorem dX2_zeroAll_5 : decode cX2_zeroAll 5 = .ok (.invokestatic 15, 3) := by decide +kernel
theorem dX2_zeroAll_8 : decode cX2_zeroAll 8 = .ok (.return_, 1) := by decide +kernel
theorem dX4_forgetRing_0 : decode cX4_forgetRing 0 = .ok (.aload_n 0, 1) := by decide +kernel
theorem dX4_forgetRing_1 : decode cX4_forgetRing 1 = .ok (.iconst (-1), 1) := by decide +kernel
theorem dX4_forgetRing_2 : decode cX4_forgetRing 2 = .ok (.putfield 18, 3) := by decide +kernel
theorem dX4_forgetRing_5 : decode cX4_forgetRing 5 = .ok (.return_, 1) := by decide +kernel
theorem dX5_forgetAll_0 : decode cX5_forgetAll 0 = .ok (.aload_n 0, 1) := by decide +kernel
theorem dX5_forgetAll_1 : decode cX5_forgetAll 1 = .ok (.iconst 0, 1) := by decide +kernel
theorem dX5_forgetAll_2 : decode cX5_forgetAll 2 = .ok (.putfield 34, 3) := by decide +kernel
theorem dX5_forgetAll_5 : decode cX5_forgetAll 5 = .ok (.aload_n 0, 1) := by decide +kernel
theorem dX5_forgetAll_6 : decode cX5_forgetAll 6 = .ok (.iconst 0, 1) := by decide +kernel
theorem dX5_forgetAll_7 : decode cX5_forgetAll 7 = .ok (.putfield 38, 3) := by decide +kernel
theorem dX5_forgetAll_10 : decode cX5_forgetAll 10 = .ok (.aload_n 0, 1) := by decide +kernel
theorem dX5_forgetAll_11 : decode cX5_forgetAll 11 = .ok (.getfield 22, 3) := by decide +kernel
theorem dX5_forgetAll_14 : decode cX5_forgetAll 14 = .ok (.iconst (-1), 1) := by decide +kernel
theorem dX5_forgetAll_15 : decode cX5_forgetAll 15 = .ok (.invokestatic 28, 3) := by decide +kernel
theorem dX5_forgetAll_18 : decode cX5_forgetAll 18 = .ok (.return_, 1) := by decide +kernel
theorem dX2_openAll_0 : decode cX2_openAll 0 = .ok (.iconst 0, 1) := by decide +kernel
theorem dX2_openAll_1 : decode cX2_openAll 1 = .ok (.istore_n 2, 1) := by decide +kernel
theorem dX2_openAll_2 : decode cX2_openAll 2 = .ok (.iload_n 2, 1) := by decide +kernel
theorem dX2_openAll_3 : decode cX2_openAll 3 = .ok (.bipush 6, 2) := by decide +kernel
theorem dX2_openAll_5 : decode cX2_openAll 5 = .ok (.if_icmp .ge 29, 3) := by decide +kernel
theorem dX2_openAll_8 : decode cX2_openAll 8 = .ok (.aload_n 0, 1) := by decide +kernel
theorem dX2_openAll_9 : decode cX2_openAll 9 = .ok (.getfield 9, 3) := by decide +kernel
theorem dX2_openAll_12 : decode cX2_openAll 12 = .ok (.iload_n 2, 1) := by decide +kernel
theorem dX2_openAll_13 : decode cX2_openAll 13 = .ok (.iload_n 2, 1) := by decide +kernel
theorem dX2_openAll_14 : decode cX2_openAll 14 = .ok (.iconst 2, 1) := by decide +kernel
theorem dX2_openAll_15 : decode cX2_openAll 15 = .ok (.iload_n 1, 1) := by decide +kernel
theorem dX2_openAll_16 : decode cX2_openAll 16 = .ok (.imul, 1) := by decide +kernel
theorem dX2_openAll_17 : decode cX2_openAll 17 = .ok (.if_icmp .ge 9, 3) := by decide +kernel
theorem dX2_openAll_20 : decode cX2_openAll 20 = .ok (.ldc2_w 21, 3) := by decide +kernel
theorem dX2_openAll_23 : decode cX2_openAll 23 = .ok (.goto 4, 3) := by decide +kernel
theorem dX2_openAll_26 : decode cX2_openAll 26 = .ok (.lconst 0, 1) := by decide +kernel
theorem dX2_openAll_27 : decode cX2_openAll 27 = .ok (.lastore, 1) := by decide +kernel
theorem dX2_openAll_28 : decode cX2_openAll 28 = .ok (.iinc 2 1, 3) := by decide +kernel
theorem dX2_openAll_31 : decode cX2_openAll 31 = .ok (.goto (-29), 3) := by decide +kernel
theorem dX2_openAll_34 : decode cX2_openAll 34 = .ok (.return_, 1) := by decide +kernel
theorem dX11_forgetPlaces_0 : decode cX11_forgetPlaces 0 = .ok (.aload_n 0, 1) := by decide +kernel
theorem dX11_forgetPlaces_1 : decode cX11_forgetPlaces 1 = .ok (.getfield 54, 3) := by decide +kernel
theorem dX11_forgetPlaces_4 : decode cX11_forgetPlaces 4 = .ok (.iconst 0, 1) := by decide +kernel
theorem dX11_forgetPlaces_5 : decode cX11_forgetPlaces 5 = .ok (.putfield 202, 3) := by decide +kernel
theorem dX11_forgetPlaces_8 : decode cX11_forgetPlaces 8 = .ok (.iconst 0, 1) := by decide +kernel
theorem dX11_forgetPlaces_9 : decode cX11_forgetPlaces 9 = .ok (.istore_n 1, 1) := by decide +kernel
theorem dX11_forgetPlaces_10 : decode cX11_forgetPlaces 10 = .ok (.iload_n 1, 1) := by decide +kernel
theorem dX11_forgetPlaces_11 : decode cX11_forgetPlaces 11 = .ok (.iconst 5, 1) := by decide +kernel
theorem dX11_forgetPlaces_12 : decode cX11_forgetPlaces 12 = .ok (.if_icmp .ge 25, 3) := by decide +kernel
theorem dX11_forgetPlaces_15 : decode cX11_forgetPlaces 15 = .ok (.aload_n 0, 1) := by decide +kernel
theorem dX11_forgetPlaces_16 : decode cX11_forgetPlaces 16 = .ok (.getfield 10, 3) := by decide +kernel
theorem dX11_forgetPlaces_19 : decode cX11_forgetPlaces 19 = .ok (.getfield 115, 3) := by decide +kernel
theorem dX11_forgetPlaces_22 : decode cX11_forgetPlaces 22 = .ok (.iload_n 1, 1) := by decide +kernel
theorem dX11_forgetPlaces_23 : decode cX11_forgetPlaces 23 = .ok (.aaload, 1) := by decide +kernel
theorem dX11_forgetPlaces_24 : decode cX11_forgetPlaces 24 = .ok (.getfield 286, 3) := by decide +kernel
theorem dX11_forgetPlaces_27 : decode cX11_forgetPlaces 27 = .ok (.iconst 0, 1) := by decide +kernel
theorem dX11_forgetPlaces_28 : decode cX11_forgetPlaces 28 = .ok (.putfield 290, 3) := by decide +kernel
theorem dX11_forgetPlaces_31 : decode cX11_forgetPlaces 31 = .ok (.iinc 1 1, 3) := by decide +kernel
theorem dX11_forgetPlaces_34 : decode cX11_forgetPlaces 34 = .ok (.goto (-24), 3) := by decide +kernel
theorem dX11_forgetPlaces_37 : decode cX11_forgetPlaces 37 = .ok (.return_, 1) := by decide +kernel
theorem dX11_openTheBox_0 : decode cX11_openTheBox 0 = .ok (.aload_n 0, 1) := by decide +kernel
theorem dX11_openTheBox_1 : decode cX11_openTheBox 1 = .ok (.getfield 30, 3) := by decide +kernel
theorem dX11_openTheBox_4 : decode cX11_openTheBox 4 = .ok (.aload_n 0, 1) := by decide +kernel
theorem dX11_openTheBox_5 : decode cX11_openTheBox 5 = .ok (.getfield 10, 3) := by decide +kernel
theorem dX11_openTheBox_8 : decode cX11_openTheBox 8 = .ok (.getfield 69, 3) := by decide +kernel
theorem dX11_openTheBox_11 : decode cX11_openTheBox 11 = .ok (.invokevirtual 73, 3) := by decide +kernel
theorem dX11_openTheBox_14 : decode cX11_openTheBox 14 = .ok (.aload_n 0, 1) := by decide +kernel
theorem dX11_openTheBox_15 : decode cX11_openTheBox 15 = .ok (.invokevirtual 255, 3) := by decide +kernel
theorem dX11_openTheBox_18 : decode cX11_openTheBox 18 = .ok (.return_, 1) := by decide +kernel
theorem dX11_loop_0 : decode cX11_loop 0 = .ok (.iload_n 1, 1) := by decide +kernel
theorem dX11_loop_1 : decode cX11_loop 1 = .ok (.iconst 1, 1) := by decide +kernel
theorem dX11_loop_2 : decode cX11_loop 2 = .ok (.if_icmp .lt 8, 3) := by decide +kernel
theorem dX11_loop_5 : decode cX11_loop 5 = .ok (.iload_n 1, 1) := by decide +kernel
theorem dX11_loop_6 : decode cX11_loop 6 = .ok (.iconst 3, 1) := by decide +kernel
theorem dX11_loop_7 : decode cX11_loop 7 = .ok (.if_icmp .le 5, 3) := by decide +kernel
theorem dX11_loop_10 : decode cX11_loop 10 = .ok (.iconst (-1), 1) := by decide +kernel
theorem dX11_loop_11 : decode cX11_loop 11 = .ok (.ireturn, 1) := by decide +kernel
theorem dX11_loop_12 : decode cX11_loop 12 = .ok (.aload_n 0, 1) := by decide +kernel
theorem dX11_loop_13 : decode cX11_loop 13 = .ok (.getfield 10, 3) := by decide +kernel
theorem dX11_loop_16 : decode cX11_loop 16 = .ok (.getfield 69, 3) := by decide +kernel
theorem dX11_loop_19 : decode cX11_loop 19 = .ok (.istore_n 2, 1) := by decide +kernel
theorem dX11_loop_20 : decode cX11_loop 20 = .ok (.aload_n 0, 1) := by decide +kernel
theorem dX11_loop_21 : decode cX11_loop 21 = .ok (.getfield 10, 3) := by decide +kernel
theorem dX11_loop_24 : decode cX11_loop 24 = .ok (.iload_n 1, 1) := by decide +kernel
theorem dX11_loop_25 : decode cX11_loop 25 = .ok (.invokevirtual 77, 3) := by decide +kernel
theorem dX11_loop_28 : decode cX11_loop 28 = .ok (.aload_n 0, 1) := by decide +kernel
theorem dX11_loop_29 : decode cX11_loop 29 = .ok (.getfield 16, 3) := by decide +kernel
theorem dX11_loop_32 : decode cX11_loop 32 = .ok (.lconst 0, 1) := by decide +kernel
theorem dX11_loop_33 : decode cX11_loop 33 = .ok (.invokestatic 80, 3) := by decide +kernel
theorem dX11_loop_36 : decode cX11_loop 36 = .ok (.aload_n 0, 1) := by decide +kernel
theorem dX11_loop_37 : decode cX11_loop 37 = .ok (.getfield 34, 3) := by decide +kernel
theorem dX11_loop_40 : decode cX11_loop 40 = .ok (.invokevirtual 86, 3) := by decide +kernel
theorem dX11_loop_43 : decode cX11_loop 43 = .ok (.aload_n 0, 1) := by decide +kernel
theorem dX11_loop_44 : decode cX11_loop 44 = .ok (.getfield 23, 3) := by decide +kernel
theorem dX11_loop_47 : decode cX11_loop 47 = .ok (.invokevirtual 89, 3) := by decide +kernel
theorem dX11_loop_50 : decode cX11_loop 50 = .ok (.aload_n 0, 1) := by decide +kernel
theorem dX11_loop_51 : decode cX11_loop 51 = .ok (.getfield 54, 3) := by decide +kernel
theorem dX11_loop_54 : decode cX11_loop 54 = .ok (.invokevirtual 92, 3) := by decide +kernel
theorem dX11_loop_57 : decode cX11_loop 57 = .ok (.aload_n 0, 1) := by decide +kernel
theorem dX11_loop_58 : decode cX11_loop 58 = .ok (.invokevirtual 95, 3) := by decide +kernel
theorem dX11_loop_61 : decode cX11_loop 61 = .ok (.iload_n 2, 1) := by decide +kernel
theorem dX11_loop_62 : decode cX11_loop 62 = .ok (.ireturn, 1) := by decide +kernel
theorem dX7_addBody_0 : decode cX7_addBody 0 = .ok (.aload_n 0, 1) := by decide +kernel
theorem dX7_addBody_1 : decode cX7_addBody 1 = .ok (.getfield 22, 3) := by decide +kernel
theorem dX7_addBody_4 : decode cX7_addBody 4 = .ok (.iconst 5, 1) := by decide +kernel
theorem dX7_addBody_5 : decode cX7_addBody 5 = .ok (.if_icmp .lt 6, 3) := by decide +kernel
theorem dX7_addBody_8 : decode cX7_addBody 8 = .ok (.bipush (-2), 2) := by decide +kernel
theorem dX7_addBody_10 : decode cX7_addBody 10 = .ok (.ireturn, 1) := by decide +kernel
theorem dX7_addBody_11 : decode cX7_addBody 11 = .ok (.aload_n 0, 1) := by decide +kernel
theorem dX7_addBody_12 : decode cX7_addBody 12 = .ok (.getfield 11, 3) := by decide +kernel
theorem dX7_addBody_15 : decode cX7_addBody 15 = .ok (.aload_n 0, 1) := by decide +kernel
theorem dX7_addBody_16 : decode cX7_addBody 16 = .ok (.getfield 22, 3) := by decide +kernel
theorem dX7_addBody_19 : decode cX7_addBody 19 = .ok (.aaload, 1) := by decide +kernel
theorem dX7_addBody_20 : decode cX7_addBody 20 = .ok (.invokevirtual 25, 3) := by decide +kernel
theorem dX7_addBody_23 : decode cX7_addBody 23 = .ok (.aload_n 0, 1) := by decide +kernel
theorem dX7_addBody_24 : decode cX7_addBody 24 = .ok (.dup, 1) := by decide +kernel
theorem dX7_addBody_25 : decode cX7_addBody 25 = .ok (.getfield 22, 3) := by decide +kernel
theorem dX7_addBody_28 : decode cX7_addBody 28 = .ok (.iconst 1, 1) := by decide +kernel
theorem dX7_addBody_29 : decode cX7_addBody 29 = .ok (.iadd, 1) := by decide +kernel
theorem dX7_addBody_30 : decode cX7_addBody 30 = .ok (.putfield 22, 3) := by decide +kernel
theorem dX7_addBody_33 : decode cX7_addBody 33 = .ok (.aload_n 0, 1) := by decide +kernel
theorem dX7_addBody_34 : decode cX7_addBody 34 = .ok (.getfield 22, 3) := by decide +kernel
theorem dX7_addBody_37 : decode cX7_addBody 37 = .ok (.iconst 1, 1) := by decide +kernel
theorem dX7_addBody_38 : decode cX7_addBody 38 = .ok (.isub, 1) := by decide +kernel
theorem dX7_addBody_39 : decode cX7_addBody 39 = .ok (.ireturn, 1) := by decide +kernel
theorem dX11_body_0 : decode cX11_body 0 = .ok (.aload_n 0, 1) := by decide +kernel
theorem dX11_body_1 : decode cX11_body 1 = .ok (.getfield 10, 3) := by decide +kernel
theorem dX11_body_4 : decode cX11_body 4 = .ok (.getfield 98, 3) := by decide +kernel
theorem dX11_body_7 : decode cX11_body 7 = .ok (.iconst 5, 1) := by decide +kernel
theorem dX11_body_8 : decode cX11_body 8 = .ok (.if_icmp .lt 6, 3) := by decide +kernel
theorem dX11_body_11 : decode cX11_body 11 = .ok (.bipush (-2), 2) := by decide +kernel
theorem dX11_body_13 : decode cX11_body 13 = .ok (.ireturn, 1) := by decide +kernel
theorem dX11_body_14 : decode cX11_body 14 = .ok (.aload_n 0, 1) := by decide +kernel
theorem dX11_body_15 : decode cX11_body 15 = .ok (.getfield 10, 3) := by decide +kernel
theorem dX11_body_18 : decode cX11_body 18 = .ok (.invokevirtual 101, 3) := by decide +kernel
theorem dX11_body_21 : decode cX11_body 21 = .ok (.istore_n 1, 1) := by decide +kernel
theorem dX11_body_22 : decode cX11_body 22 = .ok (.aload_n 0, 1) := by decide +kernel
theorem dX11_body_23 : decode cX11_body 23 = .ok (.invokevirtual 95, 3) := by decide +kernel
theorem dX11_body_26 : decode cX11_body 26 = .ok (.iload_n 1, 1) := by decide +kernel
theorem dX11_body_27 : decode cX11_body 27 = .ok (.ireturn, 1) := by decide +kernel
theorem dX7_has_0 : decode cX7_has 0 = .ok (.iload_n 1, 1) := by decide +kernel
theorem dX7_has_1 : decode cX7_has 1 = .ok (.ifCond .lt 15, 3) := by decide +kernel
theorem dX7_has_4 : decode cX7_has 4 = .ok (.iload_n 1, 1) := by decide +kernel
theorem dX7_has_5 : decode cX7_has 5 = .ok (.aload_n 0, 1) := by decide +kernel
theorem dX7_has_6 : decode cX7_has 6 = .ok (.getfield 22, 3) := by decide +kernel
theorem dX7_has_9 : decode cX7_has 9 = .ok (.if_icmp .ge 7, 3) := by decide +kernel
theorem dX7_has_12 : decode cX7_has 12 = .ok (.iconst 1, 1) := by decide +kernel
theorem dX7_has_13 : decode cX7_has 13 = .ok (.goto 4, 3) := by decide +kernel
theorem dX7_has_16 : decode cX7_has 16 = .ok (.iconst 0, 1) := by decide +kernel
theorem dX7_has_17 : decode cX7_has 17 = .ok (.ireturn, 1) := by decide +kernel
theorem dX11_isCode_0 : decode cX11_isCode 0 = .ok (.iload_n 0, 1) := by decide +kernel
theorem dX11_isCode_1 : decode cX11_isCode 1 = .ok (.ifCond .lt 14, 3) := by decide +kernel
theorem dX11_isCode_4 : decode cX11_isCode 4 = .ok (.iload_n 0, 1) := by decide +kernel
theorem dX11_isCode_5 : decode cX11_isCode 5 = .ok (.ldc_w 299, 3) := by decide +kernel
theorem dX11_isCode_8 : decode cX11_isCode 8 = .ok (.if_icmp .ge 7, 3) := by decide +kernel
theorem dX11_isCode_11 : decode cX11_isCode 11 = .ok (.iconst 1, 1) := by decide +kernel
theorem dX11_isCode_12 : decode cX11_isCode 12 = .ok (.goto 4, 3) := by decide +kernel
theorem dX11_isCode_15 : decode cX11_isCode 15 = .ok (.iconst 0, 1) := by decide +kernel
theorem dX11_isCode_16 : decode cX11_isCode 16 = .ok (.ireturn, 1) := by decide +kernel
theorem dX11_isConstant_0 : decode cX11_isConstant 0 = .ok (.iload_n 0, 1) := by decide +kernel
theorem dX11_isConstant_1 : decode cX11_isConstant 1 = .ok (.sipush (-1000), 3) := by decide +kernel
theorem dX11_isConstant_4 : decode cX11_isConstant 4 = .ok (.if_icmp .lt 14, 3) := by decide +kernel
theorem dX11_isConstant_7 : decode cX11_isConstant 7 = .ok (.iload_n 0, 1) := by decide +kernel
theorem dX11_isConstant_8 : decode cX11_isConstant 8 = .ok (.sipush 1000, 3) := by decide +kernel
theorem dX11_isConstant_11 : decode cX11_isConstant 11 = .ok (.if_icmp .gt 7, 3) := by decide +kernel
theorem dX11_isConstant_14 : decode cX11_isConstant 14 = .ok (.iconst 1, 1) := by decide +kernel
theorem dX11_isConstant_15 : decode cX11_isConstant 15 = .ok (.goto 4, 3) := by decide +kernel
theorem dX11_isConstant_18 : decode cX11_isConstant 18 = .ok (.iconst 0, 1) := by decide +kernel
theorem dX11_isConstant_19 : decode cX11_isConstant 19 = .ok (.ireturn, 1) := by decide +kernel
theorem dX11_guard_0 : decode cX11_guard 0 = .ok (.aload_n 0, 1) := by decide +kernel
theorem dX11_guard_1 : decode cX11_guard 1 = .ok (.getfield 10, 3) := by decide +kernel
theorem dX11_guard_4 : decode cX11_guard 4 = .ok (.iload_n 1, 1) := by decide +kernel
theorem dX11_guard_5 : decode cX11_guard 5 = .ok (.invokevirtual 105, 3) := by decide +kernel
theorem dX11_guard_8 : decode cX11_guard 8 = .ok (.ifCond .eq 17, 3) := by decide +kernel
theorem dX11_guard_11 : decode cX11_guard 11 = .ok (.iload_n 2, 1) := by decide +kernel
theorem dX11_guard_12 : decode cX11_guard 12 = .ok (.invokestatic 109, 3) := by decide +kernel
theorem dX11_guard_15 : decode cX11_guard 15 = .ok (.ifCond .eq 10, 3) := by decide +kernel
theorem dX11_guard_18 : decode cX11_guard 18 = .ok (.iload_n 3, 1) := by decide +kernel
theorem dX11_guard_19 : decode cX11_guard 19 = .ok (.invokestatic 112, 3) := by decide +kernel
theorem dX11_guard_22 : decode cX11_guard 22 = .ok (.ifCond .ne 5, 3) := by decide +kernel
theorem dX11_guard_25 : decode cX11_guard 25 = .ok (.iconst (-1), 1) := by decide +kernel
theorem dX11_guard_26 : decode cX11_guard 26 = .ok (.ireturn, 1) := by decide +kernel
theorem dX11_guard_27 : decode cX11_guard 27 = .ok (.aload_n 0, 1) := by decide +kernel
theorem dX11_guard_28 : decode cX11_guard 28 = .ok (.getfield 10, 3) := by decide +kernel
theorem dX11_guard_31 : decode cX11_guard 31 = .ok (.getfield 115, 3) := by decide +kernel
theorem dX11_guard_34 : decode cX11_guard 34 = .ok (.iload_n 1, 1) := by decide +kernel
theorem dX11_guard_35 : decode cX11_guard 35 = .ok (.aaload, 1) := by decide +kernel
theorem dX11_guard_36 : decode cX11_guard 36 = .ok (.astore 4, 2) := by decide +kernel
theorem dX11_guard_38 : decode cX11_guard 38 = .ok (.aload 4, 2) := by decide +kernel
theorem dX11_guard_40 : decode cX11_guard 40 = .ok (.getfield 119, 3) := by decide +kernel
theorem dX11_guard_43 : decode cX11_guard 43 = .ok (.bipush 6, 2) := by decide +kernel
theorem dX11_guard_45 : decode cX11_guard 45 = .ok (.if_icmp .lt 6, 3) := by decide +kernel
theorem dX11_guard_48 : decode cX11_guard 48 = .ok (.bipush (-2), 2) := by decide +kernel
theorem dX11_guard_50 : decode cX11_guard 50 = .ok (.ireturn, 1) := by decide +kernel
theorem dX11_guard_51 : decode cX11_guard 51 = .ok (.aload 4, 2) := by decide +kernel
theorem dX11_guard_53 : decode cX11_guard 53 = .ok (.iload_n 2, 1) := by decide +kernel
theorem dX11_guard_54 : decode cX11_guard 54 = .ok (.aload_n 0, 1) := by decide +kernel
theorem dX11_guard_55 : decode cX11_guard 55 = .ok (.getfield 10, 3) := by decide +kernel
theorem dX11_guard_58 : decode cX11_guard 58 = .ok (.getfield 69, 3) := by decide +kernel
theorem dX11_guard_61 : decode cX11_guard 61 = .ok (.iload_n 3, 1) := by decide +kernel
theorem dX11_guard_62 : decode cX11_guard 62 = .ok (.invokevirtual 124, 3) := by decide +kernel
theorem dX11_guard_65 : decode cX11_guard 65 = .ok (.aload_n 0, 1) := by decide +kernel
theorem dX11_guard_66 : decode cX11_guard 66 = .ok (.invokevirtual 95, 3) := by decide +kernel
theorem dX11_guard_69 : decode cX11_guard 69 = .ok (.aload 4, 2) := by decide +kernel
theorem dX11_guard_71 : decode cX11_guard 71 = .ok (.getfield 119, 3) := by decide +kernel
theorem dX11_guard_74 : decode cX11_guard 74 = .ok (.ireturn, 1) := by decide +kernel
theorem dX7_hasNumber_0 : decode cX7_hasNumber 0 = .ok (.iload_n 1, 1) := by decide +kernel
theorem dX7_hasNumber_1 : decode cX7_hasNumber 1 = .ok (.ifCond .lt 15, 3) := by decide +kernel
theorem dX7_hasNumber_4 : decode cX7_hasNumber 4 = .ok (.iload_n 1, 1) := by decide +kernel
theorem dX7_hasNumber_5 : decode cX7_hasNumber 5 = .ok (.aload_n 0, 1) := by decide +kernel
theorem dX7_hasNumber_6 : decode cX7_hasNumber 6 = .ok (.getfield 17, 3) := by decide +kernel
theorem dX7_hasNumber_9 : decode cX7_hasNumber 9 = .ok (.if_icmp .ge 7, 3) := by decide +kernel
theorem dX7_hasNumber_12 : decode cX7_hasNumber 12 = .ok (.iconst 1, 1) := by decide +kernel
theorem dX7_hasNumber_13 : decode cX7_hasNumber 13 = .ok (.goto 4, 3) := by decide +kernel
theorem dX7_hasNumber_16 : decode cX7_hasNumber 16 = .ok (.iconst 0, 1) := by decide +kernel
theorem dX7_hasNumber_17 : decode cX7_hasNumber 17 = .ok (.ireturn, 1) := by decide +kernel
theorem dX11_rule_0 : decode cX11_rule 0 = .ok (.aload_n 0, 1) := by decide +kernel
theorem dX11_rule_1 : decode cX11_rule 1 = .ok (.getfield 10, 3) := by decide +kernel
theorem dX11_rule_4 : decode cX11_rule 4 = .ok (.iload_n 1, 1) := by decide +kernel
theorem dX11_rule_5 : decode cX11_rule 5 = .ok (.invokevirtual 105, 3) := by decide +kernel
theorem dX11_rule_8 : decode cX11_rule 8 = .ok (.ifCond .eq 29, 3) := by decide +kernel
theorem dX11_rule_11 : decode cX11_rule 11 = .ok (.aload_n 0, 1) := by decide +kernel
theorem dX11_rule_12 : decode cX11_rule 12 = .ok (.getfield 10, 3) := by decide +kernel
theorem dX11_rule_15 : decode cX11_rule 15 = .ok (.iload_n 2, 1) := by decide +kernel
theorem dX11_rule_16 : decode cX11_rule 16 = .ok (.invokevirtual 128, 3) := by decide +kernel
theorem dX11_rule_19 : decode cX11_rule 19 = .ok (.ifCond .eq 18, 3) := by decide +kernel
theorem dX11_rule_22 : decode cX11_rule 22 = .ok (.iload_n 3, 1) := by decide +kernel
theorem dX11_rule_23 : decode cX11_rule 23 = .ok (.invokestatic 109, 3) := by decide +kernel
theorem dX11_rule_26 : decode cX11_rule 26 = .ok (.ifCond .eq 11, 3) := by decide +kernel
theorem dX11_rule_29 : decode cX11_rule 29 = .ok (.iload 4, 2) := by decide +kernel
theorem dX11_rule_31 : decode cX11_rule 31 = .ok (.invokestatic 112, 3) := by decide +kernel
theorem dX11_rule_34 : decode cX11_rule 34 = .ok (.ifCond .ne 5, 3) := by decide +kernel
theorem dX11_rule_37 : decode cX11_rule 37 = .ok (.iconst (-1), 1) := by decide +kernel
theorem dX11_rule_38 : decode cX11_rule 38 = .ok (.ireturn, 1) := by decide +kernel
theorem dX11_rule_39 : decode cX11_rule 39 = .ok (.aload_n 0, 1) := by decide +kernel
theorem dX11_rule_40 : decode cX11_rule 40 = .ok (.getfield 10, 3) := by decide +kernel
theorem dX11_rule_43 : decode cX11_rule 43 = .ok (.getfield 115, 3) := by decide +kernel
theorem dX11_rule_46 : decode cX11_rule 46 = .ok (.iload_n 1, 1) := by decide +kernel
theorem dX11_rule_47 : decode cX11_rule 47 = .ok (.aaload, 1) := by decide +kernel
theorem dX11_rule_48 : decode cX11_rule 48 = .ok (.getfield 131, 3) := by decide +kernel
theorem dX11_rule_51 : decode cX11_rule 51 = .ok (.iload_n 2, 1) := by decide +kernel
theorem dX11_rule_52 : decode cX11_rule 52 = .ok (.aaload, 1) := by decide +kernel
theorem dX11_rule_53 : decode cX11_rule 53 = .ok (.iload_n 3, 1) := by decide +kernel
theorem dX11_rule_54 : decode cX11_rule 54 = .ok (.aload_n 0, 1) := by decide +kernel
theorem dX11_rule_55 : decode cX11_rule 55 = .ok (.getfield 10, 3) := by decide +kernel
theorem dX11_rule_58 : decode cX11_rule 58 = .ok (.getfield 69, 3) := by decide +kernel
theorem dX11_rule_61 : decode cX11_rule 61 = .ok (.iload 4, 2) := by decide +kernel
theorem dX11_rule_63 : decode cX11_rule 63 = .ok (.invokevirtual 135, 3) := by decide +kernel
theorem dX11_rule_66 : decode cX11_rule 66 = .ok (.aload_n 0, 1) := by decide +kernel
theorem dX11_rule_67 : decode cX11_rule 67 = .ok (.invokevirtual 95, 3) := by decide +kernel
theorem dX11_rule_70 : decode cX11_rule 70 = .ok (.iconst 0, 1) := by decide +kernel
theorem dX11_rule_71 : decode cX11_rule 71 = .ok (.ireturn, 1) := by decide +kernel
theorem dX11_many_0 : decode cX11_many 0 = .ok (.iload_n 1, 1) := by decide +kernel
theorem dX11_many_1 : decode cX11_many 1 = .ok (.iconst (-1), 1) := by decide +kernel
theorem dX11_many_2 : decode cX11_many 2 = .ok (.if_icmp .ne 11, 3) := by decide +kernel
theorem dX11_many_5 : decode cX11_many 5 = .ok (.aload_n 0, 1) := by decide +kernel
theorem dX11_many_6 : decode cX11_many 6 = .ok (.getfield 10, 3) := by decide +kernel
theorem dX11_many_9 : decode cX11_many 9 = .ok (.getfield 98, 3) := by decide +kernel
theorem dX11_many_12 : decode cX11_many 12 = .ok (.ireturn, 1) := by decide +kernel
theorem dX11_many_13 : decode cX11_many 13 = .ok (.aload_n 0, 1) := by decide +kernel
theorem dX11_many_14 : decode cX11_many 14 = .ok (.getfield 10, 3) := by decide +kernel
theorem dX11_many_17 : decode cX11_many 17 = .ok (.iload_n 1, 1) := by decide +kernel
theorem dX11_many_18 : decode cX11_many 18 = .ok (.invokevirtual 105, 3) := by decide +kernel
theorem dX11_many_21 : decode cX11_many 21 = .ok (.ifCond .eq 18, 3) := by decide +kernel
theorem dX11_many_24 : decode cX11_many 24 = .ok (.aload_n 0, 1) := by decide +kernel
theorem dX11_many_25 : decode cX11_many 25 = .ok (.getfield 10, 3) := by decide +kernel
theorem dX11_many_28 : decode cX11_many 28 = .ok (.getfield 115, 3) := by decide +kernel
theorem dX11_many_31 : decode cX11_many 31 = .ok (.iload_n 1, 1) := by decide +kernel
theorem dX11_many_32 : decode cX11_many 32 = .ok (.aaload, 1) := by decide +kernel
theorem dX11_many_33 : decode cX11_many 33 = .ok (.getfield 119, 3) := by decide +kernel
theorem dX11_many_36 : decode cX11_many 36 = .ok (.goto 4, 3) := by decide +kernel
theorem dX11_many_39 : decode cX11_many 39 = .ok (.iconst (-1), 1) := by decide +kernel
theorem dX11_many_40 : decode cX11_many 40 = .ok (.ireturn, 1) := by decide +kernel
theorem dX11_isGiven_0 : decode cX11_isGiven 0 = .ok (.iload_n 0, 1) := by decide +kernel
theorem dX11_isGiven_1 : decode cX11_isGiven 1 = .ok (.ldc_w 300, 3) := by decide +kernel
theorem dX11_isGiven_4 : decode cX11_isGiven 4 = .ok (.if_icmp .lt 14, 3) := by decide +kernel
theorem dX11_isGiven_7 : decode cX11_isGiven 7 = .ok (.iload_n 0, 1) := by decide +kernel
theorem dX11_isGiven_8 : decode cX11_isGiven 8 = .ok (.ldc_w 301, 3) := by decide +kernel
theorem dX11_isGiven_11 : decode cX11_isGiven 11 = .ok (.if_icmp .gt 7, 3) := by decide +kernel
theorem dX11_isGiven_14 : decode cX11_isGiven 14 = .ok (.iconst 1, 1) := by decide +kernel
theorem dX11_isGiven_15 : decode cX11_isGiven 15 = .ok (.goto 4, 3) := by decide +kernel
theorem dX11_isGiven_18 : decode cX11_isGiven 18 = .ok (.iconst 0, 1) := by decide +kernel
theorem dX11_isGiven_19 : decode cX11_isGiven 19 = .ok (.ireturn, 1) := by decide +kernel
theorem dX11_set_0 : decode cX11_set 0 = .ok (.aload_n 0, 1) := by decide +kernel
theorem dX11_set_1 : decode cX11_set 1 = .ok (.getfield 10, 3) := by decide +kernel
theorem dX11_set_4 : decode cX11_set 4 = .ok (.iload_n 1, 1) := by decide +kernel
theorem dX11_set_5 : decode cX11_set 5 = .ok (.invokevirtual 128, 3) := by decide +kernel
theorem dX11_set_8 : decode cX11_set 8 = .ok (.ifCond .eq 10, 3) := by decide +kernel
theorem dX11_set_11 : decode cX11_set 11 = .ok (.iload_n 2, 1) := by decide +kernel
theorem dX11_set_12 : decode cX11_set 12 = .ok (.invokestatic 140, 3) := by decide +kernel
theorem dX11_set_15 : decode cX11_set 15 = .ok (.ifCond .ne 5, 3) := by decide +kernel
theorem dX11_set_18 : decode cX11_set 18 = .ok (.iconst (-1), 1) := by decide +kernel
theorem dX11_set_19 : decode cX11_set 19 = .ok (.ireturn, 1) := by decide +kernel
theorem dX11_set_20 : decode cX11_set 20 = .ok (.aload_n 0, 1) := by decide +kernel
theorem dX11_set_21 : decode cX11_set 21 = .ok (.getfield 16, 3) := by decide +kernel
theorem dX11_set_24 : decode cX11_set 24 = .ok (.iload_n 1, 1) := by decide +kernel
theorem dX11_set_25 : decode cX11_set 25 = .ok (.iload_n 2, 1) := by decide +kernel
theorem dX11_set_26 : decode cX11_set 26 = .ok (.i2l, 1) := by decide +kernel
theorem dX11_set_27 : decode cX11_set 27 = .ok (.lastore, 1) := by decide +kernel
theorem dX11_set_28 : decode cX11_set 28 = .ok (.iconst 0, 1) := by decide +kernel
theorem dX11_set_29 : decode cX11_set 29 = .ok (.ireturn, 1) := by decide +kernel
theorem dX11_at_0 : decode cX11_at 0 = .ok (.aload_n 0, 1) := by decide +kernel
theorem dX11_at_1 : decode cX11_at 1 = .ok (.getfield 10, 3) := by decide +kernel
theorem dX11_at_4 : decode cX11_at 4 = .ok (.iload_n 1, 1) := by decide +kernel
theorem dX11_at_5 : decode cX11_at 5 = .ok (.invokevirtual 128, 3) := by decide +kernel
theorem dX11_at_8 : decode cX11_at 8 = .ok (.ifCond .eq 12, 3) := by decide +kernel
theorem dX11_at_11 : decode cX11_at 11 = .ok (.aload_n 0, 1) := by decide +kernel
theorem dX11_at_12 : decode cX11_at 12 = .ok (.getfield 16, 3) := by decide +kernel
theorem dX11_at_15 : decode cX11_at 15 = .ok (.iload_n 1, 1) := by decide +kernel
theorem dX11_at_16 : decode cX11_at 16 = .ok (.laload, 1) := by decide +kernel
theorem dX11_at_17 : decode cX11_at 17 = .ok (.goto 4, 3) := by decide +kernel
theorem dX11_at_20 : decode cX11_at 20 = .ok (.lconst 0, 1) := by decide +kernel
theorem dX11_at_21 : decode cX11_at 21 = .ok (.lreturn, 1) := by decide +kernel
theorem dX11_isTurns_0 : decode cX11_isTurns 0 = .ok (.iload_n 0, 1) := by decide +kernel
theorem dX11_isTurns_1 : decode cX11_isTurns 1 = .ok (.iconst 1, 1) := by decide +kernel
theorem dX11_isTurns_2 : decode cX11_isTurns 2 = .ok (.if_icmp .lt 14, 3) := by decide +kernel
theorem dX11_isTurns_5 : decode cX11_isTurns 5 = .ok (.iload_n 0, 1) := by decide +kernel
theorem dX11_isTurns_6 : decode cX11_isTurns 6 = .ok (.sipush 10000, 3) := by decide +kernel
end
