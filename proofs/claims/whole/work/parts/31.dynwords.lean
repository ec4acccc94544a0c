theorem tw_2 : (Cond.initialized "EndingCourt$Program") ∈ xm_tb := ms_1 (List.mem_of_getElem? (i := 2) (by decide +kernel)) rfl
theorem tw_3 : (Cond.initialized "EndingCourt$Body") ∈ xm_tb := ms_1 (List.mem_of_getElem? (i := 3) (by decide +kernel)) rfl
theorem tw_4 : (Cond.initialized "EndingCourt$Place") ∈ xm_tb := ms_1 (List.mem_of_getElem? (i := 4) (by decide +kernel)) rfl
theorem tw_5 : (Cond.initialized "EndingCourt$Affine") ∈ xm_tb := ms_1 (List.mem_of_getElem? (i := 5) (by decide +kernel)) rfl
theorem tw_6 : (Cond.initialized "EndingCourt$Course") ∈ xm_tb := ms_1 (List.mem_of_getElem? (i := 6) (by decide +kernel)) rfl
theorem tw_7 : (Cond.initialized "EndingCourt$Box") ∈ xm_tb := ms_1 (List.mem_of_getElem? (i := 7) (by decide +kernel)) rfl
theorem tw_8 : (Cond.initialized "EndingCourt$Rounds") ∈ xm_tb := ms_1 (List.mem_of_getElem? (i := 8) (by decide +kernel)) rfl
theorem tw_9 : (Cond.initialized "EndingCourt$Shaper") ∈ xm_tb := ms_1 (List.mem_of_getElem? (i := 9) (by decide +kernel)) rfl
theorem tw_10 : (Cond.initialized "EndingCourt$Findings") ∈ xm_tb := ms_1 (List.mem_of_getElem? (i := 10) (by decide +kernel)) rfl
theorem tw_11 : (Cond.initialized "EndingCourt$SumOrder") ∈ xm_tb := ms_1 (List.mem_of_getElem? (i := 11) (by decide +kernel)) rfl
theorem tw_13 : (Cond.initialized "EndingCourt$Calls") ∈ xm_tb := ms_1 (List.mem_of_getElem? (i := 13) (by decide +kernel)) rfl
theorem tw_22 : Cond.methodLink RX11 1 objectInit ∈ xm_tb := ms_1 (List.mem_of_getElem? (i := 22) (by decide +kernel)) rfl
theorem tw_25 : (Cond.classLink "EndingCourt" (7 : Nat) "EndingCourt$Program") ∈ xm_tb := ms_1 (List.mem_of_getElem? (i := 25) (by decide +kernel)) rfl
theorem tw_26 : (Cond.instantiable "EndingCourt$Program" (3 : Nat)) ∈ xm_tb := ms_1 (List.mem_of_getElem? (i := 26) (by decide +kernel)) rfl
theorem tw_27 : Cond.methodLink RX11 9 yX7_init ∈ xm_tb := ms_1 (List.mem_of_getElem? (i := 27) (by decide +kernel)) rfl
theorem tw_30 : Cond.methodLink RX7 3 objectInit ∈ xm_tb := ms_1 (List.mem_of_getElem? (i := 30) (by decide +kernel)) rfl
theorem tw_31 : (Cond.classLink "EndingCourt$Program" (9 : Nat) "EndingCourt$Body") ∈ xm_tb := ms_1 (List.mem_of_getElem? (i := 31) (by decide +kernel)) rfl
theorem tw_33 : (Cond.instantiable "EndingCourt$Body" (5 : Nat)) ∈ xm_tb := ms_1 (List.mem_of_getElem? (i := 33) (by decide +kernel)) rfl
theorem tw_34 : Cond.methodLink RX7 21 yX1_init ∈ xm_tb := ms_1 (List.mem_of_getElem? (i := 34) (by decide +kernel)) rfl
theorem tw_37 : Cond.methodLink RX1 3 objectInit ∈ xm_tb := ms_1 (List.mem_of_getElem? (i := 37) (by decide +kernel)) rfl
theorem tw_38 : (Cond.classLink "EndingCourt$Body" (9 : Nat) "EndingCourt$Affine") ∈ xm_tb := ms_1 (List.mem_of_getElem? (i := 38) (by decide +kernel)) rfl
theorem tw_40 : (Cond.classLink "EndingCourt$Body" (20 : Nat) "EndingCourt$Place") ∈ xm_tb := ms_1 (List.mem_of_getElem? (i := 40) (by decide +kernel)) rfl
theorem tw_41 : (Cond.instantiable "EndingCourt$Place" (4 : Nat)) ∈ xm_tb := ms_1 (List.mem_of_getElem? (i := 41) (by decide +kernel)) rfl
theorem tw_45 : Cond.methodLink RX6 1 objectInit ∈ xm_tb := ms_1 (List.mem_of_getElem? (i := 45) (by decide +kernel)) rfl
theorem tw_61 : (Cond.instantiable "EndingCourt$Affine" (2 : Nat)) ∈ xm_tb := ms_1 (List.mem_of_getElem? (i := 61) (by decide +kernel)) rfl
theorem tw_65 : Cond.methodLink RX0 3 objectInit ∈ xm_tb := ms_1 (List.mem_of_getElem? (i := 65) (by decide +kernel)) rfl
theorem tw_121 : (Cond.classLink "EndingCourt" (20 : Nat) "EndingCourt$Course") ∈ xm_tb := ms_1 (List.mem_of_getElem? (i := 121) (by decide +kernel)) rfl
theorem tw_122 : (Cond.instantiable "EndingCourt$Course" (3 : Nat)) ∈ xm_tb := ms_1 (List.mem_of_getElem? (i := 122) (by decide +kernel)) rfl
theorem tw_126 : Cond.methodLink RX4 3 objectInit ∈ xm_tb := ms_1 (List.mem_of_getElem? (i := 126) (by decide +kernel)) rfl
theorem tw_138 : (Cond.classLink "EndingCourt" (27 : Nat) "EndingCourt$Box") ∈ xm_tb := ms_1 (List.mem_of_getElem? (i := 138) (by decide +kernel)) rfl
theorem tw_139 : (Cond.instantiable "EndingCourt$Box" (1 : Nat)) ∈ xm_tb := ms_1 (List.mem_of_getElem? (i := 139) (by decide +kernel)) rfl
theorem tw_143 : Cond.methodLink RX2 3 objectInit ∈ xm_tb := ms_1 (List.mem_of_getElem? (i := 143) (by decide +kernel)) rfl
theorem tw_149 : (Cond.classLink "EndingCourt" (37 : Nat) "EndingCourt$Rounds") ∈ xm_tb := ms_1 (List.mem_of_getElem? (i := 149) (by decide +kernel)) rfl
theorem tw_150 : (Cond.instantiable "EndingCourt$Rounds" (2 : Nat)) ∈ xm_tb := ms_1 (List.mem_of_getElem? (i := 150) (by decide +kernel)) rfl
theorem tw_154 : Cond.methodLink RX8 3 objectInit ∈ xm_tb := ms_1 (List.mem_of_getElem? (i := 154) (by decide +kernel)) rfl
theorem tw_155 : (Cond.classLink "EndingCourt$Rounds" (9 : Nat) "EndingCourt$Box") ∈ xm_tb := ms_1 (List.mem_of_getElem? (i := 155) (by decide +kernel)) rfl
theorem tw_165 : (Cond.classLink "EndingCourt" (44 : Nat) "EndingCourt$Shaper") ∈ xm_tb := ms_1 (List.mem_of_getElem? (i := 165) (by decide +kernel)) rfl
theorem tw_166 : (Cond.instantiable "EndingCourt$Shaper" (4 : Nat)) ∈ xm_tb := ms_1 (List.mem_of_getElem? (i := 166) (by decide +kernel)) rfl
theorem tw_170 : Cond.methodLink RX9 3 objectInit ∈ xm_tb := ms_1 (List.mem_of_getElem? (i := 170) (by decide +kernel)) rfl
theorem tw_184 : (Cond.classLink "EndingCourt" (51 : Nat) "EndingCourt$Findings") ∈ xm_tb := ms_1 (List.mem_of_getElem? (i := 184) (by decide +kernel)) rfl
theorem tw_185 : (Cond.instantiable "EndingCourt$Findings" (7 : Nat)) ∈ xm_tb := ms_1 (List.mem_of_getElem? (i := 185) (by decide +kernel)) rfl
theorem tw_186 : Cond.methodLink RX11 53 yX5_init ∈ xm_tb := ms_1 (List.mem_of_getElem? (i := 186) (by decide +kernel)) rfl
theorem tw_189 : Cond.methodLink RX5 3 objectInit ∈ xm_tb := ms_1 (List.mem_of_getElem? (i := 189) (by decide +kernel)) rfl
theorem tw_190 : (Cond.classLink "EndingCourt$Findings" (9 : Nat) "EndingCourt$SumOrder") ∈ xm_tb := ms_1 (List.mem_of_getElem? (i := 190) (by decide +kernel)) rfl
theorem tw_191 : (Cond.instantiable "EndingCourt$SumOrder" (6 : Nat)) ∈ xm_tb := ms_1 (List.mem_of_getElem? (i := 191) (by decide +kernel)) rfl
theorem tw_195 : Cond.methodLink RX10 3 objectInit ∈ xm_tb := ms_1 (List.mem_of_getElem? (i := 195) (by decide +kernel)) rfl
theorem tw_244 : (Cond.classLink "EndingCourt" (62 : Nat) "EndingCourt$Calls") ∈ xm_tb := ms_2 (List.mem_of_getElem? (i := 4) (by decide +kernel)) rfl
theorem tw_245 : (Cond.instantiable "EndingCourt$Calls" (8 : Nat)) ∈ xm_tb := ms_2 (List.mem_of_getElem? (i := 5) (by decide +kernel)) rfl
theorem tw_249 : Cond.methodLink RX3 3 objectInit ∈ xm_tb := ms_2 (List.mem_of_getElem? (i := 9) (by decide +kernel)) rfl
theorem tw_861 : Cond.methodLink RX12 1 objectInit ∈ xm_tb := ms_4 (List.mem_of_getElem? (i := 141) (by decide +kernel)) rfl
theorem tn_42 : Cond.methodLinkNest RX1 22 yX6_init "EndingCourt" ∈ lw_tbl := mt_1 (List.mem_of_getElem? (i := 42) (by decide +kernel))
theorem tn_62 : Cond.methodLinkNest RX1 31 yX0_init "EndingCourt" ∈ lw_tbl := mt_1 (List.mem_of_getElem? (i := 62) (by decide +kernel))
theorem tn_123 : Cond.methodLinkNest RX11 22 yX4_init "EndingCourt" ∈ lw_tbl := mt_1 (List.mem_of_getElem? (i := 123) (by decide +kernel))
theorem tn_140 : Cond.methodLinkNest RX11 29 yX2_init "EndingCourt" ∈ lw_tbl := mt_1 (List.mem_of_getElem? (i := 140) (by decide +kernel))
theorem tn_151 : Cond.methodLinkNest RX11 39 yX8_init "EndingCourt" ∈ lw_tbl := mt_1 (List.mem_of_getElem? (i := 151) (by decide +kernel))
theorem tn_156 : Cond.methodLinkNest RX8 11 yX2_init "EndingCourt" ∈ lw_tbl := mt_1 (List.mem_of_getElem? (i := 156) (by decide +kernel))
theorem tn_167 : Cond.methodLinkNest RX11 46 yX9_init "EndingCourt" ∈ lw_tbl := mt_1 (List.mem_of_getElem? (i := 167) (by decide +kernel))
theorem tn_192 : Cond.methodLinkNest RX5 11 yX10_init "EndingCourt" ∈ lw_tbl := mt_1 (List.mem_of_getElem? (i := 192) (by decide +kernel))
theorem tn_246 : Cond.methodLinkNest RX11 64 yX3_init "EndingCourt" ∈ lw_tbl := mt_2 (List.mem_of_getElem? (i := 6) (by decide +kernel))
theorem fl_X12_43 : xm_fl RX12 43 12 12 2 RX12 TX12 50 tyX12 := ⟨xc_12, by decide, ms_4 (List.mem_of_getElem? (i := 159) (by decide +kernel)) rfl, rfl, rfl⟩
abbrev mt_X0_init : xm_M := (yX0_init, cX0_init, 1, none, 1, 20)
theorem ok_X0_init : xm_ok mt_X0_init 0 := ⟨plainFor_of_name (by decide +kernel), ms_1 (List.mem_of_getElem? (i := 64) (by decide +kernel)) rfl, ms_1 (List.mem_of_getElem? (i := 5) (by decide +kernel)) rfl, by decide +kernel, by decide +kernel, by decide +kernel⟩
theorem im_X0_init : Cond.instanceMethod yX0_init ∈ xm_tb := ms_1 (List.mem_of_getElem? (i := 63) (by decide +kernel)) rfl
theorem dX0_init_0 : decode cX0_init 0 = .ok (.aload_n 0, 1) := by decide +kernel
theorem dX0_init_1 : decode cX0_init 1 = .ok (.invokespecial 3, 3) := by decide +kernel
theorem dX0_init_4 : decode cX0_init 4 = .ok (.aload_n 0, 1) := by decide +kernel
theorem dX0_init_5 : decode cX0_init 5 = .ok (.iconst 3, 1) := by decide +kernel
theorem dX0_init_6 : decode cX0_init 6 = .ok (.newarray .int, 2) := by decide +kernel
theorem dX0_init_8 : decode cX0_init 8 = .ok (.putfield 9, 3) := by decide +kernel
theorem dX0_init_11 : decode cX0_init 11 = .ok (.return_, 1) := by decide +kernel
abbrev mt_X2_init : xm_M := (yX2_init, cX2_init, 1, none, 1, 20)
theorem ok_X2_init : xm_ok mt_X2_init 0 := ⟨plainFor_of_name (by decide +kernel), ms_1 (List.mem_of_getElem? (i := 142) (by decide +kernel)) rfl, ms_1 (List.mem_of_getElem? (i := 7) (by decide +kernel)) rfl, by decide +kernel, by decide +kernel, by decide +kernel⟩
theorem im_X2_init : Cond.instanceMethod yX2_init ∈ xm_tb := ms_1 (List.mem_of_getElem? (i := 141) (by decide +kernel)) rfl
theorem dX2_init_0 : decode cX2_init 0 = .ok (.aload_n 0, 1) := by decide +kernel
theorem dX2_init_1 : decode cX2_init 1 = .ok (.invokespecial 3, 3) := by decide +kernel
theorem dX2_init_4 : decode cX2_init 4 = .ok (.aload_n 0, 1) := by decide +kernel
theorem dX2_init_5 : decode cX2_init 5 = .ok (.bipush 6, 2) := by decide +kernel
theorem dX2_init_7 : decode cX2_init 7 = .ok (.newarray .long, 2) := by decide +kernel
theorem dX2_init_9 : decode cX2_init 9 = .ok (.putfield 9, 3) := by decide +kernel
theorem dX2_init_12 : decode cX2_init 12 = .ok (.return_, 1) := by decide +kernel
abbrev mt_X3_init : xm_M := (yX3_init, cX3_init, 1, none, 1, 20)
theorem ok_X3_init : xm_ok mt_X3_init 0 := ⟨plainFor_of_name (by decide +kernel), ms_2 (List.mem_of_getElem? (i := 8) (by decide +kernel)) rfl, ms_1 (List.mem_of_getElem? (i := 13) (by decide +kernel)) rfl, by decide +kernel, by decide +kernel, by decide +kernel⟩
theorem im_X3_init : Cond.instanceMethod yX3_init ∈ xm_tb := ms_2 (List.mem_of_getElem? (i := 7) (by decide +kernel)) rfl
theorem dX3_init_0 : decode cX3_init 0 = .ok (.aload_n 0, 1) := by decide +kernel
theorem dX3_init_1 : decode cX3_init 1 = .ok (.invokespecial 3, 3) := by decide +kernel
theorem dX3_init_4 : decode cX3_init 4 = .ok (.aload_n 0, 1) := by decide +kernel
theorem dX3_init_5 : decode cX3_init 5 = .ok (.bipush 40, 2) := by decide +kernel
theorem dX3_init_7 : decode cX3_init 7 = .ok (.newarray .long, 2) := by decide +kernel
theorem dX3_init_9 : decode cX3_init 9 = .ok (.putfield 9, 3) := by decide +kernel
theorem dX3_init_12 : decode cX3_init 12 = .ok (.aload_n 0, 1) := by decide +kernel
theorem dX3_init_13 : decode cX3_init 13 = .ok (.sipush 1000, 3) := by decide +kernel
theorem dX3_init_16 : decode cX3_init 16 = .ok (.newarray .long, 2) := by decide +kernel
theorem dX3_init_18 : decode cX3_init 18 = .ok (.putfield 15, 3) := by decide +kernel
theorem dX3_init_21 : decode cX3_init 21 = .ok (.aload_n 0, 1) := by decide +kernel
theorem dX3_init_22 : decode cX3_init 22 = .ok (.sipush 2048, 3) := by decide +kernel
theorem dX3_init_25 : decode cX3_init 25 = .ok (.newarray .int, 2) := by decide +kernel
theorem dX3_init_27 : decode cX3_init 27 = .ok (.putfield 18, 3) := by decide +kernel
theorem dX3_init_30 : decode cX3_init 30 = .ok (.aload_n 0, 1) := by decide +kernel
theorem dX3_init_31 : decode cX3_init 31 = .ok (.iconst (-1), 1) := by decide +kernel
theorem dX3_init_32 : decode cX3_init 32 = .ok (.putfield 22, 3) := by decide +kernel
theorem dX3_init_35 : decode cX3_init 35 = .ok (.aload_n 0, 1) := by decide +kernel
theorem dX3_init_36 : decode cX3_init 36 = .ok (.iconst (-1), 1) := by decide +kernel
theorem dX3_init_37 : decode cX3_init 37 = .ok (.putfield 26, 3) := by decide +kernel
theorem dX3_init_40 : decode cX3_init 40 = .ok (.aload_n 0, 1) := by decide +kernel
theorem dX3_init_41 : decode cX3_init 41 = .ok (.iconst (-1), 1) := by decide +kernel
theorem dX3_init_42 : decode cX3_init 42 = .ok (.putfield 29, 3) := by decide +kernel
theorem dX3_init_45 : decode cX3_init 45 = .ok (.return_, 1) := by decide +kernel
abbrev mt_X4_init : xm_M := (yX4_init, cX4_init, 1, none, 1, 20)
theorem ok_X4_init : xm_ok mt_X4_init 0 := ⟨plainFor_of_name (by decide +kernel), ms_1 (List.mem_of_getElem? (i := 125) (by decide +kernel)) rfl, ms_1 (List.mem_of_getElem? (i := 6) (by decide +kernel)) rfl, by decide +kernel, by decide +kernel, by decide +kernel⟩
theorem im_X4_init : Cond.instanceMethod yX4_init ∈ xm_tb := ms_1 (List.mem_of_getElem? (i := 124) (by decide +kernel)) rfl
theorem dX4_init_0 : decode cX4_init 0 = .ok (.aload_n 0, 1) := by decide +kernel
theorem dX4_init_1 : decode cX4_init 1 = .ok (.invokespecial 3, 3) := by decide +kernel
theorem dX4_init_4 : decode cX4_init 4 = .ok (.aload_n 0, 1) := by decide +kernel
theorem dX4_init_5 : decode cX4_init 5 = .ok (.iconst 3, 1) := by decide +kernel
theorem dX4_init_6 : decode cX4_init 6 = .ok (.newarray .long, 2) := by decide +kernel
theorem dX4_init_8 : decode cX4_init 8 = .ok (.putfield 9, 3) := by decide +kernel
theorem dX4_init_11 : decode cX4_init 11 = .ok (.aload_n 0, 1) := by decide +kernel
theorem dX4_init_12 : decode cX4_init 12 = .ok (.iconst 3, 1) := by decide +kernel
theorem dX4_init_13 : decode cX4_init 13 = .ok (.newarray .long, 2) := by decide +kernel
theorem dX4_init_15 : decode cX4_init 15 = .ok (.putfield 15, 3) := by decide +kernel
theorem dX4_init_18 : decode cX4_init 18 = .ok (.aload_n 0, 1) := by decide +kernel
theorem dX4_init_19 : decode cX4_init 19 = .ok (.iconst (-1), 1) := by decide +kernel
theorem dX4_init_20 : decode cX4_init 20 = .ok (.putfield 18, 3) := by decide +kernel
theorem dX4_init_23 : decode cX4_init 23 = .ok (.return_, 1) := by decide +kernel
abbrev mt_X6_init : xm_M := (yX6_init, cX6_init, 1, none, 1, 20)
theorem ok_X6_init : xm_ok mt_X6_init 0 := ⟨plainFor_of_name (by decide +kernel), ms_1 (List.mem_of_getElem? (i := 44) (by decide +kernel)) rfl, ms_1 (List.mem_of_getElem? (i := 4) (by decide +kernel)) rfl, by decide +kernel, by decide +kernel, by decide +kernel⟩
theorem im_X6_init : Cond.instanceMethod yX6_init ∈ xm_tb := ms_1 (List.mem_of_getElem? (i := 43) (by decide +kernel)) rfl
theorem dX6_init_0 : decode cX6_init 0 = .ok (.aload_n 0, 1) := by decide +kernel
theorem dX6_init_1 : decode cX6_init 1 = .ok (.invokespecial 1, 3) := by decide +kernel
theorem dX6_init_4 : decode cX6_init 4 = .ok (.aload_n 0, 1) := by decide +kernel
theorem dX6_init_5 : decode cX6_init 5 = .ok (.sipush 512, 3) := by decide +kernel
theorem dX6_init_8 : decode cX6_init 8 = .ok (.newarray .long, 2) := by decide +kernel
theorem dX6_init_10 : decode cX6_init 10 = .ok (.putfield 9, 3) := by decide +kernel
theorem dX6_init_13 : decode cX6_init 13 = .ok (.return_, 1) := by decide +kernel
abbrev mt_X9_init : xm_M := (yX9_init, cX9_init, 1, none, 1, 20)
theorem ok_X9_init : xm_ok mt_X9_init 0 := ⟨plainFor_of_name (by decide +kernel), ms_1 (List.mem_of_getElem? (i := 169) (by decide +kernel)) rfl, ms_1 (List.mem_of_getElem? (i := 9) (by decide +kernel)) rfl, by decide +kernel, by decide +kernel, by decide +kernel⟩
theorem im_X9_init : Cond.instanceMethod yX9_init ∈ xm_tb := ms_1 (List.mem_of_getElem? (i := 168) (by decide +kernel)) rfl
theorem dX9_init_0 : decode cX9_init 0 = .ok (.aload_n 0, 1) := by decide +kernel
theorem dX9_init_1 : decode cX9_init 1 = .ok (.invokespecial 3, 3) := by decide +kernel
theorem dX9_init_4 : decode cX9_init 4 = .ok (.aload_n 0, 1) := by decide +kernel
theorem dX9_init_5 : decode cX9_init 5 = .ok (.bipush 48, 2) := by decide +kernel
theorem dX9_init_7 : decode cX9_init 7 = .ok (.newarray .long, 2) := by decide +kernel
theorem dX9_init_9 : decode cX9_init 9 = .ok (.putfield 11, 3) := by decide +kernel
theorem dX9_init_12 : decode cX9_init 12 = .ok (.aload_n 0, 1) := by decide +kernel
theorem dX9_init_13 : decode cX9_init 13 = .ok (.iconst 4, 1) := by decide +kernel
theorem dX9_init_14 : decode cX9_init 14 = .ok (.newarray .long, 2) := by decide +kernel
theorem dX9_init_16 : decode cX9_init 16 = .ok (.putfield 15, 3) := by decide +kernel
theorem dX9_init_19 : decode cX9_init 19 = .ok (.return_, 1) := by decide +kernel
abbrev mt_X10_init : xm_M := (yX10_init, cX10_init, 1, none, 1, 20)
theorem ok_X10_init : xm_ok mt_X10_init 0 := ⟨plainFor_of_name (by decide +kernel), ms_1 (List.mem_of_getElem? (i := 194) (by decide +kernel)) rfl, ms_1 (List.mem_of_getElem? (i := 11) (by decide +kernel)) rfl, by decide +kernel, by decide +kernel, by decide +kernel⟩
theorem im_X10_init : Cond.instanceMethod yX10_init ∈ xm_tb := ms_1 (List.mem_of_getElem? (i := 193) (by decide +kernel)) rfl
theorem dX10_init_0 : decode cX10_init 0 = .ok (.aload_n 0, 1) := by decide +kernel
theorem dX10_init_1 : decode cX10_init 1 = .ok (.invokespecial 3, 3) := by decide +kernel
theorem dX10_init_4 : decode cX10_init 4 = .ok (.aload_n 0, 1) := by decide +kernel
theorem dX10_init_5 : decode cX10_init 5 = .ok (.iconst 3, 1) := by decide +kernel
theorem dX10_init_6 : decode cX10_init 6 = .ok (.newarray .int, 2) := by decide +kernel
theorem dX10_init_8 : decode cX10_init 8 = .ok (.putfield 9, 3) := by decide +kernel
theorem dX10_init_11 : decode cX10_init 11 = .ok (.return_, 1) := by decide +kernel
abbrev mt_X5_init : xm_M := (yX5_init, cX5_init, 1, none, 2, 40)
theorem ok_X5_init : xm_ok mt_X5_init 0 := ⟨plainFor_of_name (by decide +kernel), ms_1 (List.mem_of_getElem? (i := 188) (by decide +kernel)) rfl, ms_1 (List.mem_of_getElem? (i := 10) (by decide +kernel)) rfl, by decide +kernel, by decide +kernel, by decide +kernel⟩
theorem im_X5_init : Cond.instanceMethod yX5_init ∈ xm_tb := ms_1 (List.mem_of_getElem? (i := 187) (by decide +kernel)) rfl
theorem dX5_init_0 : decode cX5_init 0 = .ok (.aload_n 0, 1) := by decide +kernel
theorem dX5_init_1 : decode cX5_init 1 = .ok (.invokespecial 3, 3) := by decide +kernel
theorem dX5_init_4 : decode cX5_init 4 = .ok (.aload_n 0, 1) := by decide +kernel
theorem dX5_init_5 : decode cX5_init 5 = .ok (.new 9, 3) := by decide +kernel
theorem dX5_init_8 : decode cX5_init 8 = .ok (.dup, 1) := by decide +kernel
theorem dX5_init_9 : decode cX5_init 9 = .ok (.invokespecial 11, 3) := by decide +kernel
theorem dX5_init_12 : decode cX5_init 12 = .ok (.putfield 12, 3) := by decide +kernel
theorem dX5_init_15 : decode cX5_init 15 = .ok (.aload_n 0, 1) := by decide +kernel
theorem dX5_init_16 : decode cX5_init 16 = .ok (.bipush 15, 2) := by decide +kernel
theorem dX5_init_18 : decode cX5_init 18 = .ok (.newarray .int, 2) := by decide +kernel
theorem dX5_init_20 : decode cX5_init 20 = .ok (.putfield 18, 3) := by decide +kernel
theorem dX5_init_23 : decode cX5_init 23 = .ok (.aload_n 0, 1) := by decide +kernel
theorem dX5_init_24 : decode cX5_init 24 = .ok (.iconst 5, 1) := by decide +kernel
theorem dX5_init_25 : decode cX5_init 25 = .ok (.newarray .int, 2) := by decide +kernel
theorem dX5_init_27 : decode cX5_init 27 = .ok (.putfield 22, 3) := by decide +kernel
theorem dX5_init_30 : decode cX5_init 30 = .ok (.aload_n 0, 1) := by decide +kernel
theorem dX5_init_31 : decode cX5_init 31 = .ok (.iconst 3, 1) := by decide +kernel
theorem dX5_init_32 : decode cX5_init 32 = .ok (.newarray .int, 2) := by decide +kernel
theorem dX5_init_34 : decode cX5_init 34 = .ok (.putfield 25, 3) := by decide +kernel
theorem dX5_init_37 : decode cX5_init 37 = .ok (.aload_n 0, 1) := by decide +kernel
theorem dX5_init_38 : decode cX5_init 38 = .ok (.getfield 22, 3) := by decide +kernel
theorem dX5_init_41 : decode cX5_init 41 = .ok (.iconst (-1), 1) := by decide +kernel
theorem dX5_init_42 : decode cX5_init 42 = .ok (.invokestatic 28, 3) := by decide +kernel
theorem dX5_init_45 : decode cX5_init 45 = .ok (.return_, 1) := by decide +kernel
abbrev mt_X8_init : xm_M := (yX8_init, cX8_init, 1, none, 2, 40)
theorem ok_X8_init : xm_ok mt_X8_init 0 := ⟨plainFor_of_name (by decide +kernel), ms_1 (List.mem_of_getElem? (i := 153) (by decide +kernel)) rfl, ms_1 (List.mem_of_getElem? (i := 8) (by decide +kernel)) rfl, by decide +kernel, by decide +kernel, by decide +kernel⟩
theorem im_X8_init : Cond.instanceMethod yX8_init ∈ xm_tb := ms_1 (List.mem_of_getElem? (i := 152) (by decide +kernel)) rfl
theorem dX8_init_0 : decode cX8_init 0 = .ok (.aload_n 0, 1) := by decide +kernel
theorem dX8_init_1 : decode cX8_init 1 = .ok (.invokespecial 3, 3) := by decide +kernel
theorem dX8_init_4 : decode cX8_init 4 = .ok (.aload_n 0, 1) := by decide +kernel
theorem dX8_init_5 : decode cX8_init 5 = .ok (.new 9, 3) := by decide +kernel
theorem dX8_init_8 : decode cX8_init 8 = .ok (.dup, 1) := by decide +kernel
theorem dX8_init_9 : decode cX8_init 9 = .ok (.invokespecial 11, 3) := by decide +kernel
theorem dX8_init_12 : decode cX8_init 12 = .ok (.putfield 12, 3) := by decide +kernel
theorem dX8_init_15 : decode cX8_init 15 = .ok (.aload_n 0, 1) := by decide +kernel
theorem dX8_init_16 : decode cX8_init 16 = .ok (.new 9, 3) := by decide +kernel
theorem dX8_init_19 : decode cX8_init 19 = .ok (.dup, 1) := by decide +kernel
theorem dX8_init_20 : decode cX8_init 20 = .ok (.invokespecial 11, 3) := by decide +kernel
theorem dX8_init_23 : decode cX8_init 23 = .ok (.putfield 18, 3) := by decide +kernel
theorem dX8_init_26 : decode cX8_init 26 = .ok (.return_, 1) := by decide +kernel
abbrev mt_X1_init : xm_M := (yX1_init, cX1_init, 2, none, 2, 40)
theorem ok_X1_init : xm_ok mt_X1_init 0 := ⟨plainFor_of_name (by decide +kernel), ms_1 (List.mem_of_getElem? (i := 36) (by decide +kernel)) rfl, ms_1 (List.mem_of_getElem? (i := 3) (by decide +kernel)) rfl, by decide +kernel, by decide +kernel, by decide +kernel⟩
theorem im_X1_init : Cond.instanceMethod yX1_init ∈ xm_tb := ms_1 (List.mem_of_getElem? (i := 35) (by decide +kernel)) rfl
theorem dX1_init_0 : decode cX1_init 0 = .ok (.aload_n 0, 1) := by decide +kernel
theorem dX1_init_1 : decode cX1_init 1 = .ok (.invokespecial 3, 3) := by decide +kernel
theorem dX1_init_4 : decode cX1_init 4 = .ok (.aload_n 0, 1) := by decide +kernel
theorem dX1_init_5 : decode cX1_init 5 = .ok (.bipush 6, 2) := by decide +kernel
theorem dX1_init_7 : decode cX1_init 7 = .ok (.anewarray 9, 3) := by decide +kernel
theorem dX1_init_10 : decode cX1_init 10 = .ok (.putfield 11, 3) := by decide +kernel
theorem dX1_init_13 : decode cX1_init 13 = .ok (.aload_n 0, 1) := by decide +kernel
theorem dX1_init_14 : decode cX1_init 14 = .ok (.iconst 3, 1) := by decide +kernel
theorem dX1_init_15 : decode cX1_init 15 = .ok (.anewarray 9, 3) := by decide +kernel
theorem dX1_init_18 : decode cX1_init 18 = .ok (.putfield 17, 3) := by decide +kernel
theorem dX1_init_21 : decode cX1_init 21 = .ok (.aload_n 0, 1) := by decide +kernel
theorem dX1_init_22 : decode cX1_init 22 = .ok (.new 20, 3) := by decide +kernel
theorem dX1_init_25 : decode cX1_init 25 = .ok (.dup, 1) := by decide +kernel
theorem dX1_init_26 : decode cX1_init 26 = .ok (.invokespecial 22, 3) := by decide +kernel
theorem dX1_init_29 : decode cX1_init 29 = .ok (.putfield 23, 3) := by decide +kernel
theorem dX1_init_32 : decode cX1_init 32 = .ok (.aload_n 0, 1) := by decide +kernel
theorem dX1_init_33 : decode cX1_init 33 = .ok (.iconst 3, 1) := by decide +kernel
theorem dX1_init_34 : decode cX1_init 34 = .ok (.newarray .long, 2) := by decide +kernel
theorem dX1_init_36 : decode cX1_init 36 = .ok (.putfield 27, 3) := by decide +kernel
theorem dX1_init_39 : decode cX1_init 39 = .ok (.iconst 0, 1) := by decide +kernel
theorem dX1_init_40 : decode cX1_init 40 = .ok (.istore_n 1, 1) := by decide +kernel
theorem dX1_init_41 : decode cX1_init 41 = .ok (.iload_n 1, 1) := by decide +kernel
theorem dX1_init_42 : decode cX1_init 42 = .ok (.bipush 6, 2) := by decide +kernel
theorem dX1_init_44 : decode cX1_init 44 = .ok (.if_icmp .ge 22, 3) := by decide +kernel
theorem dX1_init_47 : decode cX1_init 47 = .ok (.aload_n 0, 1) := by decide +kernel
theorem dX1_init_48 : decode cX1_init 48 = .ok (.getfield 11, 3) := by decide +kernel
theorem dX1_init_51 : decode cX1_init 51 = .ok (.iload_n 1, 1) := by decide +kernel
theorem dX1_init_52 : decode cX1_init 52 = .ok (.new 9, 3) := by decide +kernel
theorem dX1_init_55 : decode cX1_init 55 = .ok (.dup, 1) := by decide +kernel
theorem dX1_init_56 : decode cX1_init 56 = .ok (.invokespecial 31, 3) := by decide +kernel
theorem dX1_init_59 : decode cX1_init 59 = .ok (.aastore, 1) := by decide +kernel
theorem dX1_init_60 : decode cX1_init 60 = .ok (.iinc 1 1, 3) := by decide +kernel
theorem dX1_init_63 : decode cX1_init 63 = .ok (.goto (-22), 3) := by decide +kernel
theorem dX1_init_66 : decode cX1_init 66 = .ok (.iconst 0, 1) := by decide +kernel
theorem dX1_init_67 : decode cX1_init 67 = .ok (.istore_n 1, 1) := by decide +kernel
theorem dX1_init_68 : decode cX1_init 68 = .ok (.iload_n 1, 1) := by decide +kernel
theorem dX1_init_69 : decode cX1_init 69 = .ok (.iconst 3, 1) := by decide +kernel
theorem dX1_init_70 : decode cX1_init 70 = .ok (.if_icmp .ge 22, 3) := by decide +kernel
theorem dX1_init_73 : decode cX1_init 73 = .ok (.aload_n 0, 1) := by decide +kernel
theorem dX1_init_74 : decode cX1_init 74 = .ok (.getfield 17, 3) := by decide +kernel
theorem dX1_init_77 : decode cX1_init 77 = .ok (.iload_n 1, 1) := by decide +kernel
theorem dX1_init_78 : decode cX1_init 78 = .ok (.new 9, 3) := by decide +kernel
theorem dX1_init_81 : decode cX1_init 81 = .ok (.dup, 1) := by decide +kernel
theorem dX1_init_82 : decode cX1_init 82 = .ok (.invokespecial 31, 3) := by decide +kernel
theorem dX1_init_85 : decode cX1_init 85 = .ok (.aastore, 1) := by decide +kernel
theorem dX1_init_86 : decode cX1_init 86 = .ok (.iinc 1 1, 3) := by decide +kernel
theorem dX1_init_89 : decode cX1_init 89 = .ok (.goto (-21), 3) := by decide +kernel
theorem dX1_init_92 : decode cX1_init 92 = .ok (.return_, 1) := by decide +kernel
abbrev mt_X7_init : xm_M := (yX7_init, cX7_init, 2, none, 3, 61)
theorem ok_X7_init : xm_ok mt_X7_init 0 := ⟨plainFor_of_name (by decide +kernel), ms_1 (List.mem_of_getElem? (i := 29) (by decide +kernel)) rfl, ms_1 (List.mem_of_getElem? (i := 2) (by decide +kernel)) rfl, by decide +kernel, by decide +kernel, by decide +kernel⟩
theorem im_X7_init : Cond.instanceMethod yX7_init ∈ xm_tb := ms_1 (List.mem_of_getElem? (i := 28) (by decide +kernel)) rfl
theorem dX7_init_0 : decode cX7_init 0 = .ok (.aload_n 0, 1) := by decide +kernel
theorem dX7_init_1 : decode cX7_init 1 = .ok (.invokespecial 3, 3) := by decide +kernel
theorem dX7_init_4 : decode cX7_init 4 = .ok (.aload_n 0, 1) := by decide +kernel
theorem dX7_init_5 : decode cX7_init 5 = .ok (.iconst 5, 1) := by decide +kernel
theorem dX7_init_6 : decode cX7_init 6 = .ok (.anewarray 9, 3) := by decide +kernel
theorem dX7_init_9 : decode cX7_init 9 = .ok (.putfield 11, 3) := by decide +kernel
theorem dX7_init_12 : decode cX7_init 12 = .ok (.aload_n 0, 1) := by decide +kernel
theorem dX7_init_13 : decode cX7_init 13 = .ok (.iconst 2, 1) := by decide +kernel
theorem dX7_init_14 : decode cX7_init 14 = .ok (.putfield 17, 3) := by decide +kernel
theorem dX7_init_17 : decode cX7_init 17 = .ok (.iconst 0, 1) := by decide +kernel
theorem dX7_init_18 : decode cX7_init 18 = .ok (.istore_n 1, 1) := by decide +kernel
theorem dX7_init_19 : decode cX7_init 19 = .ok (.iload_n 1, 1) := by decide +kernel
theorem dX7_init_20 : decode cX7_init 20 = .ok (.iconst 5, 1) := by decide +kernel
theorem dX7_init_21 : decode cX7_init 21 = .ok (.if_icmp .ge 22, 3) := by decide +kernel
theorem dX7_init_24 : decode cX7_init 24 = .ok (.aload_n 0, 1) := by decide +kernel
theorem dX7_init_25 : decode cX7_init 25 = .ok (.getfield 11, 3) := by decide +kernel
theorem dX7_init_28 : decode cX7_init 28 = .ok (.iload_n 1, 1) := by decide +kernel
theorem dX7_init_29 : decode cX7_init 29 = .ok (.new 9, 3) := by decide +kernel
theorem dX7_init_32 : decode cX7_init 32 = .ok (.dup, 1) := by decide +kernel
theorem dX7_init_33 : decode cX7_init 33 = .ok (.invokespecial 21, 3) := by decide +kernel
theorem dX7_init_36 : decode cX7_init 36 = .ok (.aastore, 1) := by decide +kernel
theorem dX7_init_37 : decode cX7_init 37 = .ok (.iinc 1 1, 3) := by decide +kernel
theorem dX7_init_40 : decode cX7_init 40 = .ok (.goto (-21), 3) := by decide +kernel
theorem dX7_init_43 : decode cX7_init 43 = .ok (.return_, 1) := by decide +kernel
abbrev mt_X11_init : xm_M := (yX11_init, cX11_init, 1, none, 4, 82)
theorem ok_X11_init : xm_ok mt_X11_init 0 := ⟨plainFor_of_name (by decide +kernel), ms_1 (List.mem_of_getElem? (i := 21) (by decide +kernel)) rfl, ms_1 (List.mem_of_getElem? (i := 1) (by decide +kernel)) rfl, by decide +kernel, by decide +kernel, by decide +kernel⟩
theorem im_X11_init : Cond.instanceMethod yX11_init ∈ xm_tb := ms_1 (List.mem_of_getElem? (i := 20) (by decide +kernel)) rfl
theorem dX11_init_0 : decode cX11_init 0 = .ok (.aload_n 0, 1) := by decide +kernel
theorem dX11_init_1 : decode cX11_init 1 = .ok (.invokespecial 1, 3) := by decide +kernel
theorem dX11_init_4 : decode cX11_init 4 = .ok (.aload_n 0, 1) := by decide +kernel
theorem dX11_init_5 : decode cX11_init 5 = .ok (.new 7, 3) := by decide +kernel
theorem dX11_init_8 : decode cX11_init 8 = .ok (.dup, 1) := by decide +kernel
theorem dX11_init_9 : decode cX11_init 9 = .ok (.invokespecial 9, 3) := by decide +kernel
theorem dX11_init_12 : decode cX11_init 12 = .ok (.putfield 10, 3) := by decide +kernel
theorem dX11_init_15 : decode cX11_init 15 = .ok (.aload_n 0, 1) := by decide +kernel
theorem dX11_init_16 : decode cX11_init 16 = .ok (.iconst 3, 1) := by decide +kernel
theorem dX11_init_17 : decode cX11_init 17 = .ok (.newarray .long, 2) := by decide +kernel
theorem dX11_init_19 : decode cX11_init 19 = .ok (.putfield 16, 3) := by decide +kernel
theorem dX11_init_22 : decode cX11_init 22 = .ok (.aload_n 0, 1) := by decide +kernel
theorem dX11_init_23 : decode cX11_init 23 = .ok (.new 20, 3) := by decide +kernel
theorem dX11_init_26 : decode cX11_init 26 = .ok (.dup, 1) := by decide +kernel
theorem dX11_init_27 : decode cX11_init 27 = .ok (.invokespecial 22, 3) := by decide +kernel
theorem dX11_init_30 : decode cX11_init 30 = .ok (.putfield 23, 3) := by decide +kernel
theorem dX11_init_33 : decode cX11_init 33 = .ok (.aload_n 0, 1) := by decide +kernel
theorem dX11_init_34 : decode cX11_init 34 = .ok (.new 27, 3) := by decide +kernel
theorem dX11_init_37 : decode cX11_init 37 = .ok (.dup, 1) := by decide +kernel
theorem dX11_init_38 : decode cX11_init 38 = .ok (.invokespecial 29, 3) := by decide +kernel
theorem dX11_init_41 : decode cX11_init 41 = .ok (.putfield 30, 3) := by decide +kernel
theorem dX11_init_44 : decode cX11_init 44 = .ok (.aload_n 0, 1) := by decide +kernel
theorem dX11_init_45 : decode cX11_init 45 = .ok (.new 27, 3) := by decide +kernel
theorem dX11_init_48 : decode cX11_init 48 = .ok (.dup, 1) := by decide +kernel
theorem dX11_init_49 : decode cX11_init 49 = .ok (.invokespecial 29, 3) := by decide +kernel
theorem dX11_init_52 : decode cX11_init 52 = .ok (.putfield 34, 3) := by decide +kernel
theorem dX11_init_55 : decode cX11_init 55 = .ok (.aload_n 0, 1) := by decide +kernel
theorem dX11_init_56 : decode cX11_init 56 = .ok (.new 37, 3) := by decide +kernel
theorem dX11_init_59 : decode cX11_init 59 = .ok (.dup, 1) := by decide +kernel
theorem dX11_init_60 : decode cX11_init 60 = .ok (.invokespecial 39, 3) := by decide +kernel
theorem dX11_init_63 : decode cX11_init 63 = .ok (.putfield 40, 3) := by decide +kernel
theorem dX11_init_66 : decode cX11_init 66 = .ok (.aload_n 0, 1) := by decide +kernel
theorem dX11_init_67 : decode cX11_init 67 = .ok (.new 44, 3) := by decide +kernel
theorem dX11_init_70 : decode cX11_init 70 = .ok (.dup, 1) := by decide +kernel
theorem dX11_init_71 : decode cX11_init 71 = .ok (.invokespecial 46, 3) := by decide +kernel
theorem dX11_init_74 : decode cX11_init 74 = .ok (.putfield 47, 3) := by decide +kernel
theorem dX11_init_77 : decode cX11_init 77 = .ok (.aload_n 0, 1) := by decide +kernel
theorem dX11_init_78 : decode cX11_init 78 = .ok (.new 51, 3) := by decide +kernel
theorem dX11_init_81 : decode cX11_init 81 = .ok (.dup, 1) := by decide +kernel
theorem dX11_init_82 : decode cX11_init 82 = .ok (.invokespecial 53, 3) := by decide +kernel
theorem dX11_init_85 : decode cX11_init 85 = .ok (.putfield 54, 3) := by decide +kernel
theorem dX11_init_88 : decode cX11_init 88 = .ok (.aload_n 0, 1) := by decide +kernel
theorem dX11_init_89 : decode cX11_init 89 = .ok (.iconst 3, 1) := by decide +kernel
theorem dX11_init_90 : decode cX11_init 90 = .ok (.newarray .int, 2) := by decide +kernel
theorem dX11_init_92 : decode cX11_init 92 = .ok (.putfield 58, 3) := by decide +kernel
theorem dX11_init_95 : decode cX11_init 95 = .ok (.aload_n 0, 1) := by decide +kernel
theorem dX11_init_96 : decode cX11_init 96 = .ok (.new 62, 3) := by decide +kernel
theorem dX11_init_99 : decode cX11_init 99 = .ok (.dup, 1) := by decide +kernel
theorem dX11_init_100 : decode cX11_init 100 = .ok (.invokespecial 64, 3) := by decide +kernel
theorem dX11_init_103 : decode cX11_init 103 = .ok (.putfield 65, 3) := by decide +kernel
theorem dX11_init_106 : decode cX11_init 106 = .ok (.aload_n 0, 1) := by decide +kernel
theorem dX11_init_107 : decode cX11_init 107 = .ok (.getfield 30, 3) := by decide +kernel
theorem dX11_init_110 : decode cX11_init 110 = .ok (.aload_n 0, 1) := by decide +kernel
theorem dX11_init_111 : decode cX11_init 111 = .ok (.getfield 10, 3) := by decide +kernel
theorem dX11_init_114 : decode cX11_init 114 = .ok (.getfield 69, 3) := by decide +kernel
theorem dX11_init_117 : decode cX11_init 117 = .ok (.invokevirtual 73, 3) := by decide +kernel
theorem dX11_init_120 : decode cX11_init 120 = .ok (.return_, 1) := by decide +kernel
abbrev mt_X12_init : xm_M := (yX12_init, cX12_init, 2, none, 1, 21)
theorem ok_X12_init : xm_ok mt_X12_init 0 := ⟨plainFor_of_name (by decide +kernel), ms_4 (List.mem_of_getElem? (i := 140) (by decide +kernel)) rfl, ms_1 (List.mem_of_getElem? (i := 14) (by decide +kernel)) rfl, by decide +kernel, by decide +kernel, by decide +kernel⟩
theorem im_X12_init : Cond.instanceMethod yX12_init ∈ xm_tb := ms_4 (List.mem_of_getElem? (i := 139) (by decide +kernel)) rfl
theorem dX12_init_0 : decode cX12_init 0 = .ok (.aload_n 0, 1) := by decide +kernel
theorem dX12_init_1 : decode cX12_init 1 = .ok (.invokespecial 1, 3) := by decide +kernel
theorem dX12_init_4 : decode cX12_init 4 = .ok (.aload_n 0, 1) := by decide +kernel
theorem dX12_init_5 : decode cX12_init 5 = .ok (.iconst 2, 1) := by decide +kernel
theorem dX12_init_6 : decode cX12_init 6 = .ok (.putfield 7, 3) := by decide +kernel
theorem dX12_init_9 : decode cX12_init 9 = .ok (.aload_n 0, 1) := by decide +kernel
theorem dX12_init_10 : decode cX12_init 10 = .ok (.iconst 5, 1) := by decide +kernel
theorem dX12_init_11 : decode cX12_init 11 = .ok (.newarray .int, 2) := by decide +kernel
theorem dX12_init_13 : decode cX12_init 13 = .ok (.putfield 13, 3) := by decide +kernel
theorem dX12_init_16 : decode cX12_init 16 = .ok (.aload_n 0, 1) := by decide +kernel
theorem dX12_init_17 : decode cX12_init 17 = .ok (.bipush 120, 2) := by decide +kernel
theorem dX12_init_19 : decode cX12_init 19 = .ok (.newarray .int, 2) := by decide +kernel
theorem dX12_init_21 : decode cX12_init 21 = .ok (.putfield 17, 3) := by decide +kernel
theorem dX12_init_24 : decode cX12_init 24 = .ok (.aload_n 0, 1) := by decide +kernel
theorem dX12_init_25 : decode cX12_init 25 = .ok (.bipush 60, 2) := by decide +kernel
theorem dX12_init_27 : decode cX12_init 27 = .ok (.newarray .int, 2) := by decide +kernel
theorem dX12_init_29 : decode cX12_init 29 = .ok (.putfield 20, 3) := by decide +kernel
theorem dX12_init_32 : decode cX12_init 32 = .ok (.aload_n 0, 1) := by decide +kernel
theorem dX12_init_33 : decode cX12_init 33 = .ok (.iconst 3, 1) := by decide +kernel
theorem dX12_init_34 : decode cX12_init 34 = .ok (.newarray .long, 2) := by decide +kernel
theorem dX12_init_36 : decode cX12_init 36 = .ok (.putfield 23, 3) := by decide +kernel
theorem dX12_init_39 : decode cX12_init 39 = .ok (.aload_n 0, 1) := by decide +kernel
theorem dX12_init_40 : decode cX12_init 40 = .ok (.bipush 6, 2) := by decide +kernel
theorem dX12_init_42 : decode cX12_init 42 = .ok (.newarray .long, 2) := by decide +kernel
theorem dX12_init_44 : decode cX12_init 44 = .ok (.putfield 27, 3) := by decide +kernel
theorem dX12_init_47 : decode cX12_init 47 = .ok (.aload_n 0, 1) := by decide +kernel
theorem dX12_init_48 : decode cX12_init 48 = .ok (.bipush 6, 2) := by decide +kernel
theorem dX12_init_50 : decode cX12_init 50 = .ok (.newarray .boolean, 2) := by decide +kernel
theorem dX12_init_52 : decode cX12_init 52 = .ok (.putfield 30, 3) := by decide +kernel
theorem dX12_init_55 : decode cX12_init 55 = .ok (.aload_n 0, 1) := by decide +kernel
theorem dX12_init_56 : decode cX12_init 56 = .ok (.bipush 6, 2) := by decide +kernel
theorem dX12_init_58 : decode cX12_init 58 = .ok (.newarray .long, 2) := by decide +kernel
theorem dX12_init_60 : decode cX12_init 60 = .ok (.putfield 34, 3) := by decide +kernel
theorem dX12_init_63 : decode cX12_init 63 = .ok (.aload_n 0, 1) := by decide +kernel
theorem dX12_init_64 : decode cX12_init 64 = .ok (.bipush 6, 2) := by decide +kernel
theorem dX12_init_66 : decode cX12_init 66 = .ok (.newarray .boolean, 2) := by decide +kernel
theorem dX12_init_68 : decode cX12_init 68 = .ok (.putfield 37, 3) := by decide +kernel
theorem dX12_init_71 : decode cX12_init 71 = .ok (.aload_n 0, 1) := by decide +kernel
theorem dX12_init_72 : decode cX12_init 72 = .ok (.bipush 48, 2) := by decide +kernel
theorem dX12_init_74 : decode cX12_init 74 = .ok (.newarray .long, 2) := by decide +kernel
theorem dX12_init_76 : decode cX12_init 76 = .ok (.putfield 40, 3) := by decide +kernel
theorem dX12_init_79 : decode cX12_init 79 = .ok (.aload_n 0, 1) := by decide +kernel
theorem dX12_init_80 : decode cX12_init 80 = .ok (.iconst 3, 1) := by decide +kernel
theorem dX12_init_81 : decode cX12_init 81 = .ok (.newarray .long, 2) := by decide +kernel
theorem dX12_init_83 : decode cX12_init 83 = .ok (.putfield 43, 3) := by decide +kernel
theorem dX12_init_86 : decode cX12_init 86 = .ok (.aload_n 0, 1) := by decide +kernel
theorem dX12_init_87 : decode cX12_init 87 = .ok (.bipush 15, 2) := by decide +kernel
theorem dX12_init_89 : decode cX12_init 89 = .ok (.newarray .int, 2) := by decide +kernel
theorem dX12_init_91 : decode cX12_init 91 = .ok (.putfield 46, 3) := by decide +kernel
theorem dX12_init_94 : decode cX12_init 94 = .ok (.aload_n 0, 1) := by decide +kernel
theorem dX12_init_95 : decode cX12_init 95 = .ok (.iconst 3, 1) := by decide +kernel
theorem dX12_init_96 : decode cX12_init 96 = .ok (.newarray .int, 2) := by decide +kernel
theorem dX12_init_98 : decode cX12_init 98 = .ok (.putfield 49, 3) := by decide +kernel
theorem dX12_init_101 : decode cX12_init 101 = .ok (.aload_n 0, 1) := by decide +kernel
theorem dX12_init_102 : decode cX12_init 102 = .ok (.iconst 5, 1) := by decide +kernel
theorem dX12_init_103 : decode cX12_init 103 = .ok (.newarray .int, 2) := by decide +kernel
theorem dX12_init_105 : decode cX12_init 105 = .ok (.putfield 52, 3) := by decide +kernel
theorem dX12_init_108 : decode cX12_init 108 = .ok (.aload_n 0, 1) := by decide +kernel
theorem dX12_init_109 : decode cX12_init 109 = .ok (.iconst 5, 1) := by decide +kernel
theorem dX12_init_110 : decode cX12_init 110 = .ok (.newarray .boolean, 2) := by decide +kernel
theorem dX12_init_112 : decode cX12_init 112 = .ok (.putfield 55, 3) := by decide +kernel
theorem dX12_init_115 : decode cX12_init 115 = .ok (.aload_n 0, 1) := by decide +kernel
theorem dX12_init_116 : decode cX12_init 116 = .ok (.sipush 30003, 3) := by decide +kernel
theorem dX12_init_119 : decode cX12_init 119 = .ok (.newarray .long, 2) := by decide +kernel
theorem dX12_init_121 : decode cX12_init 121 = .ok (.putfield 58, 3) := by decide +kernel
theorem dX12_init_124 : decode cX12_init 124 = .ok (.aload_n 0, 1) := by decide +kernel
theorem dX12_init_125 : decode cX12_init 125 = .ok (.ldc 61, 2) := by decide +kernel
theorem dX12_init_127 : decode cX12_init 127 = .ok (.newarray .int, 2) := by decide +kernel
theorem dX12_init_129 : decode cX12_init 129 = .ok (.putfield 62, 3) := by decide +kernel
theorem dX12_init_132 : decode cX12_init 132 = .ok (.aload_n 0, 1) := by decide +kernel
theorem dX12_init_133 : decode cX12_init 133 = .ok (.iconst (-1), 1) := by decide +kernel
theorem dX12_init_134 : decode cX12_init 134 = .ok (.putfield 65, 3) := by decide +kernel
theorem dX12_init_137 : decode cX12_init 137 = .ok (.aload_n 0, 1) := by decide +kernel
theorem dX12_init_138 : decode cX12_init 138 = .ok (.iconst 3, 1) := by decide +kernel
theorem dX12_init_139 : decode cX12_init 139 = .ok (.newarray .long, 2) := by decide +kernel
theorem dX12_init_141 : decode cX12_init 141 = .ok (.putfield 68, 3) := by decide +kernel
theorem dX12_init_144 : decode cX12_init 144 = .ok (.aload_n 0, 1) := by decide +kernel
theorem dX12_init_145 : decode cX12_init 145 = .ok (.iconst 3, 1) := by decide +kernel
theorem dX12_init_146 : decode cX12_init 146 = .ok (.newarray .long, 2) := by decide +kernel
theorem dX12_init_148 : decode cX12_init 148 = .ok (.putfield 71, 3) := by decide +kernel
theorem dX12_init_151 : decode cX12_init 151 = .ok (.aload_n 0, 1) := by decide +kernel
theorem dX12_init_152 : decode cX12_init 152 = .ok (.bipush 6, 2) := by decide +kernel
theorem dX12_init_154 : decode cX12_init 154 = .ok (.newarray .long, 2) := by decide +kernel
theorem dX12_init_156 : decode cX12_init 156 = .ok (.putfield 74, 3) := by decide +kernel
theorem dX12_init_159 : decode cX12_init 159 = .ok (.aload_n 0, 1) := by decide +kernel
theorem dX12_init_160 : decode cX12_init 160 = .ok (.bipush 6, 2) := by decide +kernel
theorem dX12_init_162 : decode cX12_init 162 = .ok (.newarray .boolean, 2) := by decide +kernel
theorem dX12_init_164 : decode cX12_init 164 = .ok (.putfield 77, 3) := by decide +kernel
theorem dX12_init_167 : decode cX12_init 167 = .ok (.aload_n 0, 1) := by decide +kernel
theorem dX12_init_168 : decode cX12_init 168 = .ok (.bipush 6, 2) := by decide +kernel
theorem dX12_init_170 : decode cX12_init 170 = .ok (.newarray .long, 2) := by decide +kernel
theorem dX12_init_172 : decode cX12_init 172 = .ok (.putfield 80, 3) := by decide +kernel
theorem dX12_init_175 : decode cX12_init 175 = .ok (.aload_n 0, 1) := by decide +kernel
theorem dX12_init_176 : decode cX12_init 176 = .ok (.bipush 6, 2) := by decide +kernel
theorem dX12_init_178 : decode cX12_init 178 = .ok (.newarray .boolean, 2) := by decide +kernel
theorem dX12_init_180 : decode cX12_init 180 = .ok (.putfield 83, 3) := by decide +kernel
theorem dX12_init_183 : decode cX12_init 183 = .ok (.aload_n 0, 1) := by decide +kernel
theorem dX12_init_184 : decode cX12_init 184 = .ok (.bipush 40, 2) := by decide +kernel
theorem dX12_init_186 : decode cX12_init 186 = .ok (.newarray .int, 2) := by decide +kernel
theorem dX12_init_188 : decode cX12_init 188 = .ok (.putfield 86, 3) := by decide +kernel
theorem dX12_init_191 : decode cX12_init 191 = .ok (.aload_n 0, 1) := by decide +kernel
theorem dX12_init_192 : decode cX12_init 192 = .ok (.bipush 40, 2) := by decide +kernel
theorem dX12_init_194 : decode cX12_init 194 = .ok (.newarray .int, 2) := by decide +kernel
theorem dX12_init_196 : decode cX12_init 196 = .ok (.putfield 89, 3) := by decide +kernel
theorem dX12_init_199 : decode cX12_init 199 = .ok (.aload_n 0, 1) := by decide +kernel
theorem dX12_init_200 : decode cX12_init 200 = .ok (.bipush 40, 2) := by decide +kernel
theorem dX12_init_202 : decode cX12_init 202 = .ok (.newarray .int, 2) := by decide +kernel
theorem dX12_init_204 : decode cX12_init 204 = .ok (.putfield 92, 3) := by decide +kernel
theorem dX12_init_207 : decode cX12_init 207 = .ok (.aload_n 0, 1) := by decide +kernel
theorem dX12_init_208 : decode cX12_init 208 = .ok (.sipush 1001, 3) := by decide +kernel
theorem dX12_init_211 : decode cX12_init 211 = .ok (.newarray .int, 2) := by decide +kernel
theorem dX12_init_213 : decode cX12_init 213 = .ok (.putfield 95, 3) := by decide +kernel
theorem dX12_init_216 : decode cX12_init 216 = .ok (.aload_n 0, 1) := by decide +kernel
theorem dX12_init_217 : decode cX12_init 217 = .ok (.sipush 1001, 3) := by decide +kernel
theorem dX12_init_220 : decode cX12_init 220 = .ok (.newarray .int, 2) := by decide +kernel
theorem dX12_init_222 : decode cX12_init 222 = .ok (.putfield 98, 3) := by decide +kernel
theorem dX12_init_225 : decode cX12_init 225 = .ok (.aload_n 0, 1) := by decide +kernel
theorem dX12_init_226 : decode cX12_init 226 = .ok (.sipush 1001, 3) := by decide +kernel
theorem dX12_init_229 : decode cX12_init 229 = .ok (.newarray .int, 2) := by decide +kernel
theorem dX12_init_231 : decode cX12_init 231 = .ok (.putfield 101, 3) := by decide +kernel
theorem dX12_init_234 : decode cX12_init 234 = .ok (.aload_n 0, 1) := by decide +kernel
theorem dX12_init_235 : decode cX12_init 235 = .ok (.iconst (-1), 1) := by decide +kernel
theorem dX12_init_236 : decode cX12_init 236 = .ok (.putfield 104, 3) := by decide +kernel
theorem dX12_init_239 : decode cX12_init 239 = .ok (.aload_n 0, 1) := by decide +kernel
theorem dX12_init_240 : decode cX12_init 240 = .ok (.iconst (-1), 1) := by decide +kernel
theorem dX12_init_241 : decode cX12_init 241 = .ok (.putfield 107, 3) := by decide +kernel
theorem dX12_init_244 : decode cX12_init 244 = .ok (.aload_n 0, 1) := by decide +kernel
theorem dX12_init_245 : decode cX12_init 245 = .ok (.iconst (-1), 1) := by decide +kernel
theorem dX12_init_246 : decode cX12_init 246 = .ok (.putfield 110, 3) := by decide +kernel
theorem dX12_init_249 : decode cX12_init 249 = .ok (.aload_n 0, 1) := by decide +kernel
theorem dX12_init_250 : decode cX12_init 250 = .ok (.iconst (-1), 1) := by decide +kernel
theorem dX12_init_251 : decode cX12_init 251 = .ok (.putfield 113, 3) := by decide +kernel
theorem dX12_init_254 : decode cX12_init 254 = .ok (.aload_n 0, 1) := by decide +kernel
theorem dX12_init_255 : decode cX12_init 255 = .ok (.bipush 16, 2) := by decide +kernel
theorem dX12_init_257 : decode cX12_init 257 = .ok (.newarray .int, 2) := by decide +kernel
theorem dX12_init_259 : decode cX12_init 259 = .ok (.putfield 116, 3) := by decide +kernel
theorem dX12_init_262 : decode cX12_init 262 = .ok (.aload_n 0, 1) := by decide +kernel
theorem dX12_init_263 : decode cX12_init 263 = .ok (.bipush 16, 2) := by decide +kernel
theorem dX12_init_265 : decode cX12_init 265 = .ok (.newarray .int, 2) := by decide +kernel
theorem dX12_init_267 : decode cX12_init 267 = .ok (.putfield 119, 3) := by decide +kernel
theorem dX12_init_270 : decode cX12_init 270 = .ok (.aload_n 0, 1) := by decide +kernel
theorem dX12_init_271 : decode cX12_init 271 = .ok (.iconst 3, 1) := by decide +kernel
theorem dX12_init_272 : decode cX12_init 272 = .ok (.newarray .long, 2) := by decide +kernel
theorem dX12_init_274 : decode cX12_init 274 = .ok (.putfield 122, 3) := by decide +kernel
theorem dX12_init_277 : decode cX12_init 277 = .ok (.aload_n 0, 1) := by decide +kernel
theorem dX12_init_278 : decode cX12_init 278 = .ok (.iconst 3, 1) := by decide +kernel
theorem dX12_init_279 : decode cX12_init 279 = .ok (.newarray .int, 2) := by decide +kernel
theorem dX12_init_281 : decode cX12_init 281 = .ok (.putfield 125, 3) := by decide +kernel
theorem dX12_init_284 : decode cX12_init 284 = .ok (.aload_n 0, 1) := by decide +kernel
theorem dX12_init_285 : decode cX12_init 285 = .ok (.invokevirtual 128, 3) := by decide +kernel
theorem dX12_init_288 : decode cX12_init 288 = .ok (.iconst 0, 1) := by decide +kernel
theorem dX12_init_289 : decode cX12_init 289 = .ok (.istore_n 1, 1) := by decide +kernel
theorem dX12_init_290 : decode cX12_init 290 = .ok (.iload_n 1, 1) := by decide +kernel
theorem dX12_init_291 : decode cX12_init 291 = .ok (.iconst 5, 1) := by decide +kernel
theorem dX12_init_292 : decode cX12_init 292 = .ok (.if_icmp .ge 16, 3) := by decide +kernel
theorem dX12_init_295 : decode cX12_init 295 = .ok (.aload_n 0, 1) := by decide +kernel
theorem dX12_init_296 : decode cX12_init 296 = .ok (.getfield 52, 3) := by decide +kernel
theorem dX12_init_299 : decode cX12_init 299 = .ok (.iload_n 1, 1) := by decide +kernel
theorem dX12_init_300 : decode cX12_init 300 = .ok (.iconst (-1), 1) := by decide +kernel
theorem dX12_init_301 : decode cX12_init 301 = .ok (.iastore, 1) := by decide +kernel
theorem dX12_init_302 : decode cX12_init 302 = .ok (.iinc 1 1, 3) := by decide +kernel
theorem dX12_init_305 : decode cX12_init 305 = .ok (.goto (-15), 3) := by decide +kernel
theorem dX12_init_308 : decode cX12_init 308 = .ok (.return_, 1) := by decide +kernel
theorem xd_0 : xm_fd 0 2 tyX0 := by unfold xm_fd; decide +kernel
theorem xd_1 : xm_fd 1 5 tyX1 := by unfold xm_fd; decide +kernel
theorem xd_2 : xm_fd 2 1 tyX2 := by unfold xm_fd; decide +kernel
theorem xd_3 : xm_fd 3 8 tyX3 := by unfold xm_fd; decide +kernel
theorem xd_4 : xm_fd 4 3 tyX4 := by unfold xm_fd; decide +kernel
theorem xd_5 : xm_fd 5 7 tyX5 := by unfold xm_fd; decide +kernel
theorem xd_6 : xm_fd 6 4 tyX6 := by unfold xm_fd; decide +kernel
theorem xd_7 : xm_fd 7 3 tyX7 := by unfold xm_fd; decide +kernel
theorem xd_8 : xm_fd 8 2 tyX8 := by unfold xm_fd; decide +kernel
theorem xd_9 : xm_fd 9 4 tyX9 := by unfold xm_fd; decide +kernel
theorem xd_10 : xm_fd 10 6 tyX10 := by unfold xm_fd; decide +kernel
theorem xd_11 : xm_fd 11 10 tyX11 := by unfold xm_fd; decide +kernel
theorem xd_12 : xm_fd 12 50 tyX12 := by unfold xm_fd; decide +kernel
