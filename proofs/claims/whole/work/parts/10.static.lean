/-! the cells as they lie behind the two constructors -/
def sl_sh : List (Nat × Nat) := [(11,0), (7,0), (17,5), (1,0), (16,6), (16,3), (6,0), (14,512), (14,3), (0,0), (13,3), (0,0), (13,3), (0,0), (13,3), (0,0), (13,3), (0,0), (13,3), (0,0), (13,3), (0,0), (13,3), (0,0), (13,3), (0,0), (13,3), (1,0), (16,6), (16,3), (6,0), (14,512), (14,3), (0,0), (13,3), (0,0), (13,3), (0,0), (13,3), (0,0), (13,3), (0,0), (13,3), (0,0), (13,3), (0,0), (13,3), (0,0), (13,3), (0,0), (13,3), (1,0), (16,6), (16,3), (6,0), (14,512), (14,3), (0,0), (13,3), (0,0), (13,3), (0,0), (13,3), (0,0), (13,3), (0,0), (13,3), (0,0), (13,3), (0,0), (13,3), (0,0), (13,3), (0,0), (13,3), (1,0), (16,6), (16,3), (6,0), (14,512), (14,3), (0,0), (13,3), (0,0), (13,3), (0,0), (13,3), (0,0), (13,3), (0,0), (13,3), (0,0), (13,3), (0,0), (13,3), (0,0), (13,3), (0,0), (13,3), (1,0), (16,6), (16,3), (6,0), (14,512), (14,3), (0,0), (13,3), (0,0), (13,3), (0,0), (13,3), (0,0), (13,3), (0,0), (13,3), (0,0), (13,3), (0,0), (13,3), (0,0), (13,3), (0,0), (13,3), (14,3), (4,0), (14,3), (14,3), (2,0), (14,6), (2,0), (14,6), (8,0), (2,0), (14,6), (2,0), (14,6), (9,0), (14,48), (14,4), (5,0), (10,0), (13,3), (13,15), (13,5), (13,3), (13,3), (3,0), (14,40), (14,1000), (13,2048), (12,0), (13,5), (13,120), (13,60), (14,3), (14,6), (15,6), (14,6), (15,6), (14,48), (14,3), (13,15), (13,3), (13,5), (15,5), (14,30003), (13,32768), (14,3), (14,3), (14,6), (15,6), (14,6), (15,6), (13,40), (13,40), (13,40), (13,1001), (13,1001), (13,1001), (13,16), (13,16), (14,3), (13,3)]
def sl_rf : List (List (Option Nat)) := [[some 1, some 123, some 124, some 127, some 129, some 131, some 136, some 139, some 145, some 146], [some 2, none, none], [some 3, some 27, some 51, some 75, some 99], [some 4, some 5, some 6, some 8, none], [some 9, some 11, some 13, some 15, some 17, some 19], [some 21, some 23, some 25], [some 7, none, none, none], [], [], [some 10, none], [], [some 12, none], [], [some 14, none], [], [some 16, none], [], [some 18, none], [], [some 20, none], [], [some 22, none], [], [some 24, none], [], [some 26, none], [], [some 28, some 29, some 30, some 32, none], [some 33, some 35, some 37, some 39, some 41, some 43], [some 45, some 47, some 49], [some 31, none, none, none], [], [], [some 34, none], [], [some 36, none], [], [some 38, none], [], [some 40, none], [], [some 42, none], [], [some 44, none], [], [some 46, none], [], [some 48, none], [], [some 50, none], [], [some 52, some 53, some 54, some 56, none], [some 57, some 59, some 61, some 63, some 65, some 67], [some 69, some 71, some 73], [some 55, none, none, none], [], [], [some 58, none], [], [some 60, none], [], [some 62, none], [], [some 64, none], [], [some 66, none], [], [some 68, none], [], [some 70, none], [], [some 72, none], [], [some 74, none], [], [some 76, some 77, some 78, some 80, none], [some 81, some 83, some 85, some 87, some 89, some 91], [some 93, some 95, some 97], [some 79, none, none, none], [], [], [some 82, none], [], [some 84, none], [], [some 86, none], [], [some 88, none], [], [some 90, none], [], [some 92, none], [], [some 94, none], [], [some 96, none], [], [some 98, none], [], [some 100, some 101, some 102, some 104, none], [some 105, some 107, some 109, some 111, some 113, some 115], [some 117, some 119, some 121], [some 103, none, none, none], [], [], [some 106, none], [], [some 108, none], [], [some 110, none], [], [some 112, none], [], [some 114, none], [], [some 116, none], [], [some 118, none], [], [some 120, none], [], [some 122, none], [], [], [some 125, some 126, none], [], [], [some 128], [], [some 130], [], [some 132, some 134], [some 133], [], [some 135], [], [some 137, none, none, some 138], [], [], [some 140, some 142, none, some 143, some 144, none, none], [some 141, none, none, none, none, none], [], [], [], [], [], [some 147, none, some 148, none, some 149, none, none, none], [], [], [], [none, none, some 151, some 152, some 153, some 154, some 155, some 156, some 157, some 158, some 159, none, some 160, none, none, none, none, none, some 161, none, some 162, none, some 163, some 164, some 165, some 166, none, some 167, some 168, some 169, some 170, some 171, some 172, some 173, some 174, some 175, none, some 176, some 177, some 178, none, none, none, none, some 179, some 180, some 181, some 182, none, none], [], [], [], [], [], [], [], [], [], [], [], [], [], [], [], [], [], [], [], [], [], [], [], [], [], [], [], [], [], [], [], []]
def sl_S (k : Nat) : Nat × Nat := sl_sh.getD k (18, 0)
def sl_R (k j : Nat) : Option Nat := (sl_rf.getD k []).getD j none
abbrev xm_Y : Type := (Nat → Nat → Int32) × (Nat → Nat → Int64)
abbrev sg_0 (μ : xm_Y) : xm_S := (183, sl_S, sl_R, μ.1, μ.2)
def w_I (μ : xm_Y) (k j : Nat) (v : Int32) : xm_Y := (xm_u2 μ.1 k j v, μ.2)
def w_J (μ : xm_Y) (k j : Nat) (v : Int64) : xm_Y := (μ.1, xm_u2 μ.2 k j v)
def cp_I (μ : xm_Y) (k0 k1 sp dp n : Nat) : xm_Y := (xm_u1 μ.1 k1 (va_cpy (μ.1 k0) (μ.1 k1) sp dp n), μ.2)
def cp_J (μ : xm_Y) (k0 k1 sp dp n : Nat) : xm_Y := (μ.1, xm_u1 μ.2 k1 (va_cpy (μ.2 k0) (μ.2 k1) sp dp n))
def xsh_ (k kd n : Nat) : Prop := k < 183 ∧ sl_S k = (kd, n)
theorem xsh_.is {k kd n : Nat} (h : xsh_ k kd n) (μ : xm_Y) : xm_is (sg_0 μ) k kd n := h
theorem sh_0 : xsh_ 0 11 0 := ⟨by decide, rfl⟩
theorem sh_1 : xsh_ 1 7 0 := ⟨by decide, rfl⟩
theorem sh_2 : xsh_ 2 17 5 := ⟨by decide, rfl⟩
theorem sh_3 : xsh_ 3 1 0 := ⟨by decide, rfl⟩
theorem sh_4 : xsh_ 4 16 6 := ⟨by decide, rfl⟩
theorem sh_5 : xsh_ 5 16 3 := ⟨by decide, rfl⟩
theorem sh_6 : xsh_ 6 6 0 := ⟨by decide, rfl⟩
theorem sh_7 : xsh_ 7 14 512 := ⟨by decide, rfl⟩
theorem sh_8 : xsh_ 8 14 3 := ⟨by decide, rfl⟩
theorem sh_9 : xsh_ 9 0 0 := ⟨by decide, rfl⟩
theorem sh_10 : xsh_ 10 13 3 := ⟨by decide, rfl⟩
theorem sh_11 : xsh_ 11 0 0 := ⟨by decide, rfl⟩
theorem sh_12 : xsh_ 12 13 3 := ⟨by decide, rfl⟩
theorem sh_13 : xsh_ 13 0 0 := ⟨by decide, rfl⟩
theorem sh_14 : xsh_ 14 13 3 := ⟨by decide, rfl⟩
theorem sh_15 : xsh_ 15 0 0 := ⟨by decide, rfl⟩
theorem sh_16 : xsh_ 16 13 3 := ⟨by decide, rfl⟩
theorem sh_17 : xsh_ 17 0 0 := ⟨by decide, rfl⟩
theorem sh_18 : xsh_ 18 13 3 := ⟨by decide, rfl⟩
theorem sh_19 : xsh_ 19 0 0 := ⟨by decide, rfl⟩
theorem sh_20 : xsh_ 20 13 3 := ⟨by decide, rfl⟩
theorem sh_21 : xsh_ 21 0 0 := ⟨by decide, rfl⟩
theorem sh_22 : xsh_ 22 13 3 := ⟨by decide, rfl⟩
theorem sh_23 : xsh_ 23 0 0 := ⟨by decide, rfl⟩
theorem sh_24 : xsh_ 24 13 3 := ⟨by decide, rfl⟩
theorem sh_25 : xsh_ 25 0 0 := ⟨by decide, rfl⟩
theorem sh_26 : xsh_ 26 13 3 := ⟨by decide, rfl⟩
theorem sh_27 : xsh_ 27 1 0 := ⟨by decide, rfl⟩
theorem sh_28 : xsh_ 28 16 6 := ⟨by decide, rfl⟩
theorem sh_29 : xsh_ 29 16 3 := ⟨by decide, rfl⟩
theorem sh_30 : xsh_ 30 6 0 := ⟨by decide, rfl⟩
theorem sh_31 : xsh_ 31 14 512 := ⟨by decide, rfl⟩
theorem sh_32 : xsh_ 32 14 3 := ⟨by decide, rfl⟩
theorem sh_33 : xsh_ 33 0 0 := ⟨by decide, rfl⟩
theorem sh_34 : xsh_ 34 13 3 := ⟨by decide, rfl⟩
theorem sh_35 : xsh_ 35 0 0 := ⟨by decide, rfl⟩
theorem sh_36 : xsh_ 36 13 3 := ⟨by decide, rfl⟩
theorem sh_37 : xsh_ 37 0 0 := ⟨by decide, rfl⟩
theorem sh_38 : xsh_ 38 13 3 := ⟨by decide, rfl⟩
theorem sh_39 : xsh_ 39 0 0 := ⟨by decide, rfl⟩
theorem sh_40 : xsh_ 40 13 3 := ⟨by decide, rfl⟩
theorem sh_41 : xsh_ 41 0 0 := ⟨by decide, rfl⟩
theorem sh_42 : xsh_ 42 13 3 := ⟨by decide, rfl⟩
theorem sh_43 : xsh_ 43 0 0 := ⟨by decide, rfl⟩
theorem sh_44 : xsh_ 44 13 3 := ⟨by decide, rfl⟩
theorem sh_45 : xsh_ 45 0 0 := ⟨by decide, rfl⟩
theorem sh_46 : xsh_ 46 13 3 := ⟨by decide, rfl⟩
theorem sh_47 : xsh_ 47 0 0 := ⟨by decide, rfl⟩
theorem sh_48 : xsh_ 48 13 3 := ⟨by decide, rfl⟩
theorem sh_49 : xsh_ 49 0 0 := ⟨by decide, rfl⟩
theorem sh_50 : xsh_ 50 13 3 := ⟨by decide, rfl⟩
theorem sh_51 : xsh_ 51 1 0 := ⟨by decide, rfl⟩
theorem sh_52 : xsh_ 52 16 6 := ⟨by decide, rfl⟩
theorem sh_53 : xsh_ 53 16 3 := ⟨by decide, rfl⟩
theorem sh_54 : xsh_ 54 6 0 := ⟨by decide, rfl⟩
theorem sh_55 : xsh_ 55 14 512 := ⟨by decide, rfl⟩
theorem sh_56 : xsh_ 56 14 3 := ⟨by decide, rfl⟩
theorem sh_57 : xsh_ 57 0 0 := ⟨by decide, rfl⟩
theorem sh_58 : xsh_ 58 13 3 := ⟨by decide, rfl⟩
theorem sh_59 : xsh_ 59 0 0 := ⟨by decide, rfl⟩
theorem sh_60 : xsh_ 60 13 3 := ⟨by decide, rfl⟩
theorem sh_61 : xsh_ 61 0 0 := ⟨by decide, rfl⟩
theorem sh_62 : xsh_ 62 13 3 := ⟨by decide, rfl⟩
theorem sh_63 : xsh_ 63 0 0 := ⟨by decide, rfl⟩
theorem sh_64 : xsh_ 64 13 3 := ⟨by decide, rfl⟩
theorem sh_65 : xsh_ 65 0 0 := ⟨by decide, rfl⟩
theorem sh_66 : xsh_ 66 13 3 := ⟨by decide, rfl⟩
theorem sh_67 : xsh_ 67 0 0 := ⟨by decide, rfl⟩
theorem sh_68 : xsh_ 68 13 3 := ⟨by decide, rfl⟩
theorem sh_69 : xsh_ 69 0 0 := ⟨by decide, rfl⟩
theorem sh_70 : xsh_ 70 13 3 := ⟨by decide, rfl⟩
theorem sh_71 : xsh_ 71 0 0 := ⟨by decide, rfl⟩
theorem sh_72 : xsh_ 72 13 3 := ⟨by decide, rfl⟩
theorem sh_73 : xsh_ 73 0 0 := ⟨by decide, rfl⟩
theorem sh_74 : xsh_ 74 13 3 := ⟨by decide, rfl⟩
theorem sh_75 : xsh_ 75 1 0 := ⟨by decide, rfl⟩
theorem sh_76 : xsh_ 76 16 6 := ⟨by decide, rfl⟩
theorem sh_77 : xsh_ 77 16 3 := ⟨by decide, rfl⟩
theorem sh_78 : xsh_ 78 6 0 := ⟨by decide, rfl⟩
theorem sh_79 : xsh_ 79 14 512 := ⟨by decide, rfl⟩
theorem sh_80 : xsh_ 80 14 3 := ⟨by decide, rfl⟩
theorem sh_81 : xsh_ 81 0 0 := ⟨by decide, rfl⟩
theorem sh_82 : xsh_ 82 13 3 := ⟨by decide, rfl⟩
theorem sh_83 : xsh_ 83 0 0 := ⟨by decide, rfl⟩
theorem sh_84 : xsh_ 84 13 3 := ⟨by decide, rfl⟩
theorem sh_85 : xsh_ 85 0 0 := ⟨by decide, rfl⟩
theorem sh_86 : xsh_ 86 13 3 := ⟨by decide, rfl⟩
theorem sh_87 : xsh_ 87 0 0 := ⟨by decide, rfl⟩
theorem sh_88 : xsh_ 88 13 3 := ⟨by decide, rfl⟩
theorem sh_89 : xsh_ 89 0 0 := ⟨by decide, rfl⟩
theorem sh_90 : xsh_ 90 13 3 := ⟨by decide, rfl⟩
theorem sh_91 : xsh_ 91 0 0 := ⟨by decide, rfl⟩
theorem sh_92 : xsh_ 92 13 3 := ⟨by decide, rfl⟩
theorem sh_93 : xsh_ 93 0 0 := ⟨by decide, rfl⟩
theorem sh_94 : xsh_ 94 13 3 := ⟨by decide, rfl⟩
theorem sh_95 : xsh_ 95 0 0 := ⟨by decide, rfl⟩
theorem sh_96 : xsh_ 96 13 3 := ⟨by decide, rfl⟩
theorem sh_97 : xsh_ 97 0 0 := ⟨by decide, rfl⟩
theorem sh_98 : xsh_ 98 13 3 := ⟨by decide, rfl⟩
theorem sh_99 : xsh_ 99 1 0 := ⟨by decide, rfl⟩
theorem sh_100 : xsh_ 100 16 6 := ⟨by decide, rfl⟩
theorem sh_101 : xsh_ 101 16 3 := ⟨by decide, rfl⟩
theorem sh_102 : xsh_ 102 6 0 := ⟨by decide, rfl⟩
theorem sh_103 : xsh_ 103 14 512 := ⟨by decide, rfl⟩
theorem sh_104 : xsh_ 104 14 3 := ⟨by decide, rfl⟩
theorem sh_105 : xsh_ 105 0 0 := ⟨by decide, rfl⟩
theorem sh_106 : xsh_ 106 13 3 := ⟨by decide, rfl⟩
theorem sh_107 : xsh_ 107 0 0 := ⟨by decide, rfl⟩
theorem sh_108 : xsh_ 108 13 3 := ⟨by decide, rfl⟩
theorem sh_109 : xsh_ 109 0 0 := ⟨by decide, rfl⟩
theorem sh_110 : xsh_ 110 13 3 := ⟨by decide, rfl⟩
theorem sh_111 : xsh_ 111 0 0 := ⟨by decide, rfl⟩
theorem sh_112 : xsh_ 112 13 3 := ⟨by decide, rfl⟩
theorem sh_113 : xsh_ 113 0 0 := ⟨by decide, rfl⟩
theorem sh_114 : xsh_ 114 13 3 := ⟨by decide, rfl⟩
theorem sh_115 : xsh_ 115 0 0 := ⟨by decide, rfl⟩
theorem sh_116 : xsh_ 116 13 3 := ⟨by decide, rfl⟩
theorem sh_117 : xsh_ 117 0 0 := ⟨by decide, rfl⟩
theorem sh_118 : xsh_ 118 13 3 := ⟨by decide, rfl⟩
theorem sh_119 : xsh_ 119 0 0 := ⟨by decide, rfl⟩
theorem sh_120 : xsh_ 120 13 3 := ⟨by decide, rfl⟩
theorem sh_121 : xsh_ 121 0 0 := ⟨by decide, rfl⟩
theorem sh_122 : xsh_ 122 13 3 := ⟨by decide, rfl⟩
theorem sh_123 : xsh_ 123 14 3 := ⟨by decide, rfl⟩
theorem sh_124 : xsh_ 124 4 0 := ⟨by decide, rfl⟩
theorem sh_125 : xsh_ 125 14 3 := ⟨by decide, rfl⟩
theorem sh_126 : xsh_ 126 14 3 := ⟨by decide, rfl⟩
theorem sh_127 : xsh_ 127 2 0 := ⟨by decide, rfl⟩
theorem sh_128 : xsh_ 128 14 6 := ⟨by decide, rfl⟩
theorem sh_129 : xsh_ 129 2 0 := ⟨by decide, rfl⟩
theorem sh_130 : xsh_ 130 14 6 := ⟨by decide, rfl⟩
theorem sh_131 : xsh_ 131 8 0 := ⟨by decide, rfl⟩
theorem sh_132 : xsh_ 132 2 0 := ⟨by decide, rfl⟩
theorem sh_133 : xsh_ 133 14 6 := ⟨by decide, rfl⟩
theorem sh_134 : xsh_ 134 2 0 := ⟨by decide, rfl⟩
theorem sh_135 : xsh_ 135 14 6 := ⟨by decide, rfl⟩
theorem sh_136 : xsh_ 136 9 0 := ⟨by decide, rfl⟩
theorem sh_137 : xsh_ 137 14 48 := ⟨by decide, rfl⟩
theorem sh_138 : xsh_ 138 14 4 := ⟨by decide, rfl⟩
theorem sh_139 : xsh_ 139 5 0 := ⟨by decide, rfl⟩
theorem sh_140 : xsh_ 140 10 0 := ⟨by decide, rfl⟩
theorem sh_141 : xsh_ 141 13 3 := ⟨by decide, rfl⟩
theorem sh_142 : xsh_ 142 13 15 := ⟨by decide, rfl⟩
theorem sh_143 : xsh_ 143 13 5 := ⟨by decide, rfl⟩
theorem sh_144 : xsh_ 144 13 3 := ⟨by decide, rfl⟩
theorem sh_145 : xsh_ 145 13 3 := ⟨by decide, rfl⟩
theorem sh_146 : xsh_ 146 3 0 := ⟨by decide, rfl⟩
theorem sh_147 : xsh_ 147 14 40 := ⟨by decide, rfl⟩
theorem sh_148 : xsh_ 148 14 1000 := ⟨by decide, rfl⟩
theorem sh_149 : xsh_ 149 13 2048 := ⟨by decide, rfl⟩
theorem sh_150 : xsh_ 150 12 0 := ⟨by decide, rfl⟩
theorem sh_151 : xsh_ 151 13 5 := ⟨by decide, rfl⟩
theorem sh_152 : xsh_ 152 13 120 := ⟨by decide, rfl⟩
theorem sh_153 : xsh_ 153 13 60 := ⟨by decide, rfl⟩
theorem sh_154 : xsh_ 154 14 3 := ⟨by decide, rfl⟩
theorem sh_155 : xsh_ 155 14 6 := ⟨by decide, rfl⟩
theorem sh_156 : xsh_ 156 15 6 := ⟨by decide, rfl⟩
theorem sh_157 : xsh_ 157 14 6 := ⟨by decide, rfl⟩
theorem sh_158 : xsh_ 158 15 6 := ⟨by decide, rfl⟩
theorem sh_159 : xsh_ 159 14 48 := ⟨by decide, rfl⟩
theorem sh_160 : xsh_ 160 14 3 := ⟨by decide, rfl⟩
theorem sh_161 : xsh_ 161 13 15 := ⟨by decide, rfl⟩
theorem sh_162 : xsh_ 162 13 3 := ⟨by decide, rfl⟩
theorem sh_163 : xsh_ 163 13 5 := ⟨by decide, rfl⟩
theorem sh_164 : xsh_ 164 15 5 := ⟨by decide, rfl⟩
theorem sh_165 : xsh_ 165 14 30003 := ⟨by decide, rfl⟩
theorem sh_166 : xsh_ 166 13 32768 := ⟨by decide, rfl⟩
theorem sh_167 : xsh_ 167 14 3 := ⟨by decide, rfl⟩
theorem sh_168 : xsh_ 168 14 3 := ⟨by decide, rfl⟩
theorem sh_169 : xsh_ 169 14 6 := ⟨by decide, rfl⟩
theorem sh_170 : xsh_ 170 15 6 := ⟨by decide, rfl⟩
theorem sh_171 : xsh_ 171 14 6 := ⟨by decide, rfl⟩
theorem sh_172 : xsh_ 172 15 6 := ⟨by decide, rfl⟩
theorem sh_173 : xsh_ 173 13 40 := ⟨by decide, rfl⟩
theorem sh_174 : xsh_ 174 13 40 := ⟨by decide, rfl⟩
theorem sh_175 : xsh_ 175 13 40 := ⟨by decide, rfl⟩
theorem sh_176 : xsh_ 176 13 1001 := ⟨by decide, rfl⟩
theorem sh_177 : xsh_ 177 13 1001 := ⟨by decide, rfl⟩
theorem sh_178 : xsh_ 178 13 1001 := ⟨by decide, rfl⟩
theorem sh_179 : xsh_ 179 13 16 := ⟨by decide, rfl⟩
theorem sh_180 : xsh_ 180 13 16 := ⟨by decide, rfl⟩
theorem sh_181 : xsh_ 181 14 3 := ⟨by decide, rfl⟩
theorem sh_182 : xsh_ 182 13 3 := ⟨by decide, rfl⟩
def af_ok (a : Nat) : Prop := xsh_ a 0 0 ∧ sl_R a 0 = some (a + 1) ∧ xsh_ (a + 1) 13 3
def bx_ok (o : Nat) : Prop := xsh_ o 2 0 ∧ sl_R o 0 = some (o + 1) ∧ xsh_ (o + 1) 14 6
theorem lt5_ {b : Nat} (h : b < 5) : b = 0 ∨ b = 1 ∨ b = 2 ∨ b = 3 ∨ b = 4 := by omega
theorem lt6_ {b : Nat} (h : b < 6) : b = 0 ∨ b = 1 ∨ b = 2 ∨ b = 3 ∨ b = 4 ∨ b = 5 := by omega
theorem lt3_ {b : Nat} (h : b < 3) : b = 0 ∨ b = 1 ∨ b = 2 := by omega
theorem bd_s {bb : Nat} (h : bb < 5) : xsh_ (3 + 24 * bb) 1 0 := by rcases lt5_ h with rfl | rfl | rfl | rfl | rfl <;> exact ⟨by decide, rfl⟩
theorem bd_r0 {bb : Nat} (h : bb < 5) : sl_R (3 + 24 * bb) 0 = some (4 + 24 * bb) := by rcases lt5_ h with rfl | rfl | rfl | rfl | rfl <;> exact rfl
theorem bd_r1 {bb : Nat} (h : bb < 5) : sl_R (3 + 24 * bb) 1 = some (5 + 24 * bb) := by rcases lt5_ h with rfl | rfl | rfl | rfl | rfl <;> exact rfl
theorem bd_r2 {bb : Nat} (h : bb < 5) : sl_R (3 + 24 * bb) 2 = some (6 + 24 * bb) := by rcases lt5_ h with rfl | rfl | rfl | rfl | rfl <;> exact rfl
theorem bd_r3 {bb : Nat} (h : bb < 5) : sl_R (3 + 24 * bb) 3 = some (8 + 24 * bb) := by rcases lt5_ h with rfl | rfl | rfl | rfl | rfl <;> exact rfl
theorem bg_s {bb : Nat} (h : bb < 5) : xsh_ (4 + 24 * bb) 16 6 := by rcases lt5_ h with rfl | rfl | rfl | rfl | rfl <;> exact ⟨by decide, rfl⟩
theorem br_s {bb : Nat} (h : bb < 5) : xsh_ (5 + 24 * bb) 16 3 := by rcases lt5_ h with rfl | rfl | rfl | rfl | rfl <;> exact ⟨by decide, rfl⟩
theorem bp_s {bb : Nat} (h : bb < 5) : xsh_ (6 + 24 * bb) 6 0 := by rcases lt5_ h with rfl | rfl | rfl | rfl | rfl <;> exact ⟨by decide, rfl⟩
theorem bp_r0 {bb : Nat} (h : bb < 5) : sl_R (6 + 24 * bb) 0 = some (7 + 24 * bb) := by rcases lt5_ h with rfl | rfl | rfl | rfl | rfl <;> exact rfl
theorem bq_s {bb : Nat} (h : bb < 5) : xsh_ (7 + 24 * bb) 14 512 := by rcases lt5_ h with rfl | rfl | rfl | rfl | rfl <;> exact ⟨by decide, rfl⟩
theorem bc_s {bb : Nat} (h : bb < 5) : xsh_ (8 + 24 * bb) 14 3 := by rcases lt5_ h with rfl | rfl | rfl | rfl | rfl <;> exact ⟨by decide, rfl⟩
theorem pb_r {b : Nat} (h : b < 5) : sl_R 2 b = some (3 + 24 * b) := by rcases lt5_ h with rfl | rfl | rfl | rfl | rfl <;> rfl
theorem bg_r {bb g : Nat} (h : bb < 5) (hg : g < 6) : sl_R (4 + 24 * bb) g = some (9 + 24 * bb + 2 * g) := by rcases lt5_ h with rfl | rfl | rfl | rfl | rfl <;> rcases lt6_ hg with rfl | rfl | rfl | rfl | rfl | rfl <;> rfl
theorem br_r {bb i : Nat} (h : bb < 5) (hi : i < 3) : sl_R (5 + 24 * bb) i = some (21 + 24 * bb + 2 * i) := by rcases lt5_ h with rfl | rfl | rfl | rfl | rfl <;> rcases lt3_ hi with rfl | rfl | rfl <;> rfl
theorem bg_a {bb g : Nat} (h : bb < 5) (hg : g < 6) : af_ok (9 + 24 * bb + 2 * g) := by rcases lt5_ h with rfl | rfl | rfl | rfl | rfl <;> rcases lt6_ hg with rfl | rfl | rfl | rfl | rfl | rfl <;> exact ⟨⟨by decide, rfl⟩, rfl, ⟨by decide, rfl⟩⟩
theorem br_a {bb i : Nat} (h : bb < 5) (hi : i < 3) : af_ok (21 + 24 * bb + 2 * i) := by rcases lt5_ h with rfl | rfl | rfl | rfl | rfl <;> rcases lt3_ hi with rfl | rfl | rfl <;> exact ⟨⟨by decide, rfl⟩, rfl, ⟨by decide, rfl⟩⟩
theorem bx_127 : bx_ok 127 := ⟨⟨by decide, rfl⟩, rfl, ⟨by decide, rfl⟩⟩
theorem bx_129 : bx_ok 129 := ⟨⟨by decide, rfl⟩, rfl, ⟨by decide, rfl⟩⟩
theorem bx_132 : bx_ok 132 := ⟨⟨by decide, rfl⟩, rfl, ⟨by decide, rfl⟩⟩
theorem bx_134 : bx_ok 134 := ⟨⟨by decide, rfl⟩, rfl, ⟨by decide, rfl⟩⟩
theorem xin_n {i : Int32} {n : Nat} (h : xm_in i n) : i.toNatClampNeg < n := by
  have h1 := h.1
  have h2 := h.2
  show i.toInt.toNat < n
  omega
/-- fewer locals -/
def xm_sb (l' l : List (Option Value)) : Prop := match l', l with
  | [], _ => True
  | none :: a, _ :: b => xm_sb a b
  | none :: a, [] => xm_sb a []
  | some v :: a, some w :: b => v = w ∧ xm_sb a b
  | some _ :: _, none :: _ => False
  | some _ :: _, [] => False
theorem xm_sb_at {l' l : List (Option Value)} (h : xm_sb l' l) : ∀ (i : Nat) (v : Value), l'[i]? = some (some v) → l[i]? = some (some v) := by
  fun_induction xm_sb l' l with
  | case1 l => intro i v hi; simp at hi
  | case2 a x b ih =>
    intro i v hi
    match i, hi with
    | 0, hi => cases hi
    | i + 1, hi => exact ih h i v hi
  | case3 a ih =>
    intro i v hi
    match i, hi with
    | 0, hi => cases hi
    | i + 1, hi =>
      have := ih h i v hi
      simp at this
  | case4 v a w b ih =>
    intro i v' hi
    match i, hi with
    | 0, hi => cases hi; rw [h.1]; rfl
    | i + 1, hi => exact ih h.2 i v' hi
  | case5 => exact h.elim
  | case6 => exact h.elim
section XR_
variable {α β γ S : Type} {em : α → Option Value} {sg : S → xm_S} {M : xm_M} {pc n : Nat} {lv lv' : List (Option Value)} {st : List Value} {σ : S} {bc bs : Nat} {o : Option (α × S)} {a : Option β} {f : β → Option (α × S)} {μ : xm_Y}
theorem xs_fg (h : xm_sb lv' lv) (k : xs_ em sg M pc lv' st σ bc bs o) : xs_ em sg M pc lv st σ bc bs o := by
  intro r σ' ho G base b L xs l p e R s m args below meth c H locs cells slots ls Q hC hf hlo hc hs hL hW hz hS kret
  obtain ⟨l0, h1, h2⟩ := hL
  exact k r σ' ho G base b L xs l p e R s m args below meth c H locs cells slots ls Q hC hf hlo hc hs ⟨l0, h1, fun i v hi => h2 i v (xm_sb_at h i v hi)⟩ hW hz hS kret
theorem xs_gf (k : xs_ em sg M pc lv' st σ bc bs o) (h : xm_sb lv' lv) : xs_ em sg M pc lv st σ bc bs o := xs_fg h k
theorem xs_join {B : Option β} {g : β → Option γ} {f : γ → Option (α × S)} (J : Nat) (lvJ : β → List (Option Value)) (stJ : β → List Value) (sJ : β → S) (kJ : ∀ q : β, xs_ em sg M J (lvJ q) (stJ q) (sJ q) bc bs ((g q).bind f)) (kB : (∀ q : β, xs_ em sg M J (lvJ q) (stJ q) (sJ q) bc bs ((g q).bind f)) → xs_ em sg M pc lv st σ bc bs (B.bind (fun v => (g v).bind f))) : xs_ em sg M pc lv st σ bc bs ((B.bind g).bind f) := xs_reg (kB kJ)
theorem xs_inr {δ : Type} {g1 : δ → Option γ} {g2 : β → Option γ} {f : γ → Option (α × S)} {q : β} (k : xs_ em sg M pc lv st σ bc bs ((g2 q).bind f)) : xs_ em sg M pc lv st σ bc bs ((Sum.elim g1 g2 (.inr q)).bind f) := k
theorem xs_iincl {i : Nat} {d : Int} {x dv : Int32} {g : Int32 → Option β} (lvf : Int32 → List (Option Value)) (hd : decode M.2.1 pc = .ok (.iinc i d, 3)) (hn : pc + 3 = n) (hl : lv[i]? = some (some (.int x))) (hv : Int32.ofInt d = dv) (hi : i < M.2.2.1) (he : ∀ v : Int32, xm_s1 lv i (.int v) = lvf v) (k : ∀ v : Int32, xs_ em sg M n (lvf v) st σ bc bs ((g v).bind f)) : xs_ em sg M pc lv st σ bc bs ((xm_let (x + dv) g).bind f) := by
  subst hv
  exact xs_iinc hd hn hl rfl hi (he _) (k _)
theorem xs_zretc {S : Type} {sg : S → xm_S} {σ : S} {x : Int32} {β : Type} {v : β} {f : β → Option (Int32 × S)} (hd : decode M.2.1 pc = .ok (.ireturn, 1)) (hr : M.2.2.2.1 = some .boolean) (hx : x = 0 ∨ x = 1) (hf : f v = some (x, σ)) : xs_ (fun x : Int32 => some (.int x)) sg M pc lv [.int x] σ bc bs ((some v).bind f) := by
  have := xs_zret (bc := bc) (bs := bs) (lv := lv) (sg := sg) hd hr hf
  rwa [xm_chk, if_pos hx] at this
-- the same rows over the static cells
theorem ys_geti {idx ci j t kk nn : Nat} {C : String} {T : u_T} {N : Nat} {ty : Nat → FieldType} {o : Option (α × xm_Y)} (hd : decode M.2.1 pc = .ok (.getfield idx, 3)) (hn : pc + 3 = n) (hl : xm_fl M.1.cls idx ci j t C T N ty) (ht : t = 0 ∨ t = 3) (hk : xsh_ kk ci nn) (k : xs_ em sg_0 M n lv (.int (μ.1 kk j) :: st) μ bc bs o) : xs_ em sg_0 M pc lv (.ref kk :: st) μ bc bs o := xs_geti hd hn hl ht (hk.is μ) k
theorem ys_getl {idx ci j kk nn : Nat} {C : String} {T : u_T} {N : Nat} {ty : Nat → FieldType} {o : Option (α × xm_Y)} (hd : decode M.2.1 pc = .ok (.getfield idx, 3)) (hn : pc + 3 = n) (hl : xm_fl M.1.cls idx ci j 1 C T N ty) (hk : xsh_ kk ci nn) (k : xs_ em sg_0 M n lv (.long (μ.2 kk j) :: st) μ bc bs o) : xs_ em sg_0 M pc lv (.ref kk :: st) μ bc bs o := xs_getl hd hn hl (hk.is μ) k
theorem ys_getr {idx ci j kk nn a : Nat} {C : String} {T : u_T} {N : Nat} {ty : Nat → FieldType} {o : Option (α × xm_Y)} (hd : decode M.2.1 pc = .ok (.getfield idx, 3)) (hn : pc + 3 = n) (hl : xm_fl M.1.cls idx ci j 2 C T N ty) (hk : xsh_ kk ci nn) (hr : sl_R kk j = some a) (k : xs_ em sg_0 M n lv (.ref a :: st) μ bc bs o) : xs_ em sg_0 M pc lv (.ref kk :: st) μ bc bs o := xs_getr hd hn hl (hk.is μ) hr k
variable {f : β → Option (α × xm_Y)}
theorem ys_puti {idx ci j kk nn : Nat} {C : String} {T : u_T} {N : Nat} {ty : Nat → FieldType} {v : Int32} {g : xm_Y → Option β} (hd : decode M.2.1 pc = .ok (.putfield idx, 3)) (hn : pc + 3 = n) (hl : xm_fl M.1.cls idx ci j 0 C T N ty) (hfin : (T j).2.2.2 = false) (hk : xsh_ kk ci nn) (k : ∀ μ', xs_ em sg_0 M n lv st μ' bc bs ((g μ').bind f)) : xs_ em sg_0 M pc lv (.int v :: .ref kk :: st) μ bc bs ((xm_let (w_I μ kk j v) g).bind f) := xs_puti hd hn hl hfin (hk.is μ) rfl (k (w_I μ kk j v))
theorem ys_putz {idx ci j kk nn : Nat} {C : String} {T : u_T} {N : Nat} {ty : Nat → FieldType} {v : Int32} {g : xm_Y → Option β} (hd : decode M.2.1 pc = .ok (.putfield idx, 3)) (hn : pc + 3 = n) (hl : xm_fl M.1.cls idx ci j 3 C T N ty) (hfin : (T j).2.2.2 = false) (hk : xsh_ kk ci nn) (k : ∀ μ', xs_ em sg_0 M n lv st μ' bc bs ((g μ').bind f)) : xs_ em sg_0 M pc lv (.int v :: .ref kk :: st) μ bc bs ((xm_chk (v = 0 ∨ v = 1) (xm_let (w_I μ kk j v) g)).bind f) := xs_putz hd hn hl hfin (hk.is μ) rfl (k (w_I μ kk j v))
theorem ys_putzc {idx ci j kk nn : Nat} {C : String} {T : u_T} {N : Nat} {ty : Nat → FieldType} {v : Int32} {g : xm_Y → Option β} (hd : decode M.2.1 pc = .ok (.putfield idx, 3)) (hn : pc + 3 = n) (hl : xm_fl M.1.cls idx ci j 3 C T N ty) (hfin : (T j).2.2.2 = false) (hk : xsh_ kk ci nn) (hx : v = 0 ∨ v = 1) (k : ∀ μ', xs_ em sg_0 M n lv st μ' bc bs ((g μ').bind f)) : xs_ em sg_0 M pc lv (.int v :: .ref kk :: st) μ bc bs ((xm_let (w_I μ kk j v) g).bind f) := by
  have := ys_putz (μ := μ) (v := v) hd hn hl hfin hk k
  rwa [xm_chk, if_pos hx] at this
theorem ys_putl {idx ci j kk nn : Nat} {C : String} {T : u_T} {N : Nat} {ty : Nat → FieldType} {v : Int64} {g : xm_Y → Option β} (hd : decode M.2.1 pc = .ok (.putfield idx, 3)) (hn : pc + 3 = n) (hl : xm_fl M.1.cls idx ci j 1 C T N ty) (hfin : (T j).2.2.2 = false) (hk : xsh_ kk ci nn) (k : ∀ μ', xs_ em sg_0 M n lv st μ' bc bs ((g μ').bind f)) : xs_ em sg_0 M pc lv (.long v :: .ref kk :: st) μ bc bs ((xm_let (w_J μ kk j v) g).bind f) := xs_putl hd hn hl hfin (hk.is μ) rfl (k (w_J μ kk j v))
theorem ys_iaload {kk nn : Nat} {i : Int32} (hd : decode M.2.1 pc = .ok (.iaload, 1)) (hn : pc + 1 = n) (hk : xsh_ kk 13 nn) (k : xs_ em sg_0 M n lv (.int (μ.1 kk i.toNatClampNeg) :: st) μ bc bs (a.bind f)) : xs_ em sg_0 M pc lv (.int i :: .ref kk :: st) μ bc bs ((xm_chk (xm_in i nn) a).bind f) := xs_iaload hd hn (hk.is μ) k
theorem ys_baload {kk nn : Nat} {i : Int32} (hd : decode M.2.1 pc = .ok (.baload, 1)) (hn : pc + 1 = n) (hk : xsh_ kk 15 nn) (k : xs_ em sg_0 M n lv (.int (μ.1 kk i.toNatClampNeg) :: st) μ bc bs (a.bind f)) : xs_ em sg_0 M pc lv (.int i :: .ref kk :: st) μ bc bs ((xm_chk (xm_in i nn) a).bind f) := xs_baload hd hn (hk.is μ) k
theorem ys_laload {kk nn : Nat} {i : Int32} (hd : decode M.2.1 pc = .ok (.laload, 1)) (hn : pc + 1 = n) (hk : xsh_ kk 14 nn) (k : xs_ em sg_0 M n lv (.long (μ.2 kk i.toNatClampNeg) :: st) μ bc bs (a.bind f)) : xs_ em sg_0 M pc lv (.int i :: .ref kk :: st) μ bc bs ((xm_chk (xm_in i nn) a).bind f) := xs_laload hd hn (hk.is μ) k
theorem ys_aaload16 {kk nn aa : Nat} {i : Int32} (hd : decode M.2.1 pc = .ok (.aaload, 1)) (hn : pc + 1 = n) (hk : xsh_ kk 16 nn) (hr : xm_in i nn → sl_R kk i.toNatClampNeg = some aa) (k : xm_in i nn → xs_ em sg_0 M n lv (.ref aa :: st) μ bc bs (a.bind f)) : xs_ em sg_0 M pc lv (.int i :: .ref kk :: st) μ bc bs ((xm_chk (xm_in i nn) a).bind f) := xs_aaload16 hd hn (hk.is μ) hr k
theorem ys_aaload17 {kk nn aa : Nat} {i : Int32} (hd : decode M.2.1 pc = .ok (.aaload, 1)) (hn : pc + 1 = n) (hk : xsh_ kk 17 nn) (hr : xm_in i nn → sl_R kk i.toNatClampNeg = some aa) (k : xm_in i nn → xs_ em sg_0 M n lv (.ref aa :: st) μ bc bs (a.bind f)) : xs_ em sg_0 M pc lv (.int i :: .ref kk :: st) μ bc bs ((xm_chk (xm_in i nn) a).bind f) := xs_aaload17 hd hn (hk.is μ) hr k
theorem ys_iastore {kk nn : Nat} {i v : Int32} {g : xm_Y → Option β} (hd : decode M.2.1 pc = .ok (.iastore, 1)) (hn : pc + 1 = n) (hk : xsh_ kk 13 nn) (k : ∀ μ', xs_ em sg_0 M n lv st μ' bc bs ((g μ').bind f)) : xs_ em sg_0 M pc lv (.int v :: .int i :: .ref kk :: st) μ bc bs ((xm_chk (xm_in i nn) (xm_let (w_I μ kk i.toNatClampNeg v) g)).bind f) := xs_iastore hd hn (hk.is μ) rfl (k (w_I μ kk i.toNatClampNeg v))
theorem ys_bastore {kk nn : Nat} {i v : Int32} {g : xm_Y → Option β} (hd : decode M.2.1 pc = .ok (.bastore, 1)) (hn : pc + 1 = n) (hk : xsh_ kk 15 nn) (k : ∀ μ', xs_ em sg_0 M n lv st μ' bc bs ((g μ').bind f)) : xs_ em sg_0 M pc lv (.int v :: .int i :: .ref kk :: st) μ bc bs ((xm_chk (xm_in i nn) (xm_let (w_I μ kk i.toNatClampNeg (vp_nar .boolean v)) g)).bind f) := xs_bastore hd hn (hk.is μ) rfl (k (w_I μ kk i.toNatClampNeg (vp_nar .boolean v)))
theorem ys_lastore {kk nn : Nat} {i : Int32} {v : Int64} {g : xm_Y → Option β} (hd : decode M.2.1 pc = .ok (.lastore, 1)) (hn : pc + 1 = n) (hk : xsh_ kk 14 nn) (k : ∀ μ', xs_ em sg_0 M n lv st μ' bc bs ((g μ').bind f)) : xs_ em sg_0 M pc lv (.long v :: .int i :: .ref kk :: st) μ bc bs ((xm_chk (xm_in i nn) (xm_let (w_J μ kk i.toNatClampNeg v) g)).bind f) := xs_lastore hd hn (hk.is μ) rfl (k (w_J μ kk i.toNatClampNeg v))
theorem ys_alen13 {kk nn : Nat} {o : Option (α × xm_Y)} (hd : decode M.2.1 pc = .ok (.arraylength, 1)) (hn : pc + 1 = n) (hk : xsh_ kk 13 nn) (k : xs_ em sg_0 M n lv (.int (Int32.ofNat nn) :: st) μ bc bs o) : xs_ em sg_0 M pc lv (.ref kk :: st) μ bc bs o := xs_alen13 hd hn (hk.is μ) rfl k
theorem ys_alen14 {kk nn : Nat} {o : Option (α × xm_Y)} (hd : decode M.2.1 pc = .ok (.arraylength, 1)) (hn : pc + 1 = n) (hk : xsh_ kk 14 nn) (k : xs_ em sg_0 M n lv (.int (Int32.ofNat nn) :: st) μ bc bs o) : xs_ em sg_0 M pc lv (.ref kk :: st) μ bc bs o := xs_alen14 hd hn (hk.is μ) rfl k
theorem ys_copyl {k0 k1 n0 n1 idx : Nat} {sp dp nn : Int32} {g : xm_Y → Option β} (hd : decode M.2.1 pc = .ok (.invokestatic idx, 3)) (hn : pc + 3 = n) (hw : Cond.methodLink M.1.cls idx arraycopyName ∈ xm_tb) (h0 : xsh_ k0 14 n0) (hk1 : xsh_ k1 14 n1) (hfr : 1 ≤ M.2.2.2.2.1) (hlc : (st.map fun v => v.category).sum + 18 ≤ M.2.2.2.2.2) (k : ∀ μ', xs_ em sg_0 M n lv st μ' bc bs ((g μ').bind f)) : xs_ em sg_0 M pc lv (.int nn :: .int dp :: .ref k1 :: .int sp :: .ref k0 :: st) μ bc bs ((xm_chk (0 ≤ sp ∧ 0 ≤ dp ∧ 0 ≤ nn ∧ sp.toNatClampNeg + nn.toNatClampNeg ≤ n0 ∧ dp.toNatClampNeg + nn.toNatClampNeg ≤ n1) (xm_let (cp_J μ k0 k1 sp.toNatClampNeg dp.toNatClampNeg nn.toNatClampNeg) g)).bind f) := xs_copyl hd hn hw (h0.is μ) (hk1.is μ) hfr hlc rfl (k _)
theorem ys_copyi {k0 k1 n0 n1 idx : Nat} {sp dp nn : Int32} {g : xm_Y → Option β} (hd : decode M.2.1 pc = .ok (.invokestatic idx, 3)) (hn : pc + 3 = n) (hw : Cond.methodLink M.1.cls idx arraycopyName ∈ xm_tb) (h0 : xsh_ k0 13 n0) (hk1 : xsh_ k1 13 n1) (hfr : 1 ≤ M.2.2.2.2.1) (hlc : (st.map fun v => v.category).sum + 18 ≤ M.2.2.2.2.2) (k : ∀ μ', xs_ em sg_0 M n lv st μ' bc bs ((g μ').bind f)) : xs_ em sg_0 M pc lv (.int nn :: .int dp :: .ref k1 :: .int sp :: .ref k0 :: st) μ bc bs ((xm_chk (0 ≤ sp ∧ 0 ≤ dp ∧ 0 ≤ nn ∧ sp.toNatClampNeg + nn.toNatClampNeg ≤ n0 ∧ dp.toNatClampNeg + nn.toNatClampNeg ≤ n1) (xm_let (cp_I μ k0 k1 sp.toNatClampNeg dp.toNatClampNeg nn.toNatClampNeg) g)).bind f) := xs_copyi hd hn hw (h0.is μ) (hk1.is μ) hfr hlc rfl (k _)
theorem ys_callsi {N : xm_M} {na idx : Nat} {oN : Option (Int32 × xm_Y)} {F : Int32 × xm_Y → Option β} {stk : List Value} {lv0 : List (Option Value)} (hd : decode M.2.1 pc = .ok (.invokestatic idx, 3)) (hn : pc + 3 = n) (hok : xm_ok N na) (hw : Cond.methodLink M.1.cls idx N.1 ∈ xm_tb) (hst : Cond.static N.1 ∈ xm_tb) (hR : N.2.2.2.2.1 + 1 ≤ M.2.2.2.2.1 ∧ 8 + (N.2.2.1 + 11) + N.2.2.2.2.2 ≤ M.2.2.2.2.2) (As : List Value) (rest : List Value) (hstk : stk = As.reverse ++ rest) (hla : As.length = na) (hlen : (lg_sl As).length ≤ N.2.2.1) (he : xm_en N.2.2.1 As = lv0) (hrest : (rest.map fun v => v.category).sum ≤ 8) (hN : xs_ (fun x : Int32 => some (.int x)) sg_0 N 0 lv0 [] μ 0 0 oN) (k : ∀ q : Int32 × xm_Y, xs_ em sg_0 M n lv (.int q.1 :: rest) q.2 bc bs ((F q).bind f)) : xs_ em sg_0 M pc lv stk μ bc bs ((oN.bind F).bind f) := xs_calls (mc := 0) (ms := 0) (bc' := bc) (bs' := bs) hd hn hok hw hst hR As rest hstk hla hlen he hrest ⟨Nat.le_refl _, Nat.le_refl _⟩ (fun _ _ => rfl) hN (fun v σ1 => k (v, σ1))
theorem ys_callsl {N : xm_M} {na idx : Nat} {oN : Option (Int64 × xm_Y)} {F : Int64 × xm_Y → Option β} {stk : List Value} {lv0 : List (Option Value)} (hd : decode M.2.1 pc = .ok (.invokestatic idx, 3)) (hn : pc + 3 = n) (hok : xm_ok N na) (hw : Cond.methodLink M.1.cls idx N.1 ∈ xm_tb) (hst : Cond.static N.1 ∈ xm_tb) (hR : N.2.2.2.2.1 + 1 ≤ M.2.2.2.2.1 ∧ 8 + (N.2.2.1 + 11) + N.2.2.2.2.2 ≤ M.2.2.2.2.2) (As : List Value) (rest : List Value) (hstk : stk = As.reverse ++ rest) (hla : As.length = na) (hlen : (lg_sl As).length ≤ N.2.2.1) (he : xm_en N.2.2.1 As = lv0) (hrest : (rest.map fun v => v.category).sum ≤ 8) (hN : xs_ (fun x : Int64 => some (.long x)) sg_0 N 0 lv0 [] μ 0 0 oN) (k : ∀ q : Int64 × xm_Y, xs_ em sg_0 M n lv (.long q.1 :: rest) q.2 bc bs ((F q).bind f)) : xs_ em sg_0 M pc lv stk μ bc bs ((oN.bind F).bind f) := xs_calls (mc := 0) (ms := 0) (bc' := bc) (bs' := bs) hd hn hok hw hst hR As rest hstk hla hlen he hrest ⟨Nat.le_refl _, Nat.le_refl _⟩ (fun _ _ => rfl) hN (fun v σ1 => k (v, σ1))
theorem ys_callsv {N : xm_M} {na idx : Nat} {oN : Option (Unit × xm_Y)} {F : Unit × xm_Y → Option β} {stk : List Value} {lv0 : List (Option Value)} (hd : decode M.2.1 pc = .ok (.invokestatic idx, 3)) (hn : pc + 3 = n) (hok : xm_ok N na) (hw : Cond.methodLink M.1.cls idx N.1 ∈ xm_tb) (hst : Cond.static N.1 ∈ xm_tb) (hR : N.2.2.2.2.1 + 1 ≤ M.2.2.2.2.1 ∧ 8 + (N.2.2.1 + 11) + N.2.2.2.2.2 ≤ M.2.2.2.2.2) (As : List Value) (rest : List Value) (hstk : stk = As.reverse ++ rest) (hla : As.length = na) (hlen : (lg_sl As).length ≤ N.2.2.1) (he : xm_en N.2.2.1 As = lv0) (hrest : (rest.map fun v => v.category).sum ≤ 8) (hN : xs_ (fun _ : Unit => none) sg_0 N 0 lv0 [] μ 0 0 oN) (k : ∀ q : Unit × xm_Y, xs_ em sg_0 M n lv (rest) q.2 bc bs ((F q).bind f)) : xs_ em sg_0 M pc lv stk μ bc bs ((oN.bind F).bind f) := xs_calls (mc := 0) (ms := 0) (bc' := bc) (bs' := bs) hd hn hok hw hst hR As rest hstk hla hlen he hrest ⟨Nat.le_refl _, Nat.le_refl _⟩ (fun _ _ => rfl) hN (fun v σ1 => k (v, σ1))
theorem ys_callsni {N : xm_M} {na idx : Nat} {oN : Option (Int32 × xm_Y)} {F : Int32 × xm_Y → Option β} {stk : List Value} {lv0 : List (Option Value)} {host : String} (hd : decode M.2.1 pc = .ok (.invokestatic idx, 3)) (hn : pc + 3 = n) (hok : xm_ok N na) (hw : Cond.methodLinkNest M.1.cls idx N.1 host ∈ lw_tbl) (hst : Cond.static N.1 ∈ xm_tb) (hR : N.2.2.2.2.1 + 1 ≤ M.2.2.2.2.1 ∧ 8 + (N.2.2.1 + 11) + N.2.2.2.2.2 ≤ M.2.2.2.2.2) (As : List Value) (rest : List Value) (hstk : stk = As.reverse ++ rest) (hla : As.length = na) (hlen : (lg_sl As).length ≤ N.2.2.1) (he : xm_en N.2.2.1 As = lv0) (hrest : (rest.map fun v => v.category).sum ≤ 8) (hN : xs_ (fun x : Int32 => some (.int x)) sg_0 N 0 lv0 [] μ 0 0 oN) (k : ∀ q : Int32 × xm_Y, xs_ em sg_0 M n lv (.int q.1 :: rest) q.2 bc bs ((F q).bind f)) : xs_ em sg_0 M pc lv stk μ bc bs ((oN.bind F).bind f) := xs_callsn (mc := 0) (ms := 0) (bc' := bc) (bs' := bs) hd hn hok hw hst hR As rest hstk hla hlen he hrest ⟨Nat.le_refl _, Nat.le_refl _⟩ (fun _ _ => rfl) hN (fun v σ1 => k (v, σ1))
theorem ys_callsnl {N : xm_M} {na idx : Nat} {oN : Option (Int64 × xm_Y)} {F : Int64 × xm_Y → Option β} {stk : List Value} {lv0 : List (Option Value)} {host : String} (hd : decode M.2.1 pc = .ok (.invokestatic idx, 3)) (hn : pc + 3 = n) (hok : xm_ok N na) (hw : Cond.methodLinkNest M.1.cls idx N.1 host ∈ lw_tbl) (hst : Cond.static N.1 ∈ xm_tb) (hR : N.2.2.2.2.1 + 1 ≤ M.2.2.2.2.1 ∧ 8 + (N.2.2.1 + 11) + N.2.2.2.2.2 ≤ M.2.2.2.2.2) (As : List Value) (rest : List Value) (hstk : stk = As.reverse ++ rest) (hla : As.length = na) (hlen : (lg_sl As).length ≤ N.2.2.1) (he : xm_en N.2.2.1 As = lv0) (hrest : (rest.map fun v => v.category).sum ≤ 8) (hN : xs_ (fun x : Int64 => some (.long x)) sg_0 N 0 lv0 [] μ 0 0 oN) (k : ∀ q : Int64 × xm_Y, xs_ em sg_0 M n lv (.long q.1 :: rest) q.2 bc bs ((F q).bind f)) : xs_ em sg_0 M pc lv stk μ bc bs ((oN.bind F).bind f) := xs_callsn (mc := 0) (ms := 0) (bc' := bc) (bs' := bs) hd hn hok hw hst hR As rest hstk hla hlen he hrest ⟨Nat.le_refl _, Nat.le_refl _⟩ (fun _ _ => rfl) hN (fun v σ1 => k (v, σ1))
theorem ys_callsnv {N : xm_M} {na idx : Nat} {oN : Option (Unit × xm_Y)} {F : Unit × xm_Y → Option β} {stk : List Value} {lv0 : List (Option Value)} {host : String} (hd : decode M.2.1 pc = .ok (.invokestatic idx, 3)) (hn : pc + 3 = n) (hok : xm_ok N na) (hw : Cond.methodLinkNest M.1.cls idx N.1 host ∈ lw_tbl) (hst : Cond.static N.1 ∈ xm_tb) (hR : N.2.2.2.2.1 + 1 ≤ M.2.2.2.2.1 ∧ 8 + (N.2.2.1 + 11) + N.2.2.2.2.2 ≤ M.2.2.2.2.2) (As : List Value) (rest : List Value) (hstk : stk = As.reverse ++ rest) (hla : As.length = na) (hlen : (lg_sl As).length ≤ N.2.2.1) (he : xm_en N.2.2.1 As = lv0) (hrest : (rest.map fun v => v.category).sum ≤ 8) (hN : xs_ (fun _ : Unit => none) sg_0 N 0 lv0 [] μ 0 0 oN) (k : ∀ q : Unit × xm_Y, xs_ em sg_0 M n lv (rest) q.2 bc bs ((F q).bind f)) : xs_ em sg_0 M pc lv stk μ bc bs ((oN.bind F).bind f) := xs_callsn (mc := 0) (ms := 0) (bc' := bc) (bs' := bs) hd hn hok hw hst hR As rest hstk hla hlen he hrest ⟨Nat.le_refl _, Nat.le_refl _⟩ (fun _ _ => rfl) hN (fun v σ1 => k (v, σ1))
theorem ys_callvi {N : xm_M} {na idx : Nat} {oN : Option (Int32 × xm_Y)} {F : Int32 × xm_Y → Option β} {stk : List Value} {lv0 : List (Option Value)} {kk ci nn : Nat} {T : u_T} {NF : Nat} (hd : decode M.2.1 pc = .ok (.invokevirtual idx, 3)) (hn : pc + 3 = n) (hok : xm_ok N na) (hw : Cond.methodLink M.1.cls idx N.1 ∈ xm_tb) (hin : Cond.instanceMethod N.1 ∈ xm_tb) (hse : Cond.selects N.1.cls N.1 N.1 ∈ xm_tb) (hR : N.2.2.2.2.1 + 1 ≤ M.2.2.2.2.1 ∧ 8 + (N.2.2.1 + 11) + N.2.2.2.2.2 ≤ M.2.2.2.2.2) (As : List Value) (rest : List Value) (hstk : stk = As.reverse ++ .ref kk :: rest) (hla : As.length = na) (hlen : (lg_sl (.ref kk :: As)).length ≤ N.2.2.1) (he : xm_en N.2.2.1 (.ref kk :: As) = lv0) (hrest : (rest.map fun v => v.category).sum ≤ 8) (hN : xs_ (fun x : Int32 => some (.int x)) sg_0 N 0 lv0 [] μ 0 0 oN) (hk : xsh_ kk ci nn) (hc13 : ci < 13) (hcl : vwCl[ci]? = some (N.1.cls, T, NF)) (k : ∀ q : Int32 × xm_Y, xs_ em sg_0 M n lv (.int q.1 :: rest) q.2 bc bs ((F q).bind f)) : xs_ em sg_0 M pc lv stk μ bc bs ((oN.bind F).bind f) := xs_callv (mc := 0) (ms := 0) (bc' := bc) (bs' := bs) hd hn hok hw hin hse hR As rest hstk hla hlen he hrest ⟨Nat.le_refl _, Nat.le_refl _⟩ (fun _ _ => rfl) hN (hk.is μ) hc13 hcl (fun v σ1 => k (v, σ1))
theorem ys_callvl {N : xm_M} {na idx : Nat} {oN : Option (Int64 × xm_Y)} {F : Int64 × xm_Y → Option β} {stk : List Value} {lv0 : List (Option Value)} {kk ci nn : Nat} {T : u_T} {NF : Nat} (hd : decode M.2.1 pc = .ok (.invokevirtual idx, 3)) (hn : pc + 3 = n) (hok : xm_ok N na) (hw : Cond.methodLink M.1.cls idx N.1 ∈ xm_tb) (hin : Cond.instanceMethod N.1 ∈ xm_tb) (hse : Cond.selects N.1.cls N.1 N.1 ∈ xm_tb) (hR : N.2.2.2.2.1 + 1 ≤ M.2.2.2.2.1 ∧ 8 + (N.2.2.1 + 11) + N.2.2.2.2.2 ≤ M.2.2.2.2.2) (As : List Value) (rest : List Value) (hstk : stk = As.reverse ++ .ref kk :: rest) (hla : As.length = na) (hlen : (lg_sl (.ref kk :: As)).length ≤ N.2.2.1) (he : xm_en N.2.2.1 (.ref kk :: As) = lv0) (hrest : (rest.map fun v => v.category).sum ≤ 8) (hN : xs_ (fun x : Int64 => some (.long x)) sg_0 N 0 lv0 [] μ 0 0 oN) (hk : xsh_ kk ci nn) (hc13 : ci < 13) (hcl : vwCl[ci]? = some (N.1.cls, T, NF)) (k : ∀ q : Int64 × xm_Y, xs_ em sg_0 M n lv (.long q.1 :: rest) q.2 bc bs ((F q).bind f)) : xs_ em sg_0 M pc lv stk μ bc bs ((oN.bind F).bind f) := xs_callv (mc := 0) (ms := 0) (bc' := bc) (bs' := bs) hd hn hok hw hin hse hR As rest hstk hla hlen he hrest ⟨Nat.le_refl _, Nat.le_refl _⟩ (fun _ _ => rfl) hN (hk.is μ) hc13 hcl (fun v σ1 => k (v, σ1))
theorem ys_callvv {N : xm_M} {na idx : Nat} {oN : Option (Unit × xm_Y)} {F : Unit × xm_Y → Option β} {stk : List Value} {lv0 : List (Option Value)} {kk ci nn : Nat} {T : u_T} {NF : Nat} (hd : decode M.2.1 pc = .ok (.invokevirtual idx, 3)) (hn : pc + 3 = n) (hok : xm_ok N na) (hw : Cond.methodLink M.1.cls idx N.1 ∈ xm_tb) (hin : Cond.instanceMethod N.1 ∈ xm_tb) (hse : Cond.selects N.1.cls N.1 N.1 ∈ xm_tb) (hR : N.2.2.2.2.1 + 1 ≤ M.2.2.2.2.1 ∧ 8 + (N.2.2.1 + 11) + N.2.2.2.2.2 ≤ M.2.2.2.2.2) (As : List Value) (rest : List Value) (hstk : stk = As.reverse ++ .ref kk :: rest) (hla : As.length = na) (hlen : (lg_sl (.ref kk :: As)).length ≤ N.2.2.1) (he : xm_en N.2.2.1 (.ref kk :: As) = lv0) (hrest : (rest.map fun v => v.category).sum ≤ 8) (hN : xs_ (fun _ : Unit => none) sg_0 N 0 lv0 [] μ 0 0 oN) (hk : xsh_ kk ci nn) (hc13 : ci < 13) (hcl : vwCl[ci]? = some (N.1.cls, T, NF)) (k : ∀ q : Unit × xm_Y, xs_ em sg_0 M n lv (rest) q.2 bc bs ((F q).bind f)) : xs_ em sg_0 M pc lv stk μ bc bs ((oN.bind F).bind f) := xs_callv (mc := 0) (ms := 0) (bc' := bc) (bs' := bs) hd hn hok hw hin hse hR As rest hstk hla hlen he hrest ⟨Nat.le_refl _, Nat.le_refl _⟩ (fun _ _ => rfl) hN (hk.is μ) hc13 hcl (fun v σ1 => k (v, σ1))
end XR_
