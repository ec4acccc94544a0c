def lp_X12_offer_54 (m : Nat) (c1 : Int64) (c3 : Int64) (c5 : Int64) (c9 : Int32) (c10 : Int32) (c11 : Int32) (c12 : Int64) : Nat → Int64 → Int64 → Int32 → xm_Y → Option (Int64 × Int64 × Int32 × xm_Y)
  | 0, _, _, _, _ => none
  | n + 1, l14, l16, l18, u0 =>
  if (3) ≤ l18 then (
  some (l14, l16, l18, u0)) else (
  ((if l18 = 0 then (
  some (c1)) else (
  if l18 = (1) then (
  some (c3)) else (
  some (c5))) : Option (Int64)).bind fun q8 =>
  xm_let (α := Int64) ((c12 * q8)) fun v12 =>
  ((if l18 = 0 then (
  some (c9)) else (
  if l18 = (1) then (
  some (c10)) else (
  some (c11))) : Option (Int32)).bind fun q13 =>
  xm_chk (xm_in (((4) * q13) + (3)) 48) (
  xm_let (α := Int64) ((u0.2 159 (Int32.toNatClampNeg (((4) * q13) + (3))))) fun v17 =>
  ((fn_J9_floorDiv_f86c9 m v17 (1000000) u0).bind fun q18 =>
  xm_let (α := Int64) ((l14 + (v12 * q18.1))) fun v19 =>
  ((fn_J9_floorMod_f86c9 m v17 (1000000) q18.2).bind fun q20 =>
  xm_let (α := Int64) ((l16 + (v12 * q20.1))) fun v21 =>
  xm_let (α := Int32) (l18 + (1)) fun v22 =>
  lp_X12_offer_54 m c1 c3 c5 c9 c10 c11 c12 n v19 v21 v22 q20.2))))))
def fn_X12_offer (m : Nat) (x0 : Int64) (x1 : Int64) (x2 : Int64) (x3 : Int64) (x4 : Int32) (x5 : Int32) (x6 : Int32) (u0 : xm_Y) : Option (Unit × xm_Y) :=
  ((if (0) ≤ x3 then (
  some ((1))) else (
  some ((-1))) : Option (Int64)).bind fun q1 =>
  if (x0 * q1) < (0) then (
  some ((), u0)) else (
  if (x1 * q1) < (0) then (
  some ((), u0)) else (
  if (0) ≤ (x2 * q1) then (
  ((lp_X12_offer_54 m x0 x1 x2 x4 x5 x6 q1 m (0) (0) (0) u0).bind fun q23 =>
  ((fn_J9_floorDiv_f86c9 m q23.2.1 (1000000) q23.2.2.2).bind fun q24 =>
  xm_let (α := Int64) ((q23.1 + q24.1)) fun v25 =>
  ((fn_J9_floorMod_f86c9 m q23.2.1 (1000000) q24.2).bind fun q26 =>
  ((if (q26.2.1 150 16) = 0 then (
  xm_let (w_I q26.2 150 16 (1)) fun u30 =>
  xm_let (w_J u30 150 13 v25) fun u31 =>
  xm_let (w_J u31 150 14 q26.1) fun u32 =>
  xm_let (w_J u32 150 15 (q1 * x3)) fun u33 =>
  some (u33)) else (
  ((fn_X12_isAbove m v25 q26.1 (q1 * x3) (q26.2.2 150 13) (q26.2.2 150 14) (q26.2.2 150 15) q26.2).bind fun q34 =>
  if q34.1 = 0 then (
  some (q34.2)) else (
  xm_let (w_I q34.2 150 16 (1)) fun u36 =>
  xm_let (w_J u36 150 13 v25) fun u37 =>
  xm_let (w_J u37 150 14 q26.1) fun u38 =>
  xm_let (w_J u38 150 15 (q1 * x3)) fun u39 =>
  some (u39)))) : Option (xm_Y)).bind fun q27 =>
  some ((), q27)))))) else (
  some ((), u0)))))
theorem el_X12_offer_54 (m : Nat) (c1 : Int64) (c3 : Int64) (c5 : Int64) (c9 : Int32) (c10 : Int32) (c11 : Int32) (c12 : Int64) (c7 : Int64) (K : Int64 × Int64 × Int32 × xm_Y → Option (Unit × xm_Y)) (kE : ∀ q : Int64 × Int64 × Int32 × xm_Y, xs_ (fun _ : Unit => none) sg_0 mt_X12_offer 158 [some (.ref 150), none, none, none, none, none, none, some (.long c7), none, none, none, none, some (.long c12), none, some (.long q.1), none, some (.long q.2.1), none, none, none, none, none, none] [] q.2.2.2 0 0 (K q)) : ∀ (n : Nat) (l14 : Int64) (l16 : Int64) (l18 : Int32) (u0 : xm_Y), xs_ (fun _ : Unit => none) sg_0 mt_X12_offer 54 [some (.ref 150), some (.long c1), none, some (.long c3), none, some (.long c5), none, some (.long c7), none, some (.int c9), some (.int c10), some (.int c11), some (.long c12), none, some (.long l14), none, some (.long l16), none, some (.int l18), none, none, none, none] [] u0 0 0 ((lp_X12_offer_54 m c1 c3 c5 c9 c10 c11 c12 n l14 l16 l18 u0).bind K) := by
  intro n
  induction n with
  | zero =>
    intro l14 l16 l18 u0
    exact xs_none
  | succ n ih =>
    intro l14 l16 l18 u0
    rw [lp_X12_offer_54]
    refine xs_iload (n := 56) dX12_offer_54 rfl rfl ?_
    refine xs_iconst (n := 57) (v := (3)) dX12_offer_56 rfl rfl ?_
    refine xs_icmp_ge (n := 60) (tgt := 158) dX12_offer_57 rfl rfl (fun hc7 => ?_) (fun hc7 => ?_)
    · exact xs_gf (kE (l14, l16, l18, u0)) (And.intro rfl (And.intro rfl (And.intro rfl (And.intro rfl (And.intro rfl trivial)))))
    · refine xs_lload (n := 62) dX12_offer_60 rfl rfl ?_
      refine xs_iload (n := 64) dX12_offer_62 rfl rfl ?_
      refine xs_join 83 (fun q8 => [some (.ref 150), some (.long c1), none, some (.long c3), none, some (.long c5), none, some (.long c7), none, some (.int c9), some (.int c10), some (.int c11), some (.long c12), none, some (.long l14), none, some (.long l16), none, some (.int l18), none, none, none, none]) (fun q8 => [.long q8, .long c12]) (fun q8 => u0) (fun q8 => ?_) (fun kj9 => ?_)
      · refine xs_lmul (n := 84) dX12_offer_83 rfl ?_
        refine xs_letl (fun v12 => ?_)
        refine xs_lstore (n := 86) (lv' := [some (.ref 150), some (.long c1), none, some (.long c3), none, some (.long c5), none, some (.long c7), none, some (.int c9), some (.int c10), some (.int c11), some (.long c12), none, some (.long l14), none, some (.long l16), none, some (.int l18), some (.long v12), none, none, none]) dX12_offer_84 rfl (Nat.le_of_ble_eq_true rfl) rfl ?_
        refine xs_aload_n (n := 87) dX12_offer_86 rfl rfl ?_
        refine ys_getr (n := 90) dX12_offer_87 rfl fl_X12_40 sh_150 rfl ?_
        refine xs_iconst (n := 91) (v := (4)) dX12_offer_90 rfl rfl ?_
        refine xs_iload (n := 93) dX12_offer_91 rfl rfl ?_
        refine xs_join 114 (fun q13 => [some (.ref 150), some (.long c1), none, some (.long c3), none, some (.long c5), none, some (.long c7), none, some (.int c9), some (.int c10), some (.int c11), some (.long c12), none, some (.long l14), none, some (.long l16), none, some (.int l18), some (.long v12), none, none, none]) (fun q13 => [.int q13, .int (4), .ref 159]) (fun q13 => u0) (fun q13 => ?_) (fun kj14 => ?_)
        · refine xs_imul (n := 115) dX12_offer_114 rfl ?_
          refine xs_iconst (n := 116) (v := (3)) dX12_offer_115 rfl rfl ?_
          refine xs_iadd (n := 117) dX12_offer_116 rfl ?_
          refine ys_laload (n := 118) dX12_offer_117 rfl sh_159 ?_
          refine xs_letl (fun v17 => ?_)
          refine xs_lstore (n := 120) (lv' := [some (.ref 150), some (.long c1), none, some (.long c3), none, some (.long c5), none, some (.long c7), none, some (.int c9), some (.int c10), some (.int c11), some (.long c12), none, some (.long l14), none, some (.long l16), none, some (.int l18), some (.long v12), none, some (.long v17), none]) dX12_offer_118 rfl (Nat.le_of_ble_eq_true rfl) rfl ?_
          refine xs_lload (n := 122) dX12_offer_120 rfl rfl ?_
          refine xs_lload (n := 124) dX12_offer_122 rfl rfl ?_
          refine xs_lload (n := 126) dX12_offer_124 rfl rfl ?_
          refine xs_ldc2 (n := 129) (v := (1000000)) dX12_offer_126 rfl tw_1179 ?_
          refine ys_callsl (n := 132) (N := mt_J9_floorDiv_f86c9) dX12_offer_129 rfl ok_J9_floorDiv_f86c9 tw_1180 st_J9_floorDiv_f86c9 ⟨Nat.le_of_ble_eq_true rfl, Nat.le_of_ble_eq_true rfl⟩ [.long v17, .long (1000000)] [.long v12, .long l14] rfl rfl (Nat.le_of_ble_eq_true rfl) rfl (Nat.le_of_ble_eq_true rfl) (en_J9_floorDiv_f86c9 m v17 (1000000) u0) (fun q18 => ?_)
          refine xs_lmul (n := 133) dX12_offer_132 rfl ?_
          refine xs_ladd (n := 134) dX12_offer_133 rfl ?_
          refine xs_letl (fun v19 => ?_)
          refine xs_lstore (n := 136) (lv' := [some (.ref 150), some (.long c1), none, some (.long c3), none, some (.long c5), none, some (.long c7), none, some (.int c9), some (.int c10), some (.int c11), some (.long c12), none, some (.long v19), none, some (.long l16), none, some (.int l18), some (.long v12), none, some (.long v17), none]) dX12_offer_134 rfl (Nat.le_of_ble_eq_true rfl) rfl ?_
          refine xs_lload (n := 138) dX12_offer_136 rfl rfl ?_
          refine xs_lload (n := 140) dX12_offer_138 rfl rfl ?_
          refine xs_lload (n := 142) dX12_offer_140 rfl rfl ?_
          refine xs_ldc2 (n := 145) (v := (1000000)) dX12_offer_142 rfl tw_1179 ?_
          refine ys_callsl (n := 148) (N := mt_J9_floorMod_f86c9) dX12_offer_145 rfl ok_J9_floorMod_f86c9 tw_1181 st_J9_floorMod_f86c9 ⟨Nat.le_of_ble_eq_true rfl, Nat.le_of_ble_eq_true rfl⟩ [.long v17, .long (1000000)] [.long v12, .long l16] rfl rfl (Nat.le_of_ble_eq_true rfl) rfl (Nat.le_of_ble_eq_true rfl) (en_J9_floorMod_f86c9 m v17 (1000000) q18.2) (fun q20 => ?_)
          refine xs_lmul (n := 149) dX12_offer_148 rfl ?_
          refine xs_ladd (n := 150) dX12_offer_149 rfl ?_
          refine xs_letl (fun v21 => ?_)
          refine xs_lstore (n := 152) (lv' := [some (.ref 150), some (.long c1), none, some (.long c3), none, some (.long c5), none, some (.long c7), none, some (.int c9), some (.int c10), some (.int c11), some (.long c12), none, some (.long v19), none, some (.long v21), none, some (.int l18), some (.long v12), none, some (.long v17), none]) dX12_offer_150 rfl (Nat.le_of_ble_eq_true rfl) rfl ?_
          refine xs_iincl (n := 155) (dv := (1)) (fun v22 => [some (.ref 150), some (.long c1), none, some (.long c3), none, some (.long c5), none, some (.long c7), none, some (.int c9), some (.int c10), some (.int c11), some (.long c12), none, some (.long v19), none, some (.long v21), none, some (.int v22), some (.long v12), none, some (.long v17), none]) dX12_offer_152 rfl rfl rfl (Nat.le_of_ble_eq_true rfl) (fun _ => rfl) (fun v22 => ?_)
          refine xs_goto (n := 54) dX12_offer_155 rfl ?_
          exact xs_gf (ih v19 v21 v22 q20.2) (And.intro rfl (And.intro rfl (And.intro rfl (And.intro rfl (And.intro rfl (And.intro rfl (And.intro rfl (And.intro rfl (And.intro rfl (And.intro rfl (And.intro rfl (And.intro rfl trivial))))))))))))
        · refine xs_if_ne (n := 96) (tgt := 101) dX12_offer_93 rfl rfl (fun hc15 => ?_) (fun hc15 => ?_)
          · refine xs_iload (n := 98) dX12_offer_96 rfl rfl ?_
            refine xs_goto (n := 114) dX12_offer_98 rfl ?_
            exact xs_gf (kj14 (c9)) (And.intro rfl (And.intro rfl (And.intro rfl (And.intro rfl (And.intro rfl (And.intro rfl (And.intro rfl (And.intro rfl (And.intro rfl (And.intro rfl (And.intro rfl (And.intro rfl (And.intro rfl trivial)))))))))))))
          · refine xs_iload (n := 103) dX12_offer_101 rfl rfl ?_
            refine xs_iconst (n := 104) (v := (1)) dX12_offer_103 rfl rfl ?_
            refine xs_icmp_ne (n := 107) (tgt := 112) dX12_offer_104 rfl rfl (fun hc16 => ?_) (fun hc16 => ?_)
            · refine xs_iload (n := 109) dX12_offer_107 rfl rfl ?_
              refine xs_goto (n := 114) dX12_offer_109 rfl ?_
              exact xs_gf (kj14 (c10)) (And.intro rfl (And.intro rfl (And.intro rfl (And.intro rfl (And.intro rfl (And.intro rfl (And.intro rfl (And.intro rfl (And.intro rfl (And.intro rfl (And.intro rfl (And.intro rfl (And.intro rfl trivial)))))))))))))
            · refine xs_iload (n := 114) dX12_offer_112 rfl rfl ?_
              exact xs_gf (kj14 (c11)) (And.intro rfl (And.intro rfl (And.intro rfl (And.intro rfl (And.intro rfl (And.intro rfl (And.intro rfl (And.intro rfl (And.intro rfl (And.intro rfl (And.intro rfl (And.intro rfl (And.intro rfl trivial)))))))))))))
      · refine xs_if_ne (n := 67) (tgt := 71) dX12_offer_64 rfl rfl (fun hc10 => ?_) (fun hc10 => ?_)
        · refine xs_lload_n (n := 68) dX12_offer_67 rfl rfl ?_
          refine xs_goto (n := 83) dX12_offer_68 rfl ?_
          exact xs_gf (kj9 (c1)) (And.intro rfl (And.intro rfl (And.intro rfl (And.intro rfl (And.intro rfl (And.intro rfl (And.intro rfl (And.intro rfl (And.intro rfl (And.intro rfl (And.intro rfl (And.intro rfl trivial))))))))))))
        · refine xs_iload (n := 73) dX12_offer_71 rfl rfl ?_
          refine xs_iconst (n := 74) (v := (1)) dX12_offer_73 rfl rfl ?_
          refine xs_icmp_ne (n := 77) (tgt := 81) dX12_offer_74 rfl rfl (fun hc11 => ?_) (fun hc11 => ?_)
          · refine xs_lload_n (n := 78) dX12_offer_77 rfl rfl ?_
            refine xs_goto (n := 83) dX12_offer_78 rfl ?_
            exact xs_gf (kj9 (c3)) (And.intro rfl (And.intro rfl (And.intro rfl (And.intro rfl (And.intro rfl (And.intro rfl (And.intro rfl (And.intro rfl (And.intro rfl (And.intro rfl (And.intro rfl (And.intro rfl trivial))))))))))))
          · refine xs_lload (n := 83) dX12_offer_81 rfl rfl ?_
            exact xs_gf (kj9 (c5)) (And.intro rfl (And.intro rfl (And.intro rfl (And.intro rfl (And.intro rfl (And.intro rfl (And.intro rfl (And.intro rfl (And.intro rfl (And.intro rfl (And.intro rfl (And.intro rfl trivial))))))))))))
theorem en_X12_offer (m : Nat) (x0 : Int64) (x1 : Int64) (x2 : Int64) (x3 : Int64) (x4 : Int32) (x5 : Int32) (x6 : Int32) (u0 : xm_Y) : xs_ (fun _ : Unit => none) sg_0 mt_X12_offer 0 [some (.ref 150), some (.long x0), none, some (.long x1), none, some (.long x2), none, some (.long x3), none, some (.int x4), some (.int x5), some (.int x6), none, none, none, none, none, none, none, none, none, none, none] [] u0 0 0 (fn_X12_offer m x0 x1 x2 x3 x4 x5 x6 u0) := by
  refine xs_top ?_
  rw [fn_X12_offer]
  refine xs_lload (n := 2) dX12_offer_0 rfl rfl ?_
  refine xs_lconst (n := 3) (v := (0)) dX12_offer_2 rfl rfl ?_
  refine xs_join 14 (fun q1 => [some (.ref 150), some (.long x0), none, some (.long x1), none, some (.long x2), none, some (.long x3), none, some (.int x4), some (.int x5), some (.int x6), none, none, none, none, none, none, none, none, none, none, none]) (fun q1 => [.long q1]) (fun q1 => u0) (fun q1 => ?_) (fun kj2 => ?_)
  · refine xs_lstore (n := 16) (lv' := [some (.ref 150), some (.long x0), none, some (.long x1), none, some (.long x2), none, some (.long x3), none, some (.int x4), some (.int x5), some (.int x6), some (.long q1), none, none, none, none, none, none, none, none, none, none]) dX12_offer_14 rfl (Nat.le_of_ble_eq_true rfl) rfl ?_
    refine xs_lload_n (n := 17) dX12_offer_16 rfl rfl ?_
    refine xs_lload (n := 19) dX12_offer_17 rfl rfl ?_
    refine xs_lmul (n := 20) dX12_offer_19 rfl ?_
    refine xs_lconst (n := 21) (v := (0)) dX12_offer_20 rfl rfl ?_
    refine xs_lif_lt (n := 25) (pc1 := 22) (tgt := 44) dX12_offer_21 rfl dX12_offer_22 rfl rfl (fun hc4 => ?_) (fun hc4 => ?_)
    · exact xs_vret dX12_offer_44 rfl rfl
    · refine xs_lload_n (n := 26) dX12_offer_25 rfl rfl ?_
      refine xs_lload (n := 28) dX12_offer_26 rfl rfl ?_
      refine xs_lmul (n := 29) dX12_offer_28 rfl ?_
      refine xs_lconst (n := 30) (v := (0)) dX12_offer_29 rfl rfl ?_
      refine xs_lif_lt (n := 34) (pc1 := 31) (tgt := 44) dX12_offer_30 rfl dX12_offer_31 rfl rfl (fun hc5 => ?_) (fun hc5 => ?_)
      · exact xs_vret dX12_offer_44 rfl rfl
      · refine xs_lload (n := 36) dX12_offer_34 rfl rfl ?_
        refine xs_lload (n := 38) dX12_offer_36 rfl rfl ?_
        refine xs_lmul (n := 39) dX12_offer_38 rfl ?_
        refine xs_lconst (n := 40) (v := (0)) dX12_offer_39 rfl rfl ?_
        refine xs_lif_ge (n := 44) (pc1 := 41) (tgt := 45) dX12_offer_40 rfl dX12_offer_41 rfl rfl (fun hc6 => ?_) (fun hc6 => ?_)
        · refine xs_lconst (n := 46) (v := (0)) dX12_offer_45 rfl rfl ?_
          refine xs_lstore (n := 48) (lv' := [some (.ref 150), some (.long x0), none, some (.long x1), none, some (.long x2), none, some (.long x3), none, some (.int x4), some (.int x5), some (.int x6), some (.long q1), none, some (.long (0)), none, none, none, none, none, none, none, none]) dX12_offer_46 rfl (Nat.le_of_ble_eq_true rfl) rfl ?_
          refine xs_lconst (n := 49) (v := (0)) dX12_offer_48 rfl rfl ?_
          refine xs_lstore (n := 51) (lv' := [some (.ref 150), some (.long x0), none, some (.long x1), none, some (.long x2), none, some (.long x3), none, some (.int x4), some (.int x5), some (.int x6), some (.long q1), none, some (.long (0)), none, some (.long (0)), none, none, none, none, none, none]) dX12_offer_49 rfl (Nat.le_of_ble_eq_true rfl) rfl ?_
          refine xs_iconst (n := 52) (v := (0)) dX12_offer_51 rfl rfl ?_
          refine xs_istore (n := 54) (lv' := [some (.ref 150), some (.long x0), none, some (.long x1), none, some (.long x2), none, some (.long x3), none, some (.int x4), some (.int x5), some (.int x6), some (.long q1), none, some (.long (0)), none, some (.long (0)), none, some (.int (0)), none, none, none, none]) dX12_offer_52 rfl (Nat.le_of_ble_eq_true rfl) rfl ?_
          refine xs_reg ?_
          refine xs_fg (lv' := [some (.ref 150), some (.long x0), none, some (.long x1), none, some (.long x2), none, some (.long x3), none, some (.int x4), some (.int x5), some (.int x6), some (.long q1), none, some (.long (0)), none, some (.long (0)), none, some (.int (0)), none, none, none, none]) (And.intro rfl (And.intro rfl (And.intro rfl (And.intro rfl (And.intro rfl (And.intro rfl (And.intro rfl (And.intro rfl (And.intro rfl (And.intro rfl (And.intro rfl (And.intro rfl trivial)))))))))))) ?_
          refine el_X12_offer_54 m x0 x1 x2 x4 x5 x6 q1 x3 _ (fun q23 => ?_) m (0) (0) (0) u0
          refine xs_lload (n := 160) dX12_offer_158 rfl rfl ?_
          refine xs_lload (n := 162) dX12_offer_160 rfl rfl ?_
          refine xs_ldc2 (n := 165) (v := (1000000)) dX12_offer_162 rfl tw_1179 ?_
          refine ys_callsl (n := 168) (N := mt_J9_floorDiv_f86c9) dX12_offer_165 rfl ok_J9_floorDiv_f86c9 tw_1180 st_J9_floorDiv_f86c9 ⟨Nat.le_of_ble_eq_true rfl, Nat.le_of_ble_eq_true rfl⟩ [.long q23.2.1, .long (1000000)] [.long q23.1] rfl rfl (Nat.le_of_ble_eq_true rfl) rfl (Nat.le_of_ble_eq_true rfl) (en_J9_floorDiv_f86c9 m q23.2.1 (1000000) q23.2.2.2) (fun q24 => ?_)
          refine xs_ladd (n := 169) dX12_offer_168 rfl ?_
          refine xs_letl (fun v25 => ?_)
          refine xs_lstore (n := 171) (lv' := [some (.ref 150), none, none, none, none, none, none, some (.long x3), none, none, none, none, some (.long q1), none, some (.long v25), none, some (.long q23.2.1), none, none, none, none, none, none]) dX12_offer_169 rfl (Nat.le_of_ble_eq_true rfl) rfl ?_
          refine xs_lload (n := 173) dX12_offer_171 rfl rfl ?_
          refine xs_ldc2 (n := 176) (v := (1000000)) dX12_offer_173 rfl tw_1179 ?_
          refine ys_callsl (n := 179) (N := mt_J9_floorMod_f86c9) dX12_offer_176 rfl ok_J9_floorMod_f86c9 tw_1181 st_J9_floorMod_f86c9 ⟨Nat.le_of_ble_eq_true rfl, Nat.le_of_ble_eq_true rfl⟩ [.long q23.2.1, .long (1000000)] [] rfl rfl (Nat.le_of_ble_eq_true rfl) rfl (Nat.le_of_ble_eq_true rfl) (en_J9_floorMod_f86c9 m q23.2.1 (1000000) q24.2) (fun q26 => ?_)
          refine xs_lstore (n := 181) (lv' := [some (.ref 150), none, none, none, none, none, none, some (.long x3), none, none, none, none, some (.long q1), none, some (.long v25), none, some (.long q26.1), none, none, none, none, none, none]) dX12_offer_179 rfl (Nat.le_of_ble_eq_true rfl) rfl ?_
          refine xs_aload_n (n := 182) dX12_offer_181 rfl rfl ?_
          refine ys_geti (n := 185) dX12_offer_182 rfl fl_X12_240 (Or.inr rfl) sh_150 ?_
          refine xs_join 241 (fun q27 => [none, none, none, none, none, none, none, none, none, none, none, none, none, none, none, none, none, none, none, none, none, none, none]) (fun q27 => []) (fun q27 => q27) (fun q27 => ?_) (fun kj28 => ?_)
          · exact xs_vret dX12_offer_241 rfl rfl
          · refine xs_if_eq (n := 188) (tgt := 215) dX12_offer_185 rfl rfl (fun hc29 => ?_) (fun hc29 => ?_)
            · refine xs_aload_n (n := 216) dX12_offer_215 rfl rfl ?_
              refine xs_iconst (n := 217) (v := (1)) dX12_offer_216 rfl rfl ?_
              refine ys_putzc (n := 220) dX12_offer_217 rfl fl_X12_240 rfl sh_150 (Or.inr rfl) (fun u30 => ?_)
              refine xs_aload_n (n := 221) dX12_offer_220 rfl rfl ?_
              refine xs_lload (n := 223) dX12_offer_221 rfl rfl ?_
              refine ys_putl (n := 226) dX12_offer_223 rfl fl_X12_243 rfl sh_150 (fun u31 => ?_)
              refine xs_aload_n (n := 227) dX12_offer_226 rfl rfl ?_
              refine xs_lload (n := 229) dX12_offer_227 rfl rfl ?_
              refine ys_putl (n := 232) dX12_offer_229 rfl fl_X12_247 rfl sh_150 (fun u32 => ?_)
              refine xs_aload_n (n := 233) dX12_offer_232 rfl rfl ?_
              refine xs_lload (n := 235) dX12_offer_233 rfl rfl ?_
              refine xs_lload (n := 237) dX12_offer_235 rfl rfl ?_
              refine xs_lmul (n := 238) dX12_offer_237 rfl ?_
              refine ys_putl (n := 241) dX12_offer_238 rfl fl_X12_250 rfl sh_150 (fun u33 => ?_)
              exact xs_gf (kj28 (u33)) trivial
            · refine xs_lload (n := 190) dX12_offer_188 rfl rfl ?_
              refine xs_lload (n := 192) dX12_offer_190 rfl rfl ?_
              refine xs_lload (n := 194) dX12_offer_192 rfl rfl ?_
              refine xs_lload (n := 196) dX12_offer_194 rfl rfl ?_
              refine xs_lmul (n := 197) dX12_offer_196 rfl ?_
              refine xs_aload_n (n := 198) dX12_offer_197 rfl rfl ?_
              refine ys_getl (n := 201) dX12_offer_198 rfl fl_X12_243 sh_150 ?_
              refine xs_aload_n (n := 202) dX12_offer_201 rfl rfl ?_
              refine ys_getl (n := 205) dX12_offer_202 rfl fl_X12_247 sh_150 ?_
              refine xs_aload_n (n := 206) dX12_offer_205 rfl rfl ?_
              refine ys_getl (n := 209) dX12_offer_206 rfl fl_X12_250 sh_150 ?_
              refine ys_callsi (n := 212) (N := mt_X12_isAbove) dX12_offer_209 rfl ok_X12_isAbove tw_1184 st_X12_isAbove ⟨Nat.le_of_ble_eq_true rfl, Nat.le_of_ble_eq_true rfl⟩ [.long v25, .long q26.1, .long (q1 * x3), .long (q26.2.2 150 13), .long (q26.2.2 150 14), .long (q26.2.2 150 15)] [] rfl rfl (Nat.le_of_ble_eq_true rfl) rfl (Nat.le_of_ble_eq_true rfl) (en_X12_isAbove m v25 q26.1 (q1 * x3) (q26.2.2 150 13) (q26.2.2 150 14) (q26.2.2 150 15) q26.2) (fun q34 => ?_)
              refine xs_if_eq (n := 215) (tgt := 241) dX12_offer_212 rfl rfl (fun hc35 => ?_) (fun hc35 => ?_)
              · exact xs_gf (kj28 (q34.2)) trivial
              · refine xs_aload_n (n := 216) dX12_offer_215 rfl rfl ?_
                refine xs_iconst (n := 217) (v := (1)) dX12_offer_216 rfl rfl ?_
                refine ys_putzc (n := 220) dX12_offer_217 rfl fl_X12_240 rfl sh_150 (Or.inr rfl) (fun u36 => ?_)
                refine xs_aload_n (n := 221) dX12_offer_220 rfl rfl ?_
                refine xs_lload (n := 223) dX12_offer_221 rfl rfl ?_
                refine ys_putl (n := 226) dX12_offer_223 rfl fl_X12_243 rfl sh_150 (fun u37 => ?_)
                refine xs_aload_n (n := 227) dX12_offer_226 rfl rfl ?_
                refine xs_lload (n := 229) dX12_offer_227 rfl rfl ?_
                refine ys_putl (n := 232) dX12_offer_229 rfl fl_X12_247 rfl sh_150 (fun u38 => ?_)
                refine xs_aload_n (n := 233) dX12_offer_232 rfl rfl ?_
                refine xs_lload (n := 235) dX12_offer_233 rfl rfl ?_
                refine xs_lload (n := 237) dX12_offer_235 rfl rfl ?_
                refine xs_lmul (n := 238) dX12_offer_237 rfl ?_
                refine ys_putl (n := 241) dX12_offer_238 rfl fl_X12_250 rfl sh_150 (fun u39 => ?_)
                exact xs_gf (kj28 (u39)) trivial
        · exact xs_vret dX12_offer_44 rfl rfl
  · refine xs_lif_ge (n := 7) (pc1 := 4) (tgt := 13) dX12_offer_3 rfl dX12_offer_4 rfl rfl (fun hc3 => ?_) (fun hc3 => ?_)
    · refine xs_lconst (n := 14) (v := (1)) dX12_offer_13 rfl rfl ?_
      exact xs_gf (kj2 ((1))) (And.intro rfl (And.intro rfl (And.intro rfl (And.intro rfl (And.intro rfl (And.intro rfl (And.intro rfl (And.intro rfl trivial))))))))
    · refine xs_ldc2 (n := 10) (v := (-1)) dX12_offer_7 rfl tw_1129 ?_
      refine xs_goto (n := 14) dX12_offer_10 rfl ?_
      exact xs_gf (kj2 ((-1))) (And.intro rfl (And.intro rfl (And.intro rfl (And.intro rfl (And.intro rfl (And.intro rfl (And.intro rfl (And.intro rfl trivial))))))))
def fn_X12_crossWanted (m : Nat) (x0 : Int32) (x1 : Int32) (u0 : xm_Y) : Option (Int64 × xm_Y) :=
  xm_chk (¬ (3) = 0) (
  xm_let (α := Int32) (((x1 + (1)) - (x1 + (1)) / (3) * (3))) fun v1 =>
  xm_chk (¬ (3) = 0) (
  xm_let (α := Int32) (((x1 + (2)) - (x1 + (2)) / (3) * (3))) fun v2 =>
  xm_chk (xm_in (((4) * x0) + v1) 48) (
  xm_chk (xm_in v2 3) (
  xm_chk (xm_in (((4) * x0) + v2) 48) (
  xm_chk (xm_in v1 3) (
  some ((((u0.2 159 (Int32.toNatClampNeg (((4) * x0) + v1))) * (u0.2 181 (Int32.toNatClampNeg v2))) - ((u0.2 159 (Int32.toNatClampNeg (((4) * x0) + v2))) * (u0.2 181 (Int32.toNatClampNeg v1)))), u0)))))))
theorem en_X12_crossWanted (m : Nat) (x0 : Int32) (x1 : Int32) (u0 : xm_Y) : xs_ (fun x : Int64 => some (.long x)) sg_0 mt_X12_crossWanted 0 [some (.ref 150), some (.int x0), some (.int x1), none, none] [] u0 0 0 (fn_X12_crossWanted m x0 x1 u0) := by
  refine xs_top ?_
  rw [fn_X12_crossWanted]
  refine xs_iload_n (n := 1) dX12_crossWanted_0 rfl rfl ?_
  refine xs_iconst (n := 2) (v := (1)) dX12_crossWanted_1 rfl rfl ?_
  refine xs_iadd (n := 3) dX12_crossWanted_2 rfl ?_
  refine xs_iconst (n := 4) (v := (3)) dX12_crossWanted_3 rfl rfl ?_
  refine xs_irem (n := 5) dX12_crossWanted_4 rfl (fun _ => ?_)
  refine xs_leti (fun v1 => ?_)
  refine xs_istore_n (n := 6) (lv' := [some (.ref 150), some (.int x0), some (.int x1), some (.int v1), none]) dX12_crossWanted_5 rfl (Nat.le_of_ble_eq_true rfl) rfl ?_
  refine xs_iload_n (n := 7) dX12_crossWanted_6 rfl rfl ?_
  refine xs_iconst (n := 8) (v := (2)) dX12_crossWanted_7 rfl rfl ?_
  refine xs_iadd (n := 9) dX12_crossWanted_8 rfl ?_
  refine xs_iconst (n := 10) (v := (3)) dX12_crossWanted_9 rfl rfl ?_
  refine xs_irem (n := 11) dX12_crossWanted_10 rfl (fun _ => ?_)
  refine xs_leti (fun v2 => ?_)
  refine xs_istore (n := 13) (lv' := [some (.ref 150), some (.int x0), some (.int x1), some (.int v1), some (.int v2)]) dX12_crossWanted_11 rfl (Nat.le_of_ble_eq_true rfl) rfl ?_
  refine xs_aload_n (n := 14) dX12_crossWanted_13 rfl rfl ?_
  refine ys_getr (n := 17) dX12_crossWanted_14 rfl fl_X12_40 sh_150 rfl ?_
  refine xs_iconst (n := 18) (v := (4)) dX12_crossWanted_17 rfl rfl ?_
  refine xs_iload_n (n := 19) dX12_crossWanted_18 rfl rfl ?_
  refine xs_imul (n := 20) dX12_crossWanted_19 rfl ?_
  refine xs_iload_n (n := 21) dX12_crossWanted_20 rfl rfl ?_
  refine xs_iadd (n := 22) dX12_crossWanted_21 rfl ?_
  refine ys_laload (n := 23) dX12_crossWanted_22 rfl sh_159 ?_
  refine xs_aload_n (n := 24) dX12_crossWanted_23 rfl rfl ?_
  refine ys_getr (n := 27) dX12_crossWanted_24 rfl fl_X12_122 sh_150 rfl ?_
  refine xs_iload (n := 29) dX12_crossWanted_27 rfl rfl ?_
  refine ys_laload (n := 30) dX12_crossWanted_29 rfl sh_181 ?_
  refine xs_lmul (n := 31) dX12_crossWanted_30 rfl ?_
  refine xs_aload_n (n := 32) dX12_crossWanted_31 rfl rfl ?_
  refine ys_getr (n := 35) dX12_crossWanted_32 rfl fl_X12_40 sh_150 rfl ?_
  refine xs_iconst (n := 36) (v := (4)) dX12_crossWanted_35 rfl rfl ?_
  refine xs_iload_n (n := 37) dX12_crossWanted_36 rfl rfl ?_
  refine xs_imul (n := 38) dX12_crossWanted_37 rfl ?_
  refine xs_iload (n := 40) dX12_crossWanted_38 rfl rfl ?_
  refine xs_iadd (n := 41) dX12_crossWanted_40 rfl ?_
  refine ys_laload (n := 42) dX12_crossWanted_41 rfl sh_159 ?_
  refine xs_aload_n (n := 43) dX12_crossWanted_42 rfl rfl ?_
  refine ys_getr (n := 46) dX12_crossWanted_43 rfl fl_X12_122 sh_150 rfl ?_
  refine xs_iload_n (n := 47) dX12_crossWanted_46 rfl rfl ?_
  refine ys_laload (n := 48) dX12_crossWanted_47 rfl sh_181 ?_
  refine xs_lmul (n := 49) dX12_crossWanted_48 rfl ?_
  refine xs_lsub (n := 50) dX12_crossWanted_49 rfl ?_
  exact xs_lret dX12_crossWanted_50 rfl rfl
def fn_X12_determinantWanted (m : Nat) (x0 : Int32) (x1 : Int32) (u0 : xm_Y) : Option (Int64 × xm_Y) :=
  xm_chk (xm_in (0) 3) (
  ((fn_X12_cross m x0 x1 (0) u0).bind fun q1 =>
  xm_chk (xm_in (1) 3) (
  ((fn_X12_cross m x0 x1 (1) q1.2).bind fun q2 =>
  xm_chk (xm_in (2) 3) (
  ((fn_X12_cross m x0 x1 (2) q2.2).bind fun q3 =>
  some (((((u0.2 181 (Int32.toNatClampNeg (0))) * q1.1) + ((q1.2.2 181 (Int32.toNatClampNeg (1))) * q2.1)) + ((q2.2.2 181 (Int32.toNatClampNeg (2))) * q3.1)), q3.2)))))))
theorem en_X12_determinantWanted (m : Nat) (x0 : Int32) (x1 : Int32) (u0 : xm_Y) : xs_ (fun x : Int64 => some (.long x)) sg_0 mt_X12_determinantWanted 0 [some (.ref 150), some (.int x0), some (.int x1)] [] u0 0 0 (fn_X12_determinantWanted m x0 x1 u0) := by
  refine xs_top ?_
  rw [fn_X12_determinantWanted]
  refine xs_aload_n (n := 1) dX12_determinantWanted_0 rfl rfl ?_
  refine ys_getr (n := 4) dX12_determinantWanted_1 rfl fl_X12_122 sh_150 rfl ?_
  refine xs_iconst (n := 5) (v := (0)) dX12_determinantWanted_4 rfl rfl ?_
  refine ys_laload (n := 6) dX12_determinantWanted_5 rfl sh_181 ?_
  refine xs_aload_n (n := 7) dX12_determinantWanted_6 rfl rfl ?_
  refine xs_iload_n (n := 8) dX12_determinantWanted_7 rfl rfl ?_
  refine xs_iload_n (n := 9) dX12_determinantWanted_8 rfl rfl ?_
  refine xs_iconst (n := 10) (v := (0)) dX12_determinantWanted_9 rfl rfl ?_
  refine ys_callvl (n := 13) (N := mt_X12_cross) dX12_determinantWanted_10 rfl ok_X12_cross tw_1142 im_X12_cross se_X12_cross ⟨Nat.le_of_ble_eq_true rfl, Nat.le_of_ble_eq_true rfl⟩ [.int x0, .int x1, .int (0)] [.long (u0.2 181 (Int32.toNatClampNeg (0)))] rfl rfl (Nat.le_of_ble_eq_true rfl) rfl (Nat.le_of_ble_eq_true rfl) (en_X12_cross m x0 x1 (0) u0) sh_150 (by decide) rfl (fun q1 => ?_)
  refine xs_lmul (n := 14) dX12_determinantWanted_13 rfl ?_
  refine xs_aload_n (n := 15) dX12_determinantWanted_14 rfl rfl ?_
  refine ys_getr (n := 18) dX12_determinantWanted_15 rfl fl_X12_122 sh_150 rfl ?_
  refine xs_iconst (n := 19) (v := (1)) dX12_determinantWanted_18 rfl rfl ?_
  refine ys_laload (n := 20) dX12_determinantWanted_19 rfl sh_181 ?_
  refine xs_aload_n (n := 21) dX12_determinantWanted_20 rfl rfl ?_
  refine xs_iload_n (n := 22) dX12_determinantWanted_21 rfl rfl ?_
  refine xs_iload_n (n := 23) dX12_determinantWanted_22 rfl rfl ?_
  refine xs_iconst (n := 24) (v := (1)) dX12_determinantWanted_23 rfl rfl ?_
  refine ys_callvl (n := 27) (N := mt_X12_cross) dX12_determinantWanted_24 rfl ok_X12_cross tw_1142 im_X12_cross se_X12_cross ⟨Nat.le_of_ble_eq_true rfl, Nat.le_of_ble_eq_true rfl⟩ [.int x0, .int x1, .int (1)] [.long (q1.2.2 181 (Int32.toNatClampNeg (1))), .long ((u0.2 181 (Int32.toNatClampNeg (0))) * q1.1)] rfl rfl (Nat.le_of_ble_eq_true rfl) rfl (Nat.le_of_ble_eq_true rfl) (en_X12_cross m x0 x1 (1) q1.2) sh_150 (by decide) rfl (fun q2 => ?_)
  refine xs_lmul (n := 28) dX12_determinantWanted_27 rfl ?_
  refine xs_ladd (n := 29) dX12_determinantWanted_28 rfl ?_
  refine xs_aload_n (n := 30) dX12_determinantWanted_29 rfl rfl ?_
  refine ys_getr (n := 33) dX12_determinantWanted_30 rfl fl_X12_122 sh_150 rfl ?_
  refine xs_iconst (n := 34) (v := (2)) dX12_determinantWanted_33 rfl rfl ?_
  refine ys_laload (n := 35) dX12_determinantWanted_34 rfl sh_181 ?_
  refine xs_aload_n (n := 36) dX12_determinantWanted_35 rfl rfl ?_
  refine xs_iload_n (n := 37) dX12_determinantWanted_36 rfl rfl ?_
  refine xs_iload_n (n := 38) dX12_determinantWanted_37 rfl rfl ?_
  refine xs_iconst (n := 39) (v := (2)) dX12_determinantWanted_38 rfl rfl ?_
  refine ys_callvl (n := 42) (N := mt_X12_cross) dX12_determinantWanted_39 rfl ok_X12_cross tw_1142 im_X12_cross se_X12_cross ⟨Nat.le_of_ble_eq_true rfl, Nat.le_of_ble_eq_true rfl⟩ [.int x0, .int x1, .int (2)] [.long (q2.2.2 181 (Int32.toNatClampNeg (2))), .long (((u0.2 181 (Int32.toNatClampNeg (0))) * q1.1) + ((q1.2.2 181 (Int32.toNatClampNeg (1))) * q2.1))] rfl rfl (Nat.le_of_ble_eq_true rfl) rfl (Nat.le_of_ble_eq_true rfl) (en_X12_cross m x0 x1 (2) q2.2) sh_150 (by decide) rfl (fun q3 => ?_)
  refine xs_lmul (n := 43) dX12_determinantWanted_42 rfl ?_
  refine xs_ladd (n := 44) dX12_determinantWanted_43 rfl ?_
  exact xs_lret dX12_determinantWanted_44 rfl rfl
def lp_X12_byOne_44 (m : Nat) (c1 : Int32) (u0 : xm_Y) : Nat → Int32 → Option (Int32)
  | 0, _ => none
  | n + 1, l2 =>
  xm_chk (xm_in (((4) * c1) + l2) 48) (
  if (u0.2 159 (Int32.toNatClampNeg (((4) * c1) + l2))) = (0) then (
  xm_let (α := Int32) (l2 + (1)) fun v10 =>
  lp_X12_byOne_44 m c1 u0 n v10) else (
  some (l2)))
def fn_X12_byOne (m : Nat) (x0 : Int32) (u0 : xm_Y) : Option (Unit × xm_Y) :=
  ((fn_X12_isZero m x0 u0).bind fun q1 =>
  if q1.1 = 0 then (
  ((fn_X12_crossWanted m x0 (0) q1.2).bind fun q3 =>
  if q3.1 = (0) then (
  ((fn_X12_crossWanted m x0 (1) q3.2).bind fun q5 =>
  if q5.1 = (0) then (
  ((fn_X12_crossWanted m x0 (2) q5.2).bind fun q7 =>
  if q7.1 = (0) then (
  ((lp_X12_byOne_44 m x0 q7.2 m (0)).bind fun q11 =>
  xm_chk (xm_in q11 3) (
  xm_chk (xm_in (((4) * x0) + q11) 48) (
  ((fn_X12_offer m (q7.2.2 181 (Int32.toNatClampNeg q11)) (0) (0) (q7.2.2 159 (Int32.toNatClampNeg (((4) * x0) + q11))) x0 x0 x0 q7.2).bind fun q12 =>
  some ((), q12.2)))))) else (
  some ((), q7.2)))) else (
  some ((), q5.2)))) else (
  some ((), q3.2)))) else (
  some ((), q1.2)))
theorem el_X12_byOne_44 (m : Nat) (c1 : Int32) (u0 : xm_Y) (K : Int32 → Option (Unit × xm_Y)) (kE : ∀ q : Int32, xs_ (fun _ : Unit => none) sg_0 mt_X12_byOne 65 [some (.ref 150), some (.int c1), some (.int q)] [] u0 0 0 (K q)) : ∀ (n : Nat) (l2 : Int32), xs_ (fun _ : Unit => none) sg_0 mt_X12_byOne 44 [some (.ref 150), some (.int c1), some (.int l2)] [] u0 0 0 ((lp_X12_byOne_44 m c1 u0 n l2).bind K) := by
  intro n
  induction n with
  | zero =>
    intro l2
    exact xs_none
  | succ n ih =>
    intro l2
    rw [lp_X12_byOne_44]
    refine xs_aload_n (n := 45) dX12_byOne_44 rfl rfl ?_
    refine ys_getr (n := 48) dX12_byOne_45 rfl fl_X12_40 sh_150 rfl ?_
    refine xs_iconst (n := 49) (v := (4)) dX12_byOne_48 rfl rfl ?_
    refine xs_iload_n (n := 50) dX12_byOne_49 rfl rfl ?_
    refine xs_imul (n := 51) dX12_byOne_50 rfl ?_
    refine xs_iload_n (n := 52) dX12_byOne_51 rfl rfl ?_
    refine xs_iadd (n := 53) dX12_byOne_52 rfl ?_
    refine ys_laload (n := 54) dX12_byOne_53 rfl sh_159 ?_
    refine xs_lconst (n := 55) (v := (0)) dX12_byOne_54 rfl rfl ?_
    refine xs_lif_ne (n := 59) (pc1 := 56) (tgt := 65) dX12_byOne_55 rfl dX12_byOne_56 rfl rfl (fun hc9 => ?_) (fun hc9 => ?_)
    · refine xs_iincl (n := 62) (dv := (1)) (fun v10 => [some (.ref 150), some (.int c1), some (.int v10)]) dX12_byOne_59 rfl rfl rfl (Nat.le_of_ble_eq_true rfl) (fun _ => rfl) (fun v10 => ?_)
      refine xs_goto (n := 44) dX12_byOne_62 rfl ?_
      exact xs_gf (ih v10) (And.intro rfl (And.intro rfl (And.intro rfl trivial)))
    · exact xs_gf (kE (l2)) (And.intro rfl (And.intro rfl (And.intro rfl trivial)))
theorem en_X12_byOne (m : Nat) (x0 : Int32) (u0 : xm_Y) : xs_ (fun _ : Unit => none) sg_0 mt_X12_byOne 0 [some (.ref 150), some (.int x0), none] [] u0 0 0 (fn_X12_byOne m x0 u0) := by
  refine xs_top ?_
  rw [fn_X12_byOne]
  refine xs_aload_n (n := 1) dX12_byOne_0 rfl rfl ?_
  refine xs_iload_n (n := 2) dX12_byOne_1 rfl rfl ?_
  refine ys_callvi (n := 5) (N := mt_X12_isZero) dX12_byOne_2 rfl ok_X12_isZero tw_1130 im_X12_isZero se_X12_isZero ⟨Nat.le_of_ble_eq_true rfl, Nat.le_of_ble_eq_true rfl⟩ [.int x0] [] rfl rfl (Nat.le_of_ble_eq_true rfl) rfl (Nat.le_of_ble_eq_true rfl) (en_X12_isZero m x0 u0) sh_150 (by decide) rfl (fun q1 => ?_)
  refine xs_if_ne (n := 8) (tgt := 41) dX12_byOne_5 rfl rfl (fun hc2 => ?_) (fun hc2 => ?_)
  · refine xs_aload_n (n := 9) dX12_byOne_8 rfl rfl ?_
    refine xs_iload_n (n := 10) dX12_byOne_9 rfl rfl ?_
    refine xs_iconst (n := 11) (v := (0)) dX12_byOne_10 rfl rfl ?_
    refine ys_callvl (n := 14) (N := mt_X12_crossWanted) dX12_byOne_11 rfl ok_X12_crossWanted tw_1171 im_X12_crossWanted se_X12_crossWanted ⟨Nat.le_of_ble_eq_true rfl, Nat.le_of_ble_eq_true rfl⟩ [.int x0, .int (0)] [] rfl rfl (Nat.le_of_ble_eq_true rfl) rfl (Nat.le_of_ble_eq_true rfl) (en_X12_crossWanted m x0 (0) q1.2) sh_150 (by decide) rfl (fun q3 => ?_)
    refine xs_lconst (n := 15) (v := (0)) dX12_byOne_14 rfl rfl ?_
    refine xs_lif_ne (n := 19) (pc1 := 16) (tgt := 41) dX12_byOne_15 rfl dX12_byOne_16 rfl rfl (fun hc4 => ?_) (fun hc4 => ?_)
    · refine xs_aload_n (n := 20) dX12_byOne_19 rfl rfl ?_
      refine xs_iload_n (n := 21) dX12_byOne_20 rfl rfl ?_
      refine xs_iconst (n := 22) (v := (1)) dX12_byOne_21 rfl rfl ?_
      refine ys_callvl (n := 25) (N := mt_X12_crossWanted) dX12_byOne_22 rfl ok_X12_crossWanted tw_1171 im_X12_crossWanted se_X12_crossWanted ⟨Nat.le_of_ble_eq_true rfl, Nat.le_of_ble_eq_true rfl⟩ [.int x0, .int (1)] [] rfl rfl (Nat.le_of_ble_eq_true rfl) rfl (Nat.le_of_ble_eq_true rfl) (en_X12_crossWanted m x0 (1) q3.2) sh_150 (by decide) rfl (fun q5 => ?_)
      refine xs_lconst (n := 26) (v := (0)) dX12_byOne_25 rfl rfl ?_
      refine xs_lif_ne (n := 30) (pc1 := 27) (tgt := 41) dX12_byOne_26 rfl dX12_byOne_27 rfl rfl (fun hc6 => ?_) (fun hc6 => ?_)
      · refine xs_aload_n (n := 31) dX12_byOne_30 rfl rfl ?_
        refine xs_iload_n (n := 32) dX12_byOne_31 rfl rfl ?_
        refine xs_iconst (n := 33) (v := (2)) dX12_byOne_32 rfl rfl ?_
        refine ys_callvl (n := 36) (N := mt_X12_crossWanted) dX12_byOne_33 rfl ok_X12_crossWanted tw_1171 im_X12_crossWanted se_X12_crossWanted ⟨Nat.le_of_ble_eq_true rfl, Nat.le_of_ble_eq_true rfl⟩ [.int x0, .int (2)] [] rfl rfl (Nat.le_of_ble_eq_true rfl) rfl (Nat.le_of_ble_eq_true rfl) (en_X12_crossWanted m x0 (2) q5.2) sh_150 (by decide) rfl (fun q7 => ?_)
        refine xs_lconst (n := 37) (v := (0)) dX12_byOne_36 rfl rfl ?_
        refine xs_lif_eq (n := 41) (pc1 := 38) (tgt := 42) dX12_byOne_37 rfl dX12_byOne_38 rfl rfl (fun hc8 => ?_) (fun hc8 => ?_)
        · refine xs_iconst (n := 43) (v := (0)) dX12_byOne_42 rfl rfl ?_
          refine xs_istore_n (n := 44) (lv' := [some (.ref 150), some (.int x0), some (.int (0))]) dX12_byOne_43 rfl (Nat.le_of_ble_eq_true rfl) rfl ?_
          refine xs_reg ?_
          refine xs_fg (lv' := [some (.ref 150), some (.int x0), some (.int (0))]) (And.intro rfl (And.intro rfl (And.intro rfl trivial))) ?_
          refine el_X12_byOne_44 m x0 q7.2 _ (fun q11 => ?_) m (0)
          refine xs_aload_n (n := 66) dX12_byOne_65 rfl rfl ?_
          refine xs_aload_n (n := 67) dX12_byOne_66 rfl rfl ?_
          refine ys_getr (n := 70) dX12_byOne_67 rfl fl_X12_122 sh_150 rfl ?_
          refine xs_iload_n (n := 71) dX12_byOne_70 rfl rfl ?_
          refine ys_laload (n := 72) dX12_byOne_71 rfl sh_181 ?_
          refine xs_lconst (n := 73) (v := (0)) dX12_byOne_72 rfl rfl ?_
          refine xs_lconst (n := 74) (v := (0)) dX12_byOne_73 rfl rfl ?_
          refine xs_aload_n (n := 75) dX12_byOne_74 rfl rfl ?_
          refine ys_getr (n := 78) dX12_byOne_75 rfl fl_X12_40 sh_150 rfl ?_
          refine xs_iconst (n := 79) (v := (4)) dX12_byOne_78 rfl rfl ?_
          refine xs_iload_n (n := 80) dX12_byOne_79 rfl rfl ?_
          refine xs_imul (n := 81) dX12_byOne_80 rfl ?_
          refine xs_iload_n (n := 82) dX12_byOne_81 rfl rfl ?_
          refine xs_iadd (n := 83) dX12_byOne_82 rfl ?_
          refine ys_laload (n := 84) dX12_byOne_83 rfl sh_159 ?_
          refine xs_iload_n (n := 85) dX12_byOne_84 rfl rfl ?_
          refine xs_iload_n (n := 86) dX12_byOne_85 rfl rfl ?_
          refine xs_iload_n (n := 87) dX12_byOne_86 rfl rfl ?_
          refine ys_callvv (n := 90) (N := mt_X12_offer) dX12_byOne_87 rfl ok_X12_offer tw_1175 im_X12_offer se_X12_offer ⟨Nat.le_of_ble_eq_true rfl, Nat.le_of_ble_eq_true rfl⟩ [.long (q7.2.2 181 (Int32.toNatClampNeg q11)), .long (0), .long (0), .long (q7.2.2 159 (Int32.toNatClampNeg (((4) * x0) + q11))), .int x0, .int x0, .int x0] [] rfl rfl (Nat.le_of_ble_eq_true rfl) rfl (Nat.le_of_ble_eq_true rfl) (en_X12_offer m (q7.2.2 181 (Int32.toNatClampNeg q11)) (0) (0) (q7.2.2 159 (Int32.toNatClampNeg (((4) * x0) + q11))) x0 x0 x0 q7.2) sh_150 (by decide) rfl (fun q12 => ?_)
          exact xs_vret dX12_byOne_90 rfl rfl
        · exact xs_vret dX12_byOne_41 rfl rfl
      · exact xs_vret dX12_byOne_41 rfl rfl
    · exact xs_vret dX12_byOne_41 rfl rfl
  · exact xs_vret dX12_byOne_41 rfl rfl
def lp_X12_byTwo_14 (m : Nat) (c1 : Int32) (c2 : Int32) : Nat → Int32 → xm_Y → Option ((Unit × xm_Y) ⊕ (Int32 × xm_Y))
  | 0, _, _ => none
  | n + 1, l3, u0 =>
  if (3) ≤ l3 then (
  some (.inr (l3, u0))) else (
  ((fn_X12_cross m c1 c2 l3 u0).bind fun q4 =>
  if q4.1 = (0) then (
  xm_let (α := Int32) (l3 + (1)) fun v6 =>
  lp_X12_byTwo_14 m c1 c2 n v6 q4.2) else (
  ((fn_X12_crossWanted m c2 l3 q4.2).bind fun q7 =>
  ((fn_X12_crossWanted m c1 l3 q7.2).bind fun q8 =>
  ((fn_X12_offer m (-q7.1) q8.1 (0) q4.1 c1 c2 c1 q8.2).bind fun q9 =>
  some (.inl ((), q9.2))))))))
def fn_X12_byTwo (m : Nat) (x0 : Int32) (x1 : Int32) (u0 : xm_Y) : Option (Unit × xm_Y) :=
  ((fn_X12_determinantWanted m x0 x1 u0).bind fun q1 =>
  if q1.1 = (0) then (
  ((lp_X12_byTwo_14 m x0 x1 m (0) q1.2).bind (Sum.elim (fun r => some r) (fun q10 =>
  some ((), q10.2))))) else (
  some ((), q1.2)))
theorem el_X12_byTwo_14 (m : Nat) (c1 : Int32) (c2 : Int32) (K : (Unit × xm_Y) ⊕ (Int32 × xm_Y) → Option (Unit × xm_Y)) (hK : ∀ r, K (.inl r) = some r) (kE : ∀ q : Int32 × xm_Y, xs_ (fun _ : Unit => none) sg_0 mt_X12_byTwo 65 [none, none, none, none, none, none] [] q.2 0 0 (K (.inr q))) : ∀ (n : Nat) (l3 : Int32) (u0 : xm_Y), xs_ (fun _ : Unit => none) sg_0 mt_X12_byTwo 14 [some (.ref 150), some (.int c1), some (.int c2), some (.int l3), none, none] [] u0 0 0 ((lp_X12_byTwo_14 m c1 c2 n l3 u0).bind K) := by
  intro n
  induction n with
  | zero =>
    intro l3 u0
    exact xs_none
  | succ n ih =>
    intro l3 u0
    rw [lp_X12_byTwo_14]
    refine xs_iload_n (n := 15) dX12_byTwo_14 rfl rfl ?_
    refine xs_iconst (n := 16) (v := (3)) dX12_byTwo_15 rfl rfl ?_
    refine xs_icmp_ge (n := 19) (tgt := 65) dX12_byTwo_16 rfl rfl (fun hc3 => ?_) (fun hc3 => ?_)
    · exact xs_gf (kE (l3, u0)) trivial
    · refine xs_aload_n (n := 20) dX12_byTwo_19 rfl rfl ?_
      refine xs_iload_n (n := 21) dX12_byTwo_20 rfl rfl ?_
      refine xs_iload_n (n := 22) dX12_byTwo_21 rfl rfl ?_
      refine xs_iload_n (n := 23) dX12_byTwo_22 rfl rfl ?_
      refine ys_callvl (n := 26) (N := mt_X12_cross) dX12_byTwo_23 rfl ok_X12_cross tw_1142 im_X12_cross se_X12_cross ⟨Nat.le_of_ble_eq_true rfl, Nat.le_of_ble_eq_true rfl⟩ [.int c1, .int c2, .int l3] [] rfl rfl (Nat.le_of_ble_eq_true rfl) rfl (Nat.le_of_ble_eq_true rfl) (en_X12_cross m c1 c2 l3 u0) sh_150 (by decide) rfl (fun q4 => ?_)
      refine xs_lstore (n := 28) (lv' := [some (.ref 150), some (.int c1), some (.int c2), some (.int l3), some (.long q4.1), none]) dX12_byTwo_26 rfl (Nat.le_of_ble_eq_true rfl) rfl ?_
      refine xs_lload (n := 30) dX12_byTwo_28 rfl rfl ?_
      refine xs_lconst (n := 31) (v := (0)) dX12_byTwo_30 rfl rfl ?_
      refine xs_lif_eq (n := 35) (pc1 := 32) (tgt := 59) dX12_byTwo_31 rfl dX12_byTwo_32 rfl rfl (fun hc5 => ?_) (fun hc5 => ?_)
      · refine xs_iincl (n := 62) (dv := (1)) (fun v6 => [some (.ref 150), some (.int c1), some (.int c2), some (.int v6), some (.long q4.1), none]) dX12_byTwo_59 rfl rfl rfl (Nat.le_of_ble_eq_true rfl) (fun _ => rfl) (fun v6 => ?_)
        refine xs_goto (n := 14) dX12_byTwo_62 rfl ?_
        exact xs_gf (ih v6 q4.2) (And.intro rfl (And.intro rfl (And.intro rfl (And.intro rfl trivial))))
      · refine xs_aload_n (n := 36) dX12_byTwo_35 rfl rfl ?_
        refine xs_aload_n (n := 37) dX12_byTwo_36 rfl rfl ?_
        refine xs_iload_n (n := 38) dX12_byTwo_37 rfl rfl ?_
        refine xs_iload_n (n := 39) dX12_byTwo_38 rfl rfl ?_
        refine ys_callvl (n := 42) (N := mt_X12_crossWanted) dX12_byTwo_39 rfl ok_X12_crossWanted tw_1171 im_X12_crossWanted se_X12_crossWanted ⟨Nat.le_of_ble_eq_true rfl, Nat.le_of_ble_eq_true rfl⟩ [.int c2, .int l3] [.ref 150] rfl rfl (Nat.le_of_ble_eq_true rfl) rfl (Nat.le_of_ble_eq_true rfl) (en_X12_crossWanted m c2 l3 q4.2) sh_150 (by decide) rfl (fun q7 => ?_)
        refine xs_lneg (n := 43) dX12_byTwo_42 rfl ?_
        refine xs_aload_n (n := 44) dX12_byTwo_43 rfl rfl ?_
        refine xs_iload_n (n := 45) dX12_byTwo_44 rfl rfl ?_
        refine xs_iload_n (n := 46) dX12_byTwo_45 rfl rfl ?_
        refine ys_callvl (n := 49) (N := mt_X12_crossWanted) dX12_byTwo_46 rfl ok_X12_crossWanted tw_1171 im_X12_crossWanted se_X12_crossWanted ⟨Nat.le_of_ble_eq_true rfl, Nat.le_of_ble_eq_true rfl⟩ [.int c1, .int l3] [.long (-q7.1), .ref 150] rfl rfl (Nat.le_of_ble_eq_true rfl) rfl (Nat.le_of_ble_eq_true rfl) (en_X12_crossWanted m c1 l3 q7.2) sh_150 (by decide) rfl (fun q8 => ?_)
        refine xs_lconst (n := 50) (v := (0)) dX12_byTwo_49 rfl rfl ?_
        refine xs_lload (n := 52) dX12_byTwo_50 rfl rfl ?_
        refine xs_iload_n (n := 53) dX12_byTwo_52 rfl rfl ?_
        refine xs_iload_n (n := 54) dX12_byTwo_53 rfl rfl ?_
        refine xs_iload_n (n := 55) dX12_byTwo_54 rfl rfl ?_
        refine ys_callvv (n := 58) (N := mt_X12_offer) dX12_byTwo_55 rfl ok_X12_offer tw_1175 im_X12_offer se_X12_offer ⟨Nat.le_of_ble_eq_true rfl, Nat.le_of_ble_eq_true rfl⟩ [.long (-q7.1), .long q8.1, .long (0), .long q4.1, .int c1, .int c2, .int c1] [] rfl rfl (Nat.le_of_ble_eq_true rfl) rfl (Nat.le_of_ble_eq_true rfl) (en_X12_offer m (-q7.1) q8.1 (0) q4.1 c1 c2 c1 q8.2) sh_150 (by decide) rfl (fun q9 => ?_)
        exact xs_vret dX12_byTwo_58 rfl (hK _)
theorem en_X12_byTwo (m : Nat) (x0 : Int32) (x1 : Int32) (u0 : xm_Y) : xs_ (fun _ : Unit => none) sg_0 mt_X12_byTwo 0 [some (.ref 150), some (.int x0), some (.int x1), none, none, none] [] u0 0 0 (fn_X12_byTwo m x0 x1 u0) := by
  refine xs_top ?_
  rw [fn_X12_byTwo]
  refine xs_aload_n (n := 1) dX12_byTwo_0 rfl rfl ?_
  refine xs_iload_n (n := 2) dX12_byTwo_1 rfl rfl ?_
  refine xs_iload_n (n := 3) dX12_byTwo_2 rfl rfl ?_
  refine ys_callvl (n := 6) (N := mt_X12_determinantWanted) dX12_byTwo_3 rfl ok_X12_determinantWanted tw_1191 im_X12_determinantWanted se_X12_determinantWanted ⟨Nat.le_of_ble_eq_true rfl, Nat.le_of_ble_eq_true rfl⟩ [.int x0, .int x1] [] rfl rfl (Nat.le_of_ble_eq_true rfl) rfl (Nat.le_of_ble_eq_true rfl) (en_X12_determinantWanted m x0 x1 u0) sh_150 (by decide) rfl (fun q1 => ?_)
  refine xs_lconst (n := 7) (v := (0)) dX12_byTwo_6 rfl rfl ?_
  refine xs_lif_eq (n := 11) (pc1 := 8) (tgt := 12) dX12_byTwo_7 rfl dX12_byTwo_8 rfl rfl (fun hc2 => ?_) (fun hc2 => ?_)
  · refine xs_iconst (n := 13) (v := (0)) dX12_byTwo_12 rfl rfl ?_
    refine xs_istore_n (n := 14) (lv' := [some (.ref 150), some (.int x0), some (.int x1), some (.int (0)), none, none]) dX12_byTwo_13 rfl (Nat.le_of_ble_eq_true rfl) rfl ?_
    refine xs_reg ?_
    refine xs_fg (lv' := [some (.ref 150), some (.int x0), some (.int x1), some (.int (0)), none, none]) (And.intro rfl (And.intro rfl (And.intro rfl (And.intro rfl trivial)))) ?_
    refine el_X12_byTwo_14 m x0 x1 _ (fun _ => rfl) (fun q10 => ?_) m (0) q1.2
    refine xs_inr ?_
    exact xs_vret dX12_byTwo_65 rfl rfl
  · exact xs_vret dX12_byTwo_11 rfl rfl
def lp_X12_findLeast_102 (m : Nat) (c1 : Int32) (c2 : Int32) : Nat → Int32 → xm_Y → Option (Int32 × xm_Y)
  | 0, _, _ => none
  | n + 1, l3, u0 =>
  if (u0.1 150 11) ≤ l3 then (
  some (l3, u0)) else (
  ((fn_X12_determinant m c1 c2 l3 u0).bind fun q18 =>
  ((if q18.1 = (0) then (
  some (q18.2)) else (
  ((fn_X12_determinantWanted m c2 l3 q18.2).bind fun q22 =>
  ((fn_X12_determinantWanted m l3 c1 q22.2).bind fun q23 =>
  ((fn_X12_determinantWanted m c1 c2 q23.2).bind fun q24 =>
  ((fn_X12_offer m q22.1 q23.1 q24.1 q18.1 c1 c2 l3 q24.2).bind fun q25 =>
  some (q25.2)))))) : Option (xm_Y)).bind fun q19 =>
  xm_let (α := Int32) (l3 + (1)) fun v26 =>
  lp_X12_findLeast_102 m c1 c2 n v26 q19)))
def lp_X12_findLeast_84 (m : Nat) (c1 : Int32) : Nat → Int32 → xm_Y → Option (Int32 × xm_Y)
  | 0, _, _ => none
  | n + 1, l2, u0 =>
  if (u0.1 150 11) ≤ l2 then (
  some (l2, u0)) else (
  ((fn_X12_byTwo m c1 l2 u0).bind fun q15 =>
  xm_let (α := Int32) ((l2 + (1))) fun v16 =>
  ((lp_X12_findLeast_102 m c1 l2 m v16 q15.2).bind fun q27 =>
  xm_let (α := Int32) (l2 + (1)) fun v28 =>
  lp_X12_findLeast_84 m c1 n v28 q27.2)))
def lp_X12_findLeast_67 (m : Nat) : Nat → Int32 → xm_Y → Option (Int32 × xm_Y)
  | 0, _, _ => none
  | n + 1, l1, u0 =>
  if (u0.1 150 11) ≤ l1 then (
  some (l1, u0)) else (
  ((fn_X12_byOne m l1 u0).bind fun q12 =>
  xm_let (α := Int32) ((l1 + (1))) fun v13 =>
  ((lp_X12_findLeast_84 m l1 m v13 q12.2).bind fun q29 =>
  xm_let (α := Int32) (l1 + (1)) fun v30 =>
  lp_X12_findLeast_67 m n v30 q29.2)))
def fn_X12_findLeast (m : Nat) (u0 : xm_Y) : Option (Unit × xm_Y) :=
  xm_chk (xm_in (0) 3) (
  ((if (u0.2 181 (Int32.toNatClampNeg (0))) = (0) then (
  xm_chk (xm_in (1) 3) (
  if (u0.2 181 (Int32.toNatClampNeg (1))) = (0) then (
  xm_chk (xm_in (2) 3) (
  if (u0.2 181 (Int32.toNatClampNeg (2))) = (0) then (
  some ((1))) else (
  some ((0))))) else (
  some ((0))))) else (
  some ((0))) : Option (Int32)).bind fun q1 =>
  xm_chk (q1 = 0 ∨ q1 = 1) (
  xm_let (w_I u0 150 16 q1) fun u6 =>
  xm_let (w_J u6 150 13 (0)) fun u7 =>
  xm_let (w_J u7 150 14 (0)) fun u8 =>
  xm_let (w_J u8 150 15 (1)) fun u9 =>
  if (u9.1 150 16) = 0 then (
  ((lp_X12_findLeast_67 m m (0) u9).bind fun q31 =>
  some ((), q31.2))) else (
  some ((), u9)))))
theorem el_X12_findLeast_102 (m : Nat) (c1 : Int32) (c2 : Int32) (K : Int32 × xm_Y → Option (Unit × xm_Y)) (kE : ∀ q : Int32 × xm_Y, xs_ (fun _ : Unit => none) sg_0 mt_X12_findLeast 159 [some (.ref 150), some (.int c1), some (.int c2), none, none, none] [] q.2 0 0 (K q)) : ∀ (n : Nat) (l3 : Int32) (u0 : xm_Y), xs_ (fun _ : Unit => none) sg_0 mt_X12_findLeast 102 [some (.ref 150), some (.int c1), some (.int c2), some (.int l3), none, none] [] u0 0 0 ((lp_X12_findLeast_102 m c1 c2 n l3 u0).bind K) := by
  intro n
  induction n with
  | zero =>
    intro l3 u0
    exact xs_none
  | succ n ih =>
    intro l3 u0
    rw [lp_X12_findLeast_102]
    refine xs_iload_n (n := 103) dX12_findLeast_102 rfl rfl ?_
    refine xs_aload_n (n := 104) dX12_findLeast_103 rfl rfl ?_
    refine ys_geti (n := 107) dX12_findLeast_104 rfl fl_X12_185 (Or.inl rfl) sh_150 ?_
    refine xs_icmp_ge (n := 110) (tgt := 159) dX12_findLeast_107 rfl rfl (fun hc17 => ?_) (fun hc17 => ?_)
    · exact xs_gf (kE (l3, u0)) (And.intro rfl (And.intro rfl (And.intro rfl trivial)))
    · refine xs_aload_n (n := 111) dX12_findLeast_110 rfl rfl ?_
      refine xs_iload_n (n := 112) dX12_findLeast_111 rfl rfl ?_
      refine xs_iload_n (n := 113) dX12_findLeast_112 rfl rfl ?_
      refine xs_iload_n (n := 114) dX12_findLeast_113 rfl rfl ?_
      refine ys_callvl (n := 117) (N := mt_X12_determinant) dX12_findLeast_114 rfl ok_X12_determinant tw_1151 im_X12_determinant se_X12_determinant ⟨Nat.le_of_ble_eq_true rfl, Nat.le_of_ble_eq_true rfl⟩ [.int c1, .int c2, .int l3] [] rfl rfl (Nat.le_of_ble_eq_true rfl) rfl (Nat.le_of_ble_eq_true rfl) (en_X12_determinant m c1 c2 l3 u0) sh_150 (by decide) rfl (fun q18 => ?_)
      refine xs_lstore (n := 119) (lv' := [some (.ref 150), some (.int c1), some (.int c2), some (.int l3), some (.long q18.1), none]) dX12_findLeast_117 rfl (Nat.le_of_ble_eq_true rfl) rfl ?_
      refine xs_lload (n := 121) dX12_findLeast_119 rfl rfl ?_
      refine xs_lconst (n := 122) (v := (0)) dX12_findLeast_121 rfl rfl ?_
      refine xs_join 153 (fun q19 => [some (.ref 150), some (.int c1), some (.int c2), some (.int l3), none, none]) (fun q19 => []) (fun q19 => q19) (fun q19 => ?_) (fun kj20 => ?_)
      · refine xs_iincl (n := 156) (dv := (1)) (fun v26 => [some (.ref 150), some (.int c1), some (.int c2), some (.int v26), none, none]) dX12_findLeast_153 rfl rfl rfl (Nat.le_of_ble_eq_true rfl) (fun _ => rfl) (fun v26 => ?_)
        refine xs_goto (n := 102) dX12_findLeast_156 rfl ?_
        exact xs_gf (ih v26 q19) (And.intro rfl (And.intro rfl (And.intro rfl (And.intro rfl trivial))))
      · refine xs_lif_eq (n := 126) (pc1 := 123) (tgt := 153) dX12_findLeast_122 rfl dX12_findLeast_123 rfl rfl (fun hc21 => ?_) (fun hc21 => ?_)
        · exact xs_gf (kj20 (q18.2)) (And.intro rfl (And.intro rfl (And.intro rfl (And.intro rfl trivial))))
        · refine xs_aload_n (n := 127) dX12_findLeast_126 rfl rfl ?_
          refine xs_aload_n (n := 128) dX12_findLeast_127 rfl rfl ?_
          refine xs_iload_n (n := 129) dX12_findLeast_128 rfl rfl ?_
          refine xs_iload_n (n := 130) dX12_findLeast_129 rfl rfl ?_
          refine ys_callvl (n := 133) (N := mt_X12_determinantWanted) dX12_findLeast_130 rfl ok_X12_determinantWanted tw_1191 im_X12_determinantWanted se_X12_determinantWanted ⟨Nat.le_of_ble_eq_true rfl, Nat.le_of_ble_eq_true rfl⟩ [.int c2, .int l3] [.ref 150] rfl rfl (Nat.le_of_ble_eq_true rfl) rfl (Nat.le_of_ble_eq_true rfl) (en_X12_determinantWanted m c2 l3 q18.2) sh_150 (by decide) rfl (fun q22 => ?_)
          refine xs_aload_n (n := 134) dX12_findLeast_133 rfl rfl ?_
          refine xs_iload_n (n := 135) dX12_findLeast_134 rfl rfl ?_
          refine xs_iload_n (n := 136) dX12_findLeast_135 rfl rfl ?_
          refine ys_callvl (n := 139) (N := mt_X12_determinantWanted) dX12_findLeast_136 rfl ok_X12_determinantWanted tw_1191 im_X12_determinantWanted se_X12_determinantWanted ⟨Nat.le_of_ble_eq_true rfl, Nat.le_of_ble_eq_true rfl⟩ [.int l3, .int c1] [.long q22.1, .ref 150] rfl rfl (Nat.le_of_ble_eq_true rfl) rfl (Nat.le_of_ble_eq_true rfl) (en_X12_determinantWanted m l3 c1 q22.2) sh_150 (by decide) rfl (fun q23 => ?_)
          refine xs_aload_n (n := 140) dX12_findLeast_139 rfl rfl ?_
          refine xs_iload_n (n := 141) dX12_findLeast_140 rfl rfl ?_
          refine xs_iload_n (n := 142) dX12_findLeast_141 rfl rfl ?_
          refine ys_callvl (n := 145) (N := mt_X12_determinantWanted) dX12_findLeast_142 rfl ok_X12_determinantWanted tw_1191 im_X12_determinantWanted se_X12_determinantWanted ⟨Nat.le_of_ble_eq_true rfl, Nat.le_of_ble_eq_true rfl⟩ [.int c1, .int c2] [.long q23.1, .long q22.1, .ref 150] rfl rfl (Nat.le_of_ble_eq_true rfl) rfl (Nat.le_of_ble_eq_true rfl) (en_X12_determinantWanted m c1 c2 q23.2) sh_150 (by decide) rfl (fun q24 => ?_)
          refine xs_lload (n := 147) dX12_findLeast_145 rfl rfl ?_
          refine xs_iload_n (n := 148) dX12_findLeast_147 rfl rfl ?_
          refine xs_iload_n (n := 149) dX12_findLeast_148 rfl rfl ?_
          refine xs_iload_n (n := 150) dX12_findLeast_149 rfl rfl ?_
          refine ys_callvv (n := 153) (N := mt_X12_offer) dX12_findLeast_150 rfl ok_X12_offer tw_1175 im_X12_offer se_X12_offer ⟨Nat.le_of_ble_eq_true rfl, Nat.le_of_ble_eq_true rfl⟩ [.long q22.1, .long q23.1, .long q24.1, .long q18.1, .int c1, .int c2, .int l3] [] rfl rfl (Nat.le_of_ble_eq_true rfl) rfl (Nat.le_of_ble_eq_true rfl) (en_X12_offer m q22.1 q23.1 q24.1 q18.1 c1 c2 l3 q24.2) sh_150 (by decide) rfl (fun q25 => ?_)
          exact xs_gf (kj20 (q25.2)) (And.intro rfl (And.intro rfl (And.intro rfl (And.intro rfl trivial))))
theorem el_X12_findLeast_84 (m : Nat) (c1 : Int32) (K : Int32 × xm_Y → Option (Unit × xm_Y)) (kE : ∀ q : Int32 × xm_Y, xs_ (fun _ : Unit => none) sg_0 mt_X12_findLeast 165 [some (.ref 150), some (.int c1), none, none, none, none] [] q.2 0 0 (K q)) : ∀ (n : Nat) (l2 : Int32) (u0 : xm_Y), xs_ (fun _ : Unit => none) sg_0 mt_X12_findLeast 84 [some (.ref 150), some (.int c1), some (.int l2), none, none, none] [] u0 0 0 ((lp_X12_findLeast_84 m c1 n l2 u0).bind K) := by
  intro n
  induction n with
  | zero =>
    intro l2 u0
    exact xs_none
  | succ n ih =>
    intro l2 u0
    rw [lp_X12_findLeast_84]
    refine xs_iload_n (n := 85) dX12_findLeast_84 rfl rfl ?_
    refine xs_aload_n (n := 86) dX12_findLeast_85 rfl rfl ?_
    refine ys_geti (n := 89) dX12_findLeast_86 rfl fl_X12_185 (Or.inl rfl) sh_150 ?_
    refine xs_icmp_ge (n := 92) (tgt := 165) dX12_findLeast_89 rfl rfl (fun hc14 => ?_) (fun hc14 => ?_)
    · exact xs_gf (kE (l2, u0)) (And.intro rfl (And.intro rfl trivial))
    · refine xs_aload_n (n := 93) dX12_findLeast_92 rfl rfl ?_
      refine xs_iload_n (n := 94) dX12_findLeast_93 rfl rfl ?_
      refine xs_iload_n (n := 95) dX12_findLeast_94 rfl rfl ?_
      refine ys_callvv (n := 98) (N := mt_X12_byTwo) dX12_findLeast_95 rfl ok_X12_byTwo tw_1187 im_X12_byTwo se_X12_byTwo ⟨Nat.le_of_ble_eq_true rfl, Nat.le_of_ble_eq_true rfl⟩ [.int c1, .int l2] [] rfl rfl (Nat.le_of_ble_eq_true rfl) rfl (Nat.le_of_ble_eq_true rfl) (en_X12_byTwo m c1 l2 u0) sh_150 (by decide) rfl (fun q15 => ?_)
      refine xs_iload_n (n := 99) dX12_findLeast_98 rfl rfl ?_
      refine xs_iconst (n := 100) (v := (1)) dX12_findLeast_99 rfl rfl ?_
      refine xs_iadd (n := 101) dX12_findLeast_100 rfl ?_
      refine xs_leti (fun v16 => ?_)
      refine xs_istore_n (n := 102) (lv' := [some (.ref 150), some (.int c1), some (.int l2), some (.int v16), none, none]) dX12_findLeast_101 rfl (Nat.le_of_ble_eq_true rfl) rfl ?_
      refine xs_reg ?_
      refine xs_fg (lv' := [some (.ref 150), some (.int c1), some (.int l2), some (.int v16), none, none]) (And.intro rfl (And.intro rfl (And.intro rfl (And.intro rfl trivial)))) ?_
      refine el_X12_findLeast_102 m c1 l2 _ (fun q27 => ?_) m v16 q15.2
      refine xs_iincl (n := 162) (dv := (1)) (fun v28 => [some (.ref 150), some (.int c1), some (.int v28), none, none, none]) dX12_findLeast_159 rfl rfl rfl (Nat.le_of_ble_eq_true rfl) (fun _ => rfl) (fun v28 => ?_)
      refine xs_goto (n := 84) dX12_findLeast_162 rfl ?_
      exact xs_gf (ih v28 q27.2) (And.intro rfl (And.intro rfl (And.intro rfl trivial)))
theorem el_X12_findLeast_67 (m : Nat) (K : Int32 × xm_Y → Option (Unit × xm_Y)) (kE : ∀ q : Int32 × xm_Y, xs_ (fun _ : Unit => none) sg_0 mt_X12_findLeast 171 [none, none, none, none, none, none] [] q.2 0 0 (K q)) : ∀ (n : Nat) (l1 : Int32) (u0 : xm_Y), xs_ (fun _ : Unit => none) sg_0 mt_X12_findLeast 67 [some (.ref 150), some (.int l1), none, none, none, none] [] u0 0 0 ((lp_X12_findLeast_67 m n l1 u0).bind K) := by
  intro n
  induction n with
  | zero =>
    intro l1 u0
    exact xs_none
  | succ n ih =>
    intro l1 u0
    rw [lp_X12_findLeast_67]
    refine xs_iload_n (n := 68) dX12_findLeast_67 rfl rfl ?_
    refine xs_aload_n (n := 69) dX12_findLeast_68 rfl rfl ?_
    refine ys_geti (n := 72) dX12_findLeast_69 rfl fl_X12_185 (Or.inl rfl) sh_150 ?_
    refine xs_icmp_ge (n := 75) (tgt := 171) dX12_findLeast_72 rfl rfl (fun hc11 => ?_) (fun hc11 => ?_)
    · exact xs_gf (kE (l1, u0)) trivial
    · refine xs_aload_n (n := 76) dX12_findLeast_75 rfl rfl ?_
      refine xs_iload_n (n := 77) dX12_findLeast_76 rfl rfl ?_
      refine ys_callvv (n := 80) (N := mt_X12_byOne) dX12_findLeast_77 rfl ok_X12_byOne tw_1167 im_X12_byOne se_X12_byOne ⟨Nat.le_of_ble_eq_true rfl, Nat.le_of_ble_eq_true rfl⟩ [.int l1] [] rfl rfl (Nat.le_of_ble_eq_true rfl) rfl (Nat.le_of_ble_eq_true rfl) (en_X12_byOne m l1 u0) sh_150 (by decide) rfl (fun q12 => ?_)
      refine xs_iload_n (n := 81) dX12_findLeast_80 rfl rfl ?_
      refine xs_iconst (n := 82) (v := (1)) dX12_findLeast_81 rfl rfl ?_
      refine xs_iadd (n := 83) dX12_findLeast_82 rfl ?_
      refine xs_leti (fun v13 => ?_)
      refine xs_istore_n (n := 84) (lv' := [some (.ref 150), some (.int l1), some (.int v13), none, none, none]) dX12_findLeast_83 rfl (Nat.le_of_ble_eq_true rfl) rfl ?_
      refine xs_reg ?_
      refine xs_fg (lv' := [some (.ref 150), some (.int l1), some (.int v13), none, none, none]) (And.intro rfl (And.intro rfl (And.intro rfl trivial))) ?_
      refine el_X12_findLeast_84 m l1 _ (fun q29 => ?_) m v13 q12.2
      refine xs_iincl (n := 168) (dv := (1)) (fun v30 => [some (.ref 150), some (.int v30), none, none, none, none]) dX12_findLeast_165 rfl rfl rfl (Nat.le_of_ble_eq_true rfl) (fun _ => rfl) (fun v30 => ?_)
      refine xs_goto (n := 67) dX12_findLeast_168 rfl ?_
      exact xs_gf (ih v30 q29.2) (And.intro rfl (And.intro rfl trivial))
theorem en_X12_findLeast (m : Nat) (u0 : xm_Y) : xs_ (fun _ : Unit => none) sg_0 mt_X12_findLeast 0 [some (.ref 150), none, none, none, none, none] [] u0 0 0 (fn_X12_findLeast m u0) := by
  refine xs_top ?_
  rw [fn_X12_findLeast]
  refine xs_aload_n (n := 1) dX12_findLeast_0 rfl rfl ?_
  refine xs_aload_n (n := 2) dX12_findLeast_1 rfl rfl ?_
  refine ys_getr (n := 5) dX12_findLeast_2 rfl fl_X12_122 sh_150 rfl ?_
  refine xs_iconst (n := 6) (v := (0)) dX12_findLeast_5 rfl rfl ?_
  refine ys_laload (n := 7) dX12_findLeast_6 rfl sh_181 ?_
  refine xs_lconst (n := 8) (v := (0)) dX12_findLeast_7 rfl rfl ?_
  refine xs_join 39 (fun q1 => [some (.ref 150), none, none, none, none, none]) (fun q1 => [.int q1, .ref 150]) (fun q1 => u0) (fun q1 => ?_) (fun kj2 => ?_)
  · refine ys_putz (n := 42) dX12_findLeast_39 rfl fl_X12_240 rfl sh_150 (fun u6 => ?_)
    refine xs_aload_n (n := 43) dX12_findLeast_42 rfl rfl ?_
    refine xs_lconst (n := 44) (v := (0)) dX12_findLeast_43 rfl rfl ?_
    refine ys_putl (n := 47) dX12_findLeast_44 rfl fl_X12_243 rfl sh_150 (fun u7 => ?_)
    refine xs_aload_n (n := 48) dX12_findLeast_47 rfl rfl ?_
    refine xs_lconst (n := 49) (v := (0)) dX12_findLeast_48 rfl rfl ?_
    refine ys_putl (n := 52) dX12_findLeast_49 rfl fl_X12_247 rfl sh_150 (fun u8 => ?_)
    refine xs_aload_n (n := 53) dX12_findLeast_52 rfl rfl ?_
    refine xs_lconst (n := 54) (v := (1)) dX12_findLeast_53 rfl rfl ?_
    refine ys_putl (n := 57) dX12_findLeast_54 rfl fl_X12_250 rfl sh_150 (fun u9 => ?_)
    refine xs_aload_n (n := 58) dX12_findLeast_57 rfl rfl ?_
    refine ys_geti (n := 61) dX12_findLeast_58 rfl fl_X12_240 (Or.inr rfl) sh_150 ?_
    refine xs_if_eq (n := 64) (tgt := 65) dX12_findLeast_61 rfl rfl (fun hc10 => ?_) (fun hc10 => ?_)
    · refine xs_iconst (n := 66) (v := (0)) dX12_findLeast_65 rfl rfl ?_
      refine xs_istore_n (n := 67) (lv' := [some (.ref 150), some (.int (0)), none, none, none, none]) dX12_findLeast_66 rfl (Nat.le_of_ble_eq_true rfl) rfl ?_
      refine xs_reg ?_
      refine xs_fg (lv' := [some (.ref 150), some (.int (0)), none, none, none, none]) (And.intro rfl (And.intro rfl trivial)) ?_
      refine el_X12_findLeast_67 m _ (fun q31 => ?_) m (0) u9
      exact xs_vret dX12_findLeast_171 rfl rfl
    · exact xs_vret dX12_findLeast_64 rfl rfl
  · refine xs_lif_ne (n := 12) (pc1 := 9) (tgt := 38) dX12_findLeast_8 rfl dX12_findLeast_9 rfl rfl (fun hc3 => ?_) (fun hc3 => ?_)
    · refine xs_aload_n (n := 13) dX12_findLeast_12 rfl rfl ?_
      refine ys_getr (n := 16) dX12_findLeast_13 rfl fl_X12_122 sh_150 rfl ?_
      refine xs_iconst (n := 17) (v := (1)) dX12_findLeast_16 rfl rfl ?_
      refine ys_laload (n := 18) dX12_findLeast_17 rfl sh_181 ?_
      refine xs_lconst (n := 19) (v := (0)) dX12_findLeast_18 rfl rfl ?_
      refine xs_lif_ne (n := 23) (pc1 := 20) (tgt := 38) dX12_findLeast_19 rfl dX12_findLeast_20 rfl rfl (fun hc4 => ?_) (fun hc4 => ?_)
      · refine xs_aload_n (n := 24) dX12_findLeast_23 rfl rfl ?_
        refine ys_getr (n := 27) dX12_findLeast_24 rfl fl_X12_122 sh_150 rfl ?_
        refine xs_iconst (n := 28) (v := (2)) dX12_findLeast_27 rfl rfl ?_
        refine ys_laload (n := 29) dX12_findLeast_28 rfl sh_181 ?_
        refine xs_lconst (n := 30) (v := (0)) dX12_findLeast_29 rfl rfl ?_
        refine xs_lif_ne (n := 34) (pc1 := 31) (tgt := 38) dX12_findLeast_30 rfl dX12_findLeast_31 rfl rfl (fun hc5 => ?_) (fun hc5 => ?_)
        · refine xs_iconst (n := 35) (v := (1)) dX12_findLeast_34 rfl rfl ?_
          refine xs_goto (n := 39) dX12_findLeast_35 rfl ?_
          exact xs_gf (kj2 ((1))) (And.intro rfl trivial)
        · refine xs_iconst (n := 39) (v := (0)) dX12_findLeast_38 rfl rfl ?_
          exact xs_gf (kj2 ((0))) (And.intro rfl trivial)
      · refine xs_iconst (n := 39) (v := (0)) dX12_findLeast_38 rfl rfl ?_
        exact xs_gf (kj2 ((0))) (And.intro rfl trivial)
    · refine xs_iconst (n := 39) (v := (0)) dX12_findLeast_38 rfl rfl ?_
      exact xs_gf (kj2 ((0))) (And.intro rfl trivial)
