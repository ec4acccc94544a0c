def lp_X12_twoLeaveNothing_29 (m : Nat) (c1 : Int32) (u0 : xm_Y) : Nat → Int32 → Option (Int32)
  | 0, _ => none
  | n + 1, l3 =>
  xm_chk (xm_in (((4 : Int32) * c1) + l3) 48) (
  if (u0.2 159 (Int32.toNatClampNeg (((4 : Int32) * c1) + l3))) = (0 : Int64) then (
  xm_let (α := Int32) (l3 + (1 : Int32)) fun v8 =>
  lp_X12_twoLeaveNothing_29 m c1 u0 n v8) else (
  some (l3)))
def fn_X12_twoLeaveNothing (m : Nat) (x0 : Int32) (x1 : Int32) (u0 : xm_Y) : Option (Int32 × xm_Y) :=
  ((fn_X12_isZero m x0 u0).bind fun q1 =>
  if q1.1 = 0 then (
  ((fn_X12_isZero m x1 q1.2).bind fun q3 =>
  if q3.1 = 0 then (
  ((fn_X12_areParallel m x0 x1 q3.2).bind fun q5 =>
  if q5.1 = 0 then (
  some ((0 : Int32), q5.2)) else (
  ((lp_X12_twoLeaveNothing_29 m x0 q5.2 m (0 : Int32)).bind fun q9 =>
  xm_chk (xm_in (((4 : Int32) * x0) + q9) 48) (
  xm_let (α := Int64) ((q5.2.2 159 (Int32.toNatClampNeg (((4 : Int32) * x0) + q9)))) fun v10 =>
  xm_chk (xm_in (((4 : Int32) * x1) + q9) 48) (
  xm_let (α := Int64) ((q5.2.2 159 (Int32.toNatClampNeg (((4 : Int32) * x1) + q9)))) fun v11 =>
  ((if v10 ≤ (0 : Int64) then (
  some ((0 : Int32))) else (
  some ((1 : Int32))) : Option (Int32)).bind fun q12 =>
  ((if v11 ≤ (0 : Int64) then (
  some ((0 : Int32))) else (
  some ((1 : Int32))) : Option (Int32)).bind fun q15 =>
  if q12 = q15 then (
  some ((0 : Int32), q5.2)) else (
  ((fn_J9_abs_067f4 m v11 q5.2).bind fun q19 =>
  xm_chk (xm_in (((4 : Int32) * x0) + (3 : Int32)) 48) (
  ((fn_J9_abs_067f4 m v10 q19.2).bind fun q20 =>
  xm_chk (xm_in (((4 : Int32) * x1) + (3 : Int32)) 48) (
  ((if ((q19.1 * (q19.2.2 159 (Int32.toNatClampNeg (((4 : Int32) * x0) + (3 : Int32))))) + (q20.1 * (q20.2.2 159 (Int32.toNatClampNeg (((4 : Int32) * x1) + (3 : Int32)))))) ≤ (0 : Int64) then (
  some ((0 : Int32))) else (
  some ((1 : Int32))) : Option (Int32)).bind fun q21 =>
  xm_chk (q21 = 0 ∨ q21 = 1) (some (q21, q20.2)))))))))))))))) else (
  some ((0 : Int32), q3.2)))) else (
  some ((0 : Int32), q1.2)))
theorem el_X12_twoLeaveNothing_29 (m : Nat) (c1 : Int32) (c2 : Int32) (u0 : xm_Y) (K : Int32 → Option (Int32 × xm_Y)) (kE : ∀ q : Int32, xs_ (fun x : Int32 => some (.int x)) sg_0 mt_X12_twoLeaveNothing 50 [some (.ref 150), some (.int c1), some (.int c2), some (.int q), none, none, none, none] [] u0 0 0 (K q)) : ∀ (n : Nat) (l3 : Int32), xs_ (fun x : Int32 => some (.int x)) sg_0 mt_X12_twoLeaveNothing 29 [some (.ref 150), some (.int c1), some (.int c2), some (.int l3), none, none, none, none] [] u0 0 0 ((lp_X12_twoLeaveNothing_29 m c1 u0 n l3).bind K) := by
  intro n
  induction n with
  | zero =>
    intro l3
    exact xs_none
  | succ n ih =>
    intro l3
    rw [lp_X12_twoLeaveNothing_29]
    refine xs_aload_n (n := 30) dX12_twoLeaveNothing_29 rfl rfl ?_
    refine ys_getr (n := 33) dX12_twoLeaveNothing_30 rfl fl_X12_40 sh_150 rfl ?_
    refine xs_iconst (n := 34) (v := (4 : Int32)) dX12_twoLeaveNothing_33 rfl rfl ?_
    refine xs_iload_n (n := 35) dX12_twoLeaveNothing_34 rfl rfl ?_
    refine xs_imul (n := 36) dX12_twoLeaveNothing_35 rfl ?_
    refine xs_iload_n (n := 37) dX12_twoLeaveNothing_36 rfl rfl ?_
    refine xs_iadd (n := 38) dX12_twoLeaveNothing_37 rfl ?_
    refine ys_laload (n := 39) dX12_twoLeaveNothing_38 rfl sh_159 ?_
    refine xs_lconst (n := 40) (v := (0 : Int64)) dX12_twoLeaveNothing_39 rfl rfl ?_
    refine xs_lif_ne (n := 44) (pc1 := 41) (tgt := 50) dX12_twoLeaveNothing_40 rfl dX12_twoLeaveNothing_41 rfl rfl (fun hc7 => ?_) (fun hc7 => ?_)
    · refine xs_iincl (n := 47) (dv := (1 : Int32)) (fun v8 => [some (.ref 150), some (.int c1), some (.int c2), some (.int v8), none, none, none, none]) dX12_twoLeaveNothing_44 rfl rfl rfl (Nat.le_of_ble_eq_true rfl) (fun _ => rfl) (fun v8 => ?_)
      refine xs_goto (n := 29) dX12_twoLeaveNothing_47 rfl ?_
      exact xs_gf (ih v8) (And.intro rfl (And.intro rfl (And.intro rfl (And.intro rfl trivial))))
    · exact xs_gf (xs_end (kE (l3))) (And.intro rfl (And.intro rfl (And.intro rfl (And.intro rfl trivial))))
theorem en_X12_twoLeaveNothing (m : Nat) (x0 : Int32) (x1 : Int32) (u0 : xm_Y) : xs_ (fun x : Int32 => some (.int x)) sg_0 mt_X12_twoLeaveNothing 0 [some (.ref 150), some (.int x0), some (.int x1), none, none, none, none, none] [] u0 0 0 (fn_X12_twoLeaveNothing m x0 x1 u0) := by
  refine xs_top ?_
  rw [fn_X12_twoLeaveNothing]
  refine xs_aload_n (n := 1) dX12_twoLeaveNothing_0 rfl rfl ?_
  refine xs_iload_n (n := 2) dX12_twoLeaveNothing_1 rfl rfl ?_
  refine ys_callvi (n := 5) (N := mt_X12_isZero) dX12_twoLeaveNothing_2 rfl ok_X12_isZero tw_1125 im_X12_isZero se_X12_isZero ⟨Nat.le_of_ble_eq_true rfl, Nat.le_of_ble_eq_true rfl⟩ [.int x0] [] rfl rfl (Nat.le_of_ble_eq_true rfl) rfl (Nat.le_of_ble_eq_true rfl) (en_X12_isZero m x0 u0) sh_150 (by decide) rfl (fun q1 => ?_)
  refine xs_if_ne (n := 8) (tgt := 25) dX12_twoLeaveNothing_5 rfl rfl (fun hc2 => ?_) (fun hc2 => ?_)
  · refine xs_aload_n (n := 9) dX12_twoLeaveNothing_8 rfl rfl ?_
    refine xs_iload_n (n := 10) dX12_twoLeaveNothing_9 rfl rfl ?_
    refine ys_callvi (n := 13) (N := mt_X12_isZero) dX12_twoLeaveNothing_10 rfl ok_X12_isZero tw_1125 im_X12_isZero se_X12_isZero ⟨Nat.le_of_ble_eq_true rfl, Nat.le_of_ble_eq_true rfl⟩ [.int x1] [] rfl rfl (Nat.le_of_ble_eq_true rfl) rfl (Nat.le_of_ble_eq_true rfl) (en_X12_isZero m x1 q1.2) sh_150 (by decide) rfl (fun q3 => ?_)
    refine xs_if_ne (n := 16) (tgt := 25) dX12_twoLeaveNothing_13 rfl rfl (fun hc4 => ?_) (fun hc4 => ?_)
    · refine xs_aload_n (n := 17) dX12_twoLeaveNothing_16 rfl rfl ?_
      refine xs_iload_n (n := 18) dX12_twoLeaveNothing_17 rfl rfl ?_
      refine xs_iload_n (n := 19) dX12_twoLeaveNothing_18 rfl rfl ?_
      refine ys_callvi (n := 22) (N := mt_X12_areParallel) dX12_twoLeaveNothing_19 rfl ok_X12_areParallel tw_1133 im_X12_areParallel se_X12_areParallel ⟨Nat.le_of_ble_eq_true rfl, Nat.le_of_ble_eq_true rfl⟩ [.int x0, .int x1] [] rfl rfl (Nat.le_of_ble_eq_true rfl) rfl (Nat.le_of_ble_eq_true rfl) (en_X12_areParallel m x0 x1 q3.2) sh_150 (by decide) rfl (fun q5 => ?_)
      refine xs_if_ne (n := 25) (tgt := 27) dX12_twoLeaveNothing_22 rfl rfl (fun hc6 => ?_) (fun hc6 => ?_)
      · refine xs_iconst (n := 26) (v := (0 : Int32)) dX12_twoLeaveNothing_25 rfl rfl ?_
        exact xs_zretc dX12_twoLeaveNothing_26 rfl (Or.inl rfl) rfl
      · refine xs_iconst (n := 28) (v := (0 : Int32)) dX12_twoLeaveNothing_27 rfl rfl ?_
        refine xs_istore_n (n := 29) (lv' := [some (.ref 150), some (.int x0), some (.int x1), some (.int (0 : Int32)), none, none, none, none]) dX12_twoLeaveNothing_28 rfl (Nat.le_of_ble_eq_true rfl) rfl ?_
        refine xs_reg ?_
        refine xs_fg (lv' := [some (.ref 150), some (.int x0), some (.int x1), some (.int (0 : Int32)), none, none, none, none]) (And.intro rfl (And.intro rfl (And.intro rfl (And.intro rfl trivial)))) ?_
        refine el_X12_twoLeaveNothing_29 m x0 x1 q5.2 _ (fun q9 => ?_) m (0 : Int32)
        refine xs_aload_n (n := 51) dX12_twoLeaveNothing_50 rfl rfl ?_
        refine ys_getr (n := 54) dX12_twoLeaveNothing_51 rfl fl_X12_40 sh_150 rfl ?_
        refine xs_iconst (n := 55) (v := (4 : Int32)) dX12_twoLeaveNothing_54 rfl rfl ?_
        refine xs_iload_n (n := 56) dX12_twoLeaveNothing_55 rfl rfl ?_
        refine xs_imul (n := 57) dX12_twoLeaveNothing_56 rfl ?_
        refine xs_iload_n (n := 58) dX12_twoLeaveNothing_57 rfl rfl ?_
        refine xs_iadd (n := 59) dX12_twoLeaveNothing_58 rfl ?_
        refine ys_laload (n := 60) dX12_twoLeaveNothing_59 rfl sh_159 ?_
        refine xs_letl (fun v10 => ?_)
        refine xs_lstore (n := 62) (lv' := [some (.ref 150), some (.int x0), some (.int x1), some (.int q9), some (.long v10), none, none, none]) dX12_twoLeaveNothing_60 rfl (Nat.le_of_ble_eq_true rfl) rfl ?_
        refine xs_aload_n (n := 63) dX12_twoLeaveNothing_62 rfl rfl ?_
        refine ys_getr (n := 66) dX12_twoLeaveNothing_63 rfl fl_X12_40 sh_150 rfl ?_
        refine xs_iconst (n := 67) (v := (4 : Int32)) dX12_twoLeaveNothing_66 rfl rfl ?_
        refine xs_iload_n (n := 68) dX12_twoLeaveNothing_67 rfl rfl ?_
        refine xs_imul (n := 69) dX12_twoLeaveNothing_68 rfl ?_
        refine xs_iload_n (n := 70) dX12_twoLeaveNothing_69 rfl rfl ?_
        refine xs_iadd (n := 71) dX12_twoLeaveNothing_70 rfl ?_
        refine ys_laload (n := 72) dX12_twoLeaveNothing_71 rfl sh_159 ?_
        refine xs_letl (fun v11 => ?_)
        refine xs_lstore (n := 74) (lv' := [some (.ref 150), some (.int x0), some (.int x1), some (.int q9), some (.long v10), none, some (.long v11), none]) dX12_twoLeaveNothing_72 rfl (Nat.le_of_ble_eq_true rfl) rfl ?_
        refine xs_lload (n := 76) dX12_twoLeaveNothing_74 rfl rfl ?_
        refine xs_lconst (n := 77) (v := (0 : Int64)) dX12_twoLeaveNothing_76 rfl rfl ?_
        refine xs_join 86 (fun q12 => [some (.ref 150), some (.int x0), some (.int x1), none, some (.long v10), none, some (.long v11), none]) (fun q12 => [.int q12]) (fun q12 => q5.2) (fun q12 => ?_) (fun kj13 => ?_)
        · refine xs_lload (n := 88) dX12_twoLeaveNothing_86 rfl rfl ?_
          refine xs_lconst (n := 89) (v := (0 : Int64)) dX12_twoLeaveNothing_88 rfl rfl ?_
          refine xs_join 98 (fun q15 => [some (.ref 150), some (.int x0), some (.int x1), none, some (.long v10), none, some (.long v11), none]) (fun q15 => [.int q15, .int q12]) (fun q15 => q5.2) (fun q15 => ?_) (fun kj16 => ?_)
          · refine xs_icmp_ne (n := 101) (tgt := 103) dX12_twoLeaveNothing_98 rfl rfl (fun hc18 => ?_) (fun hc18 => ?_)
            · refine xs_iconst (n := 102) (v := (0 : Int32)) dX12_twoLeaveNothing_101 rfl rfl ?_
              exact xs_zretc dX12_twoLeaveNothing_102 rfl (Or.inl rfl) rfl
            · refine xs_lload (n := 105) dX12_twoLeaveNothing_103 rfl rfl ?_
              refine ys_callsl (n := 108) (N := mt_J9_abs_067f4) dX12_twoLeaveNothing_105 rfl ok_J9_abs_067f4 tw_1141 st_J9_abs_067f4 ⟨Nat.le_of_ble_eq_true rfl, Nat.le_of_ble_eq_true rfl⟩ [.long v11] [] rfl rfl (Nat.le_of_ble_eq_true rfl) rfl (Nat.le_of_ble_eq_true rfl) (en_J9_abs_067f4 m v11 q5.2) (fun q19 => ?_)
              refine xs_aload_n (n := 109) dX12_twoLeaveNothing_108 rfl rfl ?_
              refine ys_getr (n := 112) dX12_twoLeaveNothing_109 rfl fl_X12_40 sh_150 rfl ?_
              refine xs_iconst (n := 113) (v := (4 : Int32)) dX12_twoLeaveNothing_112 rfl rfl ?_
              refine xs_iload_n (n := 114) dX12_twoLeaveNothing_113 rfl rfl ?_
              refine xs_imul (n := 115) dX12_twoLeaveNothing_114 rfl ?_
              refine xs_iconst (n := 116) (v := (3 : Int32)) dX12_twoLeaveNothing_115 rfl rfl ?_
              refine xs_iadd (n := 117) dX12_twoLeaveNothing_116 rfl ?_
              refine ys_laload (n := 118) dX12_twoLeaveNothing_117 rfl sh_159 ?_
              refine xs_lmul (n := 119) dX12_twoLeaveNothing_118 rfl ?_
              refine xs_lload (n := 121) dX12_twoLeaveNothing_119 rfl rfl ?_
              refine ys_callsl (n := 124) (N := mt_J9_abs_067f4) dX12_twoLeaveNothing_121 rfl ok_J9_abs_067f4 tw_1141 st_J9_abs_067f4 ⟨Nat.le_of_ble_eq_true rfl, Nat.le_of_ble_eq_true rfl⟩ [.long v10] [.long (q19.1 * (q19.2.2 159 (Int32.toNatClampNeg (((4 : Int32) * x0) + (3 : Int32)))))] rfl rfl (Nat.le_of_ble_eq_true rfl) rfl (Nat.le_of_ble_eq_true rfl) (en_J9_abs_067f4 m v10 q19.2) (fun q20 => ?_)
              refine xs_aload_n (n := 125) dX12_twoLeaveNothing_124 rfl rfl ?_
              refine ys_getr (n := 128) dX12_twoLeaveNothing_125 rfl fl_X12_40 sh_150 rfl ?_
              refine xs_iconst (n := 129) (v := (4 : Int32)) dX12_twoLeaveNothing_128 rfl rfl ?_
              refine xs_iload_n (n := 130) dX12_twoLeaveNothing_129 rfl rfl ?_
              refine xs_imul (n := 131) dX12_twoLeaveNothing_130 rfl ?_
              refine xs_iconst (n := 132) (v := (3 : Int32)) dX12_twoLeaveNothing_131 rfl rfl ?_
              refine xs_iadd (n := 133) dX12_twoLeaveNothing_132 rfl ?_
              refine ys_laload (n := 134) dX12_twoLeaveNothing_133 rfl sh_159 ?_
              refine xs_lmul (n := 135) dX12_twoLeaveNothing_134 rfl ?_
              refine xs_ladd (n := 136) dX12_twoLeaveNothing_135 rfl ?_
              refine xs_lconst (n := 137) (v := (0 : Int64)) dX12_twoLeaveNothing_136 rfl rfl ?_
              refine xs_join 146 (fun q21 => [none, none, none, none, none, none, none, none]) (fun q21 => [.int q21]) (fun q21 => q20.2) (fun q21 => ?_) (fun kj22 => ?_)
              · exact xs_zret dX12_twoLeaveNothing_146 rfl rfl
              · refine xs_lif_le (n := 141) (pc1 := 138) (tgt := 145) dX12_twoLeaveNothing_137 rfl dX12_twoLeaveNothing_138 rfl rfl (fun hc23 => ?_) (fun hc23 => ?_)
                · refine xs_iconst (n := 146) (v := (0 : Int32)) dX12_twoLeaveNothing_145 rfl rfl ?_
                  exact xs_gf (xs_end (kj22 ((0 : Int32)))) trivial
                · refine xs_iconst (n := 142) (v := (1 : Int32)) dX12_twoLeaveNothing_141 rfl rfl ?_
                  refine xs_goto (n := 146) dX12_twoLeaveNothing_142 rfl ?_
                  exact xs_gf (xs_end (kj22 ((1 : Int32)))) trivial
          · refine xs_lif_le (n := 93) (pc1 := 90) (tgt := 97) dX12_twoLeaveNothing_89 rfl dX12_twoLeaveNothing_90 rfl rfl (fun hc17 => ?_) (fun hc17 => ?_)
            · refine xs_iconst (n := 98) (v := (0 : Int32)) dX12_twoLeaveNothing_97 rfl rfl ?_
              exact xs_gf (xs_end (kj16 ((0 : Int32)))) (And.intro rfl (And.intro rfl (And.intro rfl (And.intro rfl (And.intro rfl trivial)))))
            · refine xs_iconst (n := 94) (v := (1 : Int32)) dX12_twoLeaveNothing_93 rfl rfl ?_
              refine xs_goto (n := 98) dX12_twoLeaveNothing_94 rfl ?_
              exact xs_gf (xs_end (kj16 ((1 : Int32)))) (And.intro rfl (And.intro rfl (And.intro rfl (And.intro rfl (And.intro rfl trivial)))))
        · refine xs_lif_le (n := 81) (pc1 := 78) (tgt := 85) dX12_twoLeaveNothing_77 rfl dX12_twoLeaveNothing_78 rfl rfl (fun hc14 => ?_) (fun hc14 => ?_)
          · refine xs_iconst (n := 86) (v := (0 : Int32)) dX12_twoLeaveNothing_85 rfl rfl ?_
            exact xs_gf (xs_end (kj13 ((0 : Int32)))) (And.intro rfl (And.intro rfl (And.intro rfl (And.intro rfl (And.intro rfl trivial)))))
          · refine xs_iconst (n := 82) (v := (1 : Int32)) dX12_twoLeaveNothing_81 rfl rfl ?_
            refine xs_goto (n := 86) dX12_twoLeaveNothing_82 rfl ?_
            exact xs_gf (xs_end (kj13 ((1 : Int32)))) (And.intro rfl (And.intro rfl (And.intro rfl (And.intro rfl (And.intro rfl trivial)))))
    · refine xs_iconst (n := 26) (v := (0 : Int32)) dX12_twoLeaveNothing_25 rfl rfl ?_
      exact xs_zretc dX12_twoLeaveNothing_26 rfl (Or.inl rfl) rfl
  · refine xs_iconst (n := 26) (v := (0 : Int32)) dX12_twoLeaveNothing_25 rfl rfl ?_
    exact xs_zretc dX12_twoLeaveNothing_26 rfl (Or.inl rfl) rfl
def fn_X12_determinant (m : Nat) (x0 : Int32) (x1 : Int32) (x2 : Int32) (u0 : xm_Y) : Option (Int64 × xm_Y) :=
  xm_chk (xm_in ((4 : Int32) * x0) 48) (
  ((fn_X12_cross m x1 x2 (0 : Int32) u0).bind fun q1 =>
  xm_chk (xm_in (((4 : Int32) * x0) + (1 : Int32)) 48) (
  ((fn_X12_cross m x1 x2 (1 : Int32) q1.2).bind fun q2 =>
  xm_chk (xm_in (((4 : Int32) * x0) + (2 : Int32)) 48) (
  ((fn_X12_cross m x1 x2 (2 : Int32) q2.2).bind fun q3 =>
  some (((((u0.2 159 (Int32.toNatClampNeg ((4 : Int32) * x0))) * q1.1) + ((q1.2.2 159 (Int32.toNatClampNeg (((4 : Int32) * x0) + (1 : Int32)))) * q2.1)) + ((q2.2.2 159 (Int32.toNatClampNeg (((4 : Int32) * x0) + (2 : Int32)))) * q3.1)), q3.2)))))))
theorem en_X12_determinant (m : Nat) (x0 : Int32) (x1 : Int32) (x2 : Int32) (u0 : xm_Y) : xs_ (fun x : Int64 => some (.long x)) sg_0 mt_X12_determinant 0 [some (.ref 150), some (.int x0), some (.int x1), some (.int x2)] [] u0 0 0 (fn_X12_determinant m x0 x1 x2 u0) := by
  refine xs_top ?_
  rw [fn_X12_determinant]
  refine xs_aload_n (n := 1) dX12_determinant_0 rfl rfl ?_
  refine ys_getr (n := 4) dX12_determinant_1 rfl fl_X12_40 sh_150 rfl ?_
  refine xs_iconst (n := 5) (v := (4 : Int32)) dX12_determinant_4 rfl rfl ?_
  refine xs_iload_n (n := 6) dX12_determinant_5 rfl rfl ?_
  refine xs_imul (n := 7) dX12_determinant_6 rfl ?_
  refine ys_laload (n := 8) dX12_determinant_7 rfl sh_159 ?_
  refine xs_aload_n (n := 9) dX12_determinant_8 rfl rfl ?_
  refine xs_iload_n (n := 10) dX12_determinant_9 rfl rfl ?_
  refine xs_iload_n (n := 11) dX12_determinant_10 rfl rfl ?_
  refine xs_iconst (n := 12) (v := (0 : Int32)) dX12_determinant_11 rfl rfl ?_
  refine ys_callvl (n := 15) (N := mt_X12_cross) dX12_determinant_12 rfl ok_X12_cross tw_1137 im_X12_cross se_X12_cross ⟨Nat.le_of_ble_eq_true rfl, Nat.le_of_ble_eq_true rfl⟩ [.int x1, .int x2, .int (0 : Int32)] [.long (u0.2 159 (Int32.toNatClampNeg ((4 : Int32) * x0)))] rfl rfl (Nat.le_of_ble_eq_true rfl) rfl (Nat.le_of_ble_eq_true rfl) (en_X12_cross m x1 x2 (0 : Int32) u0) sh_150 (by decide) rfl (fun q1 => ?_)
  refine xs_lmul (n := 16) dX12_determinant_15 rfl ?_
  refine xs_aload_n (n := 17) dX12_determinant_16 rfl rfl ?_
  refine ys_getr (n := 20) dX12_determinant_17 rfl fl_X12_40 sh_150 rfl ?_
  refine xs_iconst (n := 21) (v := (4 : Int32)) dX12_determinant_20 rfl rfl ?_
  refine xs_iload_n (n := 22) dX12_determinant_21 rfl rfl ?_
  refine xs_imul (n := 23) dX12_determinant_22 rfl ?_
  refine xs_iconst (n := 24) (v := (1 : Int32)) dX12_determinant_23 rfl rfl ?_
  refine xs_iadd (n := 25) dX12_determinant_24 rfl ?_
  refine ys_laload (n := 26) dX12_determinant_25 rfl sh_159 ?_
  refine xs_aload_n (n := 27) dX12_determinant_26 rfl rfl ?_
  refine xs_iload_n (n := 28) dX12_determinant_27 rfl rfl ?_
  refine xs_iload_n (n := 29) dX12_determinant_28 rfl rfl ?_
  refine xs_iconst (n := 30) (v := (1 : Int32)) dX12_determinant_29 rfl rfl ?_
  refine ys_callvl (n := 33) (N := mt_X12_cross) dX12_determinant_30 rfl ok_X12_cross tw_1137 im_X12_cross se_X12_cross ⟨Nat.le_of_ble_eq_true rfl, Nat.le_of_ble_eq_true rfl⟩ [.int x1, .int x2, .int (1 : Int32)] [.long (q1.2.2 159 (Int32.toNatClampNeg (((4 : Int32) * x0) + (1 : Int32)))), .long ((u0.2 159 (Int32.toNatClampNeg ((4 : Int32) * x0))) * q1.1)] rfl rfl (Nat.le_of_ble_eq_true rfl) rfl (Nat.le_of_ble_eq_true rfl) (en_X12_cross m x1 x2 (1 : Int32) q1.2) sh_150 (by decide) rfl (fun q2 => ?_)
  refine xs_lmul (n := 34) dX12_determinant_33 rfl ?_
  refine xs_ladd (n := 35) dX12_determinant_34 rfl ?_
  refine xs_aload_n (n := 36) dX12_determinant_35 rfl rfl ?_
  refine ys_getr (n := 39) dX12_determinant_36 rfl fl_X12_40 sh_150 rfl ?_
  refine xs_iconst (n := 40) (v := (4 : Int32)) dX12_determinant_39 rfl rfl ?_
  refine xs_iload_n (n := 41) dX12_determinant_40 rfl rfl ?_
  refine xs_imul (n := 42) dX12_determinant_41 rfl ?_
  refine xs_iconst (n := 43) (v := (2 : Int32)) dX12_determinant_42 rfl rfl ?_
  refine xs_iadd (n := 44) dX12_determinant_43 rfl ?_
  refine ys_laload (n := 45) dX12_determinant_44 rfl sh_159 ?_
  refine xs_aload_n (n := 46) dX12_determinant_45 rfl rfl ?_
  refine xs_iload_n (n := 47) dX12_determinant_46 rfl rfl ?_
  refine xs_iload_n (n := 48) dX12_determinant_47 rfl rfl ?_
  refine xs_iconst (n := 49) (v := (2 : Int32)) dX12_determinant_48 rfl rfl ?_
  refine ys_callvl (n := 52) (N := mt_X12_cross) dX12_determinant_49 rfl ok_X12_cross tw_1137 im_X12_cross se_X12_cross ⟨Nat.le_of_ble_eq_true rfl, Nat.le_of_ble_eq_true rfl⟩ [.int x1, .int x2, .int (2 : Int32)] [.long (q2.2.2 159 (Int32.toNatClampNeg (((4 : Int32) * x0) + (2 : Int32)))), .long (((u0.2 159 (Int32.toNatClampNeg ((4 : Int32) * x0))) * q1.1) + ((q1.2.2 159 (Int32.toNatClampNeg (((4 : Int32) * x0) + (1 : Int32)))) * q2.1))] rfl rfl (Nat.le_of_ble_eq_true rfl) rfl (Nat.le_of_ble_eq_true rfl) (en_X12_cross m x1 x2 (2 : Int32) q2.2) sh_150 (by decide) rfl (fun q3 => ?_)
  refine xs_lmul (n := 53) dX12_determinant_52 rfl ?_
  refine xs_ladd (n := 54) dX12_determinant_53 rfl ?_
  exact xs_lret dX12_determinant_54 rfl rfl
def fn_X12_leaveNothing (m : Nat) (x0 : Int64) (x1 : Int64) (x2 : Int64) (x3 : Int64) (x4 : Int32) (x5 : Int32) (x6 : Int32) (x7 : Int32) (u0 : xm_Y) : Option (Int32 × xm_Y) :=
  ((if x0 < (0 : Int64) then (
  some ((0 : Int32))) else (
  if x1 < (0 : Int64) then (
  some ((0 : Int32))) else (
  if x2 < (0 : Int64) then (
  some ((0 : Int32))) else (
  if x3 < (0 : Int64) then (
  some ((0 : Int32))) else (
  some ((1 : Int32)))))) : Option (Int32)).bind fun q1 =>
  ((if (0 : Int64) < x0 then (
  some ((0 : Int32))) else (
  if (0 : Int64) < x1 then (
  some ((0 : Int32))) else (
  if (0 : Int64) < x2 then (
  some ((0 : Int32))) else (
  if (0 : Int64) < x3 then (
  some ((0 : Int32))) else (
  some ((1 : Int32)))))) : Option (Int32)).bind fun q7 =>
  xm_chk (xm_in (((4 : Int32) * x4) + (3 : Int32)) 48) (
  xm_chk (xm_in (((4 : Int32) * x5) + (3 : Int32)) 48) (
  xm_chk (xm_in (((4 : Int32) * x6) + (3 : Int32)) 48) (
  xm_chk (xm_in (((4 : Int32) * x7) + (3 : Int32)) 48) (
  xm_let (α := Int64) (((((x0 * (u0.2 159 (Int32.toNatClampNeg (((4 : Int32) * x4) + (3 : Int32))))) + (x1 * (u0.2 159 (Int32.toNatClampNeg (((4 : Int32) * x5) + (3 : Int32)))))) + (x2 * (u0.2 159 (Int32.toNatClampNeg (((4 : Int32) * x6) + (3 : Int32)))))) + (x3 * (u0.2 159 (Int32.toNatClampNeg (((4 : Int32) * x7) + (3 : Int32))))))) fun v13 =>
  ((if q1 = 0 then (
  if q7 = 0 then (
  some ((0 : Int32))) else (
  if (0 : Int64) ≤ v13 then (
  some ((0 : Int32))) else (
  some ((1 : Int32))))) else (
  if (0 : Int64) < v13 then (
  some ((1 : Int32))) else (
  if q7 = 0 then (
  some ((0 : Int32))) else (
  if (0 : Int64) ≤ v13 then (
  some ((0 : Int32))) else (
  some ((1 : Int32)))))) : Option (Int32)).bind fun q14 =>
  xm_chk (q14 = 0 ∨ q14 = 1) (some (q14, u0)))))))))
theorem en_X12_leaveNothing (m : Nat) (x0 : Int64) (x1 : Int64) (x2 : Int64) (x3 : Int64) (x4 : Int32) (x5 : Int32) (x6 : Int32) (x7 : Int32) (u0 : xm_Y) : xs_ (fun x : Int32 => some (.int x)) sg_0 mt_X12_leaveNothing 0 [some (.ref 150), some (.long x0), none, some (.long x1), none, some (.long x2), none, some (.long x3), none, some (.int x4), some (.int x5), some (.int x6), some (.int x7), none, none, none, none] [] u0 0 0 (fn_X12_leaveNothing m x0 x1 x2 x3 x4 x5 x6 x7 u0) := by
  refine xs_top ?_
  rw [fn_X12_leaveNothing]
  refine xs_lload_n (n := 1) dX12_leaveNothing_0 rfl rfl ?_
  refine xs_lconst (n := 2) (v := (0 : Int64)) dX12_leaveNothing_1 rfl rfl ?_
  refine xs_join 31 (fun q1 => [some (.ref 150), some (.long x0), none, some (.long x1), none, some (.long x2), none, some (.long x3), none, some (.int x4), some (.int x5), some (.int x6), some (.int x7), none, none, none, none]) (fun q1 => [.int q1]) (fun q1 => u0) (fun q1 => ?_) (fun kj2 => ?_)
  · refine xs_istore (n := 33) (lv' := [some (.ref 150), some (.long x0), none, some (.long x1), none, some (.long x2), none, some (.long x3), none, some (.int x4), some (.int x5), some (.int x6), some (.int x7), some (.int q1), none, none, none]) dX12_leaveNothing_31 rfl (Nat.le_of_ble_eq_true rfl) rfl ?_
    refine xs_lload_n (n := 34) dX12_leaveNothing_33 rfl rfl ?_
    refine xs_lconst (n := 35) (v := (0 : Int64)) dX12_leaveNothing_34 rfl rfl ?_
    refine xs_join 64 (fun q7 => [some (.ref 150), some (.long x0), none, some (.long x1), none, some (.long x2), none, some (.long x3), none, some (.int x4), some (.int x5), some (.int x6), some (.int x7), some (.int q1), none, none, none]) (fun q7 => [.int q7]) (fun q7 => u0) (fun q7 => ?_) (fun kj8 => ?_)
    · refine xs_istore (n := 66) (lv' := [some (.ref 150), some (.long x0), none, some (.long x1), none, some (.long x2), none, some (.long x3), none, some (.int x4), some (.int x5), some (.int x6), some (.int x7), some (.int q1), some (.int q7), none, none]) dX12_leaveNothing_64 rfl (Nat.le_of_ble_eq_true rfl) rfl ?_
      refine xs_lload_n (n := 67) dX12_leaveNothing_66 rfl rfl ?_
      refine xs_aload_n (n := 68) dX12_leaveNothing_67 rfl rfl ?_
      refine ys_getr (n := 71) dX12_leaveNothing_68 rfl fl_X12_40 sh_150 rfl ?_
      refine xs_iconst (n := 72) (v := (4 : Int32)) dX12_leaveNothing_71 rfl rfl ?_
      refine xs_iload (n := 74) dX12_leaveNothing_72 rfl rfl ?_
      refine xs_imul (n := 75) dX12_leaveNothing_74 rfl ?_
      refine xs_iconst (n := 76) (v := (3 : Int32)) dX12_leaveNothing_75 rfl rfl ?_
      refine xs_iadd (n := 77) dX12_leaveNothing_76 rfl ?_
      refine ys_laload (n := 78) dX12_leaveNothing_77 rfl sh_159 ?_
      refine xs_lmul (n := 79) dX12_leaveNothing_78 rfl ?_
      refine xs_lload_n (n := 80) dX12_leaveNothing_79 rfl rfl ?_
      refine xs_aload_n (n := 81) dX12_leaveNothing_80 rfl rfl ?_
      refine ys_getr (n := 84) dX12_leaveNothing_81 rfl fl_X12_40 sh_150 rfl ?_
      refine xs_iconst (n := 85) (v := (4 : Int32)) dX12_leaveNothing_84 rfl rfl ?_
      refine xs_iload (n := 87) dX12_leaveNothing_85 rfl rfl ?_
      refine xs_imul (n := 88) dX12_leaveNothing_87 rfl ?_
      refine xs_iconst (n := 89) (v := (3 : Int32)) dX12_leaveNothing_88 rfl rfl ?_
      refine xs_iadd (n := 90) dX12_leaveNothing_89 rfl ?_
      refine ys_laload (n := 91) dX12_leaveNothing_90 rfl sh_159 ?_
      refine xs_lmul (n := 92) dX12_leaveNothing_91 rfl ?_
      refine xs_ladd (n := 93) dX12_leaveNothing_92 rfl ?_
      refine xs_lload (n := 95) dX12_leaveNothing_93 rfl rfl ?_
      refine xs_aload_n (n := 96) dX12_leaveNothing_95 rfl rfl ?_
      refine ys_getr (n := 99) dX12_leaveNothing_96 rfl fl_X12_40 sh_150 rfl ?_
      refine xs_iconst (n := 100) (v := (4 : Int32)) dX12_leaveNothing_99 rfl rfl ?_
      refine xs_iload (n := 102) dX12_leaveNothing_100 rfl rfl ?_
      refine xs_imul (n := 103) dX12_leaveNothing_102 rfl ?_
      refine xs_iconst (n := 104) (v := (3 : Int32)) dX12_leaveNothing_103 rfl rfl ?_
      refine xs_iadd (n := 105) dX12_leaveNothing_104 rfl ?_
      refine ys_laload (n := 106) dX12_leaveNothing_105 rfl sh_159 ?_
      refine xs_lmul (n := 107) dX12_leaveNothing_106 rfl ?_
      refine xs_ladd (n := 108) dX12_leaveNothing_107 rfl ?_
      refine xs_lload (n := 110) dX12_leaveNothing_108 rfl rfl ?_
      refine xs_aload_n (n := 111) dX12_leaveNothing_110 rfl rfl ?_
      refine ys_getr (n := 114) dX12_leaveNothing_111 rfl fl_X12_40 sh_150 rfl ?_
      refine xs_iconst (n := 115) (v := (4 : Int32)) dX12_leaveNothing_114 rfl rfl ?_
      refine xs_iload (n := 117) dX12_leaveNothing_115 rfl rfl ?_
      refine xs_imul (n := 118) dX12_leaveNothing_117 rfl ?_
      refine xs_iconst (n := 119) (v := (3 : Int32)) dX12_leaveNothing_118 rfl rfl ?_
      refine xs_iadd (n := 120) dX12_leaveNothing_119 rfl ?_
      refine ys_laload (n := 121) dX12_leaveNothing_120 rfl sh_159 ?_
      refine xs_lmul (n := 122) dX12_leaveNothing_121 rfl ?_
      refine xs_ladd (n := 123) dX12_leaveNothing_122 rfl ?_
      refine xs_letl (fun v13 => ?_)
      refine xs_lstore (n := 125) (lv' := [some (.ref 150), some (.long x0), none, some (.long x1), none, some (.long x2), none, some (.long x3), none, some (.int x4), some (.int x5), some (.int x6), some (.int x7), some (.int q1), some (.int q7), some (.long v13), none]) dX12_leaveNothing_123 rfl (Nat.le_of_ble_eq_true rfl) rfl ?_
      refine xs_iload (n := 127) dX12_leaveNothing_125 rfl rfl ?_
      refine xs_join 154 (fun q14 => [none, none, none, none, none, none, none, none, none, none, none, none, none, none, none, none, none]) (fun q14 => [.int q14]) (fun q14 => u0) (fun q14 => ?_) (fun kj15 => ?_)
      · exact xs_zret dX12_leaveNothing_154 rfl rfl
      · refine xs_if_eq (n := 130) (tgt := 137) dX12_leaveNothing_127 rfl rfl (fun hc16 => ?_) (fun hc16 => ?_)
        · refine xs_iload (n := 139) dX12_leaveNothing_137 rfl rfl ?_
          refine xs_if_eq (n := 142) (tgt := 153) dX12_leaveNothing_139 rfl rfl (fun hc17 => ?_) (fun hc17 => ?_)
          · refine xs_iconst (n := 154) (v := (0 : Int32)) dX12_leaveNothing_153 rfl rfl ?_
            exact xs_gf (xs_end (kj15 ((0 : Int32)))) trivial
          · refine xs_lload (n := 144) dX12_leaveNothing_142 rfl rfl ?_
            refine xs_lconst (n := 145) (v := (0 : Int64)) dX12_leaveNothing_144 rfl rfl ?_
            refine xs_lif_ge (n := 149) (pc1 := 146) (tgt := 153) dX12_leaveNothing_145 rfl dX12_leaveNothing_146 rfl rfl (fun hc18 => ?_) (fun hc18 => ?_)
            · refine xs_iconst (n := 154) (v := (0 : Int32)) dX12_leaveNothing_153 rfl rfl ?_
              exact xs_gf (xs_end (kj15 ((0 : Int32)))) trivial
            · refine xs_iconst (n := 150) (v := (1 : Int32)) dX12_leaveNothing_149 rfl rfl ?_
              refine xs_goto (n := 154) dX12_leaveNothing_150 rfl ?_
              exact xs_gf (xs_end (kj15 ((1 : Int32)))) trivial
        · refine xs_lload (n := 132) dX12_leaveNothing_130 rfl rfl ?_
          refine xs_lconst (n := 133) (v := (0 : Int64)) dX12_leaveNothing_132 rfl rfl ?_
          refine xs_lif_gt (n := 137) (pc1 := 134) (tgt := 149) dX12_leaveNothing_133 rfl dX12_leaveNothing_134 rfl rfl (fun hc19 => ?_) (fun hc19 => ?_)
          · refine xs_iconst (n := 150) (v := (1 : Int32)) dX12_leaveNothing_149 rfl rfl ?_
            refine xs_goto (n := 154) dX12_leaveNothing_150 rfl ?_
            exact xs_gf (xs_end (kj15 ((1 : Int32)))) trivial
          · refine xs_iload (n := 139) dX12_leaveNothing_137 rfl rfl ?_
            refine xs_if_eq (n := 142) (tgt := 153) dX12_leaveNothing_139 rfl rfl (fun hc20 => ?_) (fun hc20 => ?_)
            · refine xs_iconst (n := 154) (v := (0 : Int32)) dX12_leaveNothing_153 rfl rfl ?_
              exact xs_gf (xs_end (kj15 ((0 : Int32)))) trivial
            · refine xs_lload (n := 144) dX12_leaveNothing_142 rfl rfl ?_
              refine xs_lconst (n := 145) (v := (0 : Int64)) dX12_leaveNothing_144 rfl rfl ?_
              refine xs_lif_ge (n := 149) (pc1 := 146) (tgt := 153) dX12_leaveNothing_145 rfl dX12_leaveNothing_146 rfl rfl (fun hc21 => ?_) (fun hc21 => ?_)
              · refine xs_iconst (n := 154) (v := (0 : Int32)) dX12_leaveNothing_153 rfl rfl ?_
                exact xs_gf (xs_end (kj15 ((0 : Int32)))) trivial
              · refine xs_iconst (n := 150) (v := (1 : Int32)) dX12_leaveNothing_149 rfl rfl ?_
                refine xs_goto (n := 154) dX12_leaveNothing_150 rfl ?_
                exact xs_gf (xs_end (kj15 ((1 : Int32)))) trivial
    · refine xs_lif_gt (n := 39) (pc1 := 36) (tgt := 63) dX12_leaveNothing_35 rfl dX12_leaveNothing_36 rfl rfl (fun hc9 => ?_) (fun hc9 => ?_)
      · refine xs_iconst (n := 64) (v := (0 : Int32)) dX12_leaveNothing_63 rfl rfl ?_
        exact xs_gf (xs_end (kj8 ((0 : Int32)))) (And.intro rfl (And.intro rfl (And.intro rfl (And.intro rfl (And.intro rfl (And.intro rfl (And.intro rfl (And.intro rfl (And.intro rfl (And.intro rfl trivial))))))))))
      · refine xs_lload_n (n := 40) dX12_leaveNothing_39 rfl rfl ?_
        refine xs_lconst (n := 41) (v := (0 : Int64)) dX12_leaveNothing_40 rfl rfl ?_
        refine xs_lif_gt (n := 45) (pc1 := 42) (tgt := 63) dX12_leaveNothing_41 rfl dX12_leaveNothing_42 rfl rfl (fun hc10 => ?_) (fun hc10 => ?_)
        · refine xs_iconst (n := 64) (v := (0 : Int32)) dX12_leaveNothing_63 rfl rfl ?_
          exact xs_gf (xs_end (kj8 ((0 : Int32)))) (And.intro rfl (And.intro rfl (And.intro rfl (And.intro rfl (And.intro rfl (And.intro rfl (And.intro rfl (And.intro rfl (And.intro rfl (And.intro rfl trivial))))))))))
        · refine xs_lload (n := 47) dX12_leaveNothing_45 rfl rfl ?_
          refine xs_lconst (n := 48) (v := (0 : Int64)) dX12_leaveNothing_47 rfl rfl ?_
          refine xs_lif_gt (n := 52) (pc1 := 49) (tgt := 63) dX12_leaveNothing_48 rfl dX12_leaveNothing_49 rfl rfl (fun hc11 => ?_) (fun hc11 => ?_)
          · refine xs_iconst (n := 64) (v := (0 : Int32)) dX12_leaveNothing_63 rfl rfl ?_
            exact xs_gf (xs_end (kj8 ((0 : Int32)))) (And.intro rfl (And.intro rfl (And.intro rfl (And.intro rfl (And.intro rfl (And.intro rfl (And.intro rfl (And.intro rfl (And.intro rfl (And.intro rfl trivial))))))))))
          · refine xs_lload (n := 54) dX12_leaveNothing_52 rfl rfl ?_
            refine xs_lconst (n := 55) (v := (0 : Int64)) dX12_leaveNothing_54 rfl rfl ?_
            refine xs_lif_gt (n := 59) (pc1 := 56) (tgt := 63) dX12_leaveNothing_55 rfl dX12_leaveNothing_56 rfl rfl (fun hc12 => ?_) (fun hc12 => ?_)
            · refine xs_iconst (n := 64) (v := (0 : Int32)) dX12_leaveNothing_63 rfl rfl ?_
              exact xs_gf (xs_end (kj8 ((0 : Int32)))) (And.intro rfl (And.intro rfl (And.intro rfl (And.intro rfl (And.intro rfl (And.intro rfl (And.intro rfl (And.intro rfl (And.intro rfl (And.intro rfl trivial))))))))))
            · refine xs_iconst (n := 60) (v := (1 : Int32)) dX12_leaveNothing_59 rfl rfl ?_
              refine xs_goto (n := 64) dX12_leaveNothing_60 rfl ?_
              exact xs_gf (xs_end (kj8 ((1 : Int32)))) (And.intro rfl (And.intro rfl (And.intro rfl (And.intro rfl (And.intro rfl (And.intro rfl (And.intro rfl (And.intro rfl (And.intro rfl (And.intro rfl trivial))))))))))
  · refine xs_lif_lt (n := 6) (pc1 := 3) (tgt := 30) dX12_leaveNothing_2 rfl dX12_leaveNothing_3 rfl rfl (fun hc3 => ?_) (fun hc3 => ?_)
    · refine xs_iconst (n := 31) (v := (0 : Int32)) dX12_leaveNothing_30 rfl rfl ?_
      exact xs_gf (xs_end (kj2 ((0 : Int32)))) (And.intro rfl (And.intro rfl (And.intro rfl (And.intro rfl (And.intro rfl (And.intro rfl (And.intro rfl (And.intro rfl (And.intro rfl trivial)))))))))
    · refine xs_lload_n (n := 7) dX12_leaveNothing_6 rfl rfl ?_
      refine xs_lconst (n := 8) (v := (0 : Int64)) dX12_leaveNothing_7 rfl rfl ?_
      refine xs_lif_lt (n := 12) (pc1 := 9) (tgt := 30) dX12_leaveNothing_8 rfl dX12_leaveNothing_9 rfl rfl (fun hc4 => ?_) (fun hc4 => ?_)
      · refine xs_iconst (n := 31) (v := (0 : Int32)) dX12_leaveNothing_30 rfl rfl ?_
        exact xs_gf (xs_end (kj2 ((0 : Int32)))) (And.intro rfl (And.intro rfl (And.intro rfl (And.intro rfl (And.intro rfl (And.intro rfl (And.intro rfl (And.intro rfl (And.intro rfl trivial)))))))))
      · refine xs_lload (n := 14) dX12_leaveNothing_12 rfl rfl ?_
        refine xs_lconst (n := 15) (v := (0 : Int64)) dX12_leaveNothing_14 rfl rfl ?_
        refine xs_lif_lt (n := 19) (pc1 := 16) (tgt := 30) dX12_leaveNothing_15 rfl dX12_leaveNothing_16 rfl rfl (fun hc5 => ?_) (fun hc5 => ?_)
        · refine xs_iconst (n := 31) (v := (0 : Int32)) dX12_leaveNothing_30 rfl rfl ?_
          exact xs_gf (xs_end (kj2 ((0 : Int32)))) (And.intro rfl (And.intro rfl (And.intro rfl (And.intro rfl (And.intro rfl (And.intro rfl (And.intro rfl (And.intro rfl (And.intro rfl trivial)))))))))
        · refine xs_lload (n := 21) dX12_leaveNothing_19 rfl rfl ?_
          refine xs_lconst (n := 22) (v := (0 : Int64)) dX12_leaveNothing_21 rfl rfl ?_
          refine xs_lif_lt (n := 26) (pc1 := 23) (tgt := 30) dX12_leaveNothing_22 rfl dX12_leaveNothing_23 rfl rfl (fun hc6 => ?_) (fun hc6 => ?_)
          · refine xs_iconst (n := 31) (v := (0 : Int32)) dX12_leaveNothing_30 rfl rfl ?_
            exact xs_gf (xs_end (kj2 ((0 : Int32)))) (And.intro rfl (And.intro rfl (And.intro rfl (And.intro rfl (And.intro rfl (And.intro rfl (And.intro rfl (And.intro rfl (And.intro rfl trivial)))))))))
          · refine xs_iconst (n := 27) (v := (1 : Int32)) dX12_leaveNothing_26 rfl rfl ?_
            refine xs_goto (n := 31) dX12_leaveNothing_27 rfl ?_
            exact xs_gf (xs_end (kj2 ((1 : Int32)))) (And.intro rfl (And.intro rfl (And.intro rfl (And.intro rfl (And.intro rfl (And.intro rfl (And.intro rfl (And.intro rfl (And.intro rfl trivial)))))))))
def lp_X12_threeLeaveNothing_17 (m : Nat) (c1 : Int32) (c2 : Int32) (c3 : Int32) : Nat → Int32 → xm_Y → Option ((Int32 × xm_Y) ⊕ (Int32 × xm_Y))
  | 0, _, _ => none
  | n + 1, l4, u0 =>
  if (3 : Int32) ≤ l4 then (
  some (.inr (l4, u0))) else (
  ((fn_X12_cross m c2 c3 l4 u0).bind fun q4 =>
  ((fn_X12_cross m c3 c1 l4 q4.2).bind fun q5 =>
  ((fn_X12_cross m c1 c2 l4 q5.2).bind fun q6 =>
  if q4.1 = (0 : Int64) then (
  if q5.1 = (0 : Int64) then (
  if q6.1 = (0 : Int64) then (
  xm_let (α := Int32) (l4 + (1 : Int32)) fun v10 =>
  lp_X12_threeLeaveNothing_17 m c1 c2 c3 n v10 q6.2) else (
  ((fn_X12_leaveNothing m q4.1 q5.1 q6.1 (0 : Int64) c1 c2 c3 c1 q6.2).bind fun q11 =>
  xm_chk (q11.1 = 0 ∨ q11.1 = 1) (some (.inl (q11.1, q11.2)))))) else (
  ((fn_X12_leaveNothing m q4.1 q5.1 q6.1 (0 : Int64) c1 c2 c3 c1 q6.2).bind fun q12 =>
  xm_chk (q12.1 = 0 ∨ q12.1 = 1) (some (.inl (q12.1, q12.2)))))) else (
  ((fn_X12_leaveNothing m q4.1 q5.1 q6.1 (0 : Int64) c1 c2 c3 c1 q6.2).bind fun q13 =>
  xm_chk (q13.1 = 0 ∨ q13.1 = 1) (some (.inl (q13.1, q13.2)))))))))
def fn_X12_threeLeaveNothing (m : Nat) (x0 : Int32) (x1 : Int32) (x2 : Int32) (u0 : xm_Y) : Option (Int32 × xm_Y) :=
  ((fn_X12_determinant m x0 x1 x2 u0).bind fun q1 =>
  if q1.1 = (0 : Int64) then (
  ((lp_X12_threeLeaveNothing_17 m x0 x1 x2 m (0 : Int32) q1.2).bind (Sum.elim (fun r => some r) (fun q14 =>
  some ((0 : Int32), q14.2))))) else (
  some ((0 : Int32), q1.2)))
theorem el_X12_threeLeaveNothing_17 (m : Nat) (c1 : Int32) (c2 : Int32) (c3 : Int32) (K : (Int32 × xm_Y) ⊕ (Int32 × xm_Y) → Option (Int32 × xm_Y)) (hK : ∀ r, K (.inl r) = some r) (kE : ∀ q : Int32 × xm_Y, xs_ (fun x : Int32 => some (.int x)) sg_0 mt_X12_threeLeaveNothing 96 [none, none, none, none, none, none, none, none, none, none, none] [] q.2 0 0 (K (.inr q))) : ∀ (n : Nat) (l4 : Int32) (u0 : xm_Y), xs_ (fun x : Int32 => some (.int x)) sg_0 mt_X12_threeLeaveNothing 17 [some (.ref 150), some (.int c1), some (.int c2), some (.int c3), some (.int l4), none, none, none, none, none, none] [] u0 0 0 ((lp_X12_threeLeaveNothing_17 m c1 c2 c3 n l4 u0).bind K) := by
  intro n
  induction n with
  | zero =>
    intro l4 u0
    exact xs_none
  | succ n ih =>
    intro l4 u0
    rw [lp_X12_threeLeaveNothing_17]
    refine xs_iload (n := 19) dX12_threeLeaveNothing_17 rfl rfl ?_
    refine xs_iconst (n := 20) (v := (3 : Int32)) dX12_threeLeaveNothing_19 rfl rfl ?_
    refine xs_icmp_ge (n := 23) (tgt := 96) dX12_threeLeaveNothing_20 rfl rfl (fun hc3 => ?_) (fun hc3 => ?_)
    · exact xs_gf (xs_end (kE (l4, u0))) trivial
    · refine xs_aload_n (n := 24) dX12_threeLeaveNothing_23 rfl rfl ?_
      refine xs_iload_n (n := 25) dX12_threeLeaveNothing_24 rfl rfl ?_
      refine xs_iload_n (n := 26) dX12_threeLeaveNothing_25 rfl rfl ?_
      refine xs_iload (n := 28) dX12_threeLeaveNothing_26 rfl rfl ?_
      refine ys_callvl (n := 31) (N := mt_X12_cross) dX12_threeLeaveNothing_28 rfl ok_X12_cross tw_1137 im_X12_cross se_X12_cross ⟨Nat.le_of_ble_eq_true rfl, Nat.le_of_ble_eq_true rfl⟩ [.int c2, .int c3, .int l4] [] rfl rfl (Nat.le_of_ble_eq_true rfl) rfl (Nat.le_of_ble_eq_true rfl) (en_X12_cross m c2 c3 l4 u0) sh_150 (by decide) rfl (fun q4 => ?_)
      refine xs_lstore (n := 33) (lv' := [some (.ref 150), some (.int c1), some (.int c2), some (.int c3), some (.int l4), some (.long q4.1), none, none, none, none, none]) dX12_threeLeaveNothing_31 rfl (Nat.le_of_ble_eq_true rfl) rfl ?_
      refine xs_aload_n (n := 34) dX12_threeLeaveNothing_33 rfl rfl ?_
      refine xs_iload_n (n := 35) dX12_threeLeaveNothing_34 rfl rfl ?_
      refine xs_iload_n (n := 36) dX12_threeLeaveNothing_35 rfl rfl ?_
      refine xs_iload (n := 38) dX12_threeLeaveNothing_36 rfl rfl ?_
      refine ys_callvl (n := 41) (N := mt_X12_cross) dX12_threeLeaveNothing_38 rfl ok_X12_cross tw_1137 im_X12_cross se_X12_cross ⟨Nat.le_of_ble_eq_true rfl, Nat.le_of_ble_eq_true rfl⟩ [.int c3, .int c1, .int l4] [] rfl rfl (Nat.le_of_ble_eq_true rfl) rfl (Nat.le_of_ble_eq_true rfl) (en_X12_cross m c3 c1 l4 q4.2) sh_150 (by decide) rfl (fun q5 => ?_)
      refine xs_lstore (n := 43) (lv' := [some (.ref 150), some (.int c1), some (.int c2), some (.int c3), some (.int l4), some (.long q4.1), none, some (.long q5.1), none, none, none]) dX12_threeLeaveNothing_41 rfl (Nat.le_of_ble_eq_true rfl) rfl ?_
      refine xs_aload_n (n := 44) dX12_threeLeaveNothing_43 rfl rfl ?_
      refine xs_iload_n (n := 45) dX12_threeLeaveNothing_44 rfl rfl ?_
      refine xs_iload_n (n := 46) dX12_threeLeaveNothing_45 rfl rfl ?_
      refine xs_iload (n := 48) dX12_threeLeaveNothing_46 rfl rfl ?_
      refine ys_callvl (n := 51) (N := mt_X12_cross) dX12_threeLeaveNothing_48 rfl ok_X12_cross tw_1137 im_X12_cross se_X12_cross ⟨Nat.le_of_ble_eq_true rfl, Nat.le_of_ble_eq_true rfl⟩ [.int c1, .int c2, .int l4] [] rfl rfl (Nat.le_of_ble_eq_true rfl) rfl (Nat.le_of_ble_eq_true rfl) (en_X12_cross m c1 c2 l4 q5.2) sh_150 (by decide) rfl (fun q6 => ?_)
      refine xs_lstore (n := 53) (lv' := [some (.ref 150), some (.int c1), some (.int c2), some (.int c3), some (.int l4), some (.long q4.1), none, some (.long q5.1), none, some (.long q6.1), none]) dX12_threeLeaveNothing_51 rfl (Nat.le_of_ble_eq_true rfl) rfl ?_
      refine xs_lload (n := 55) dX12_threeLeaveNothing_53 rfl rfl ?_
      refine xs_lconst (n := 56) (v := (0 : Int64)) dX12_threeLeaveNothing_55 rfl rfl ?_
      refine xs_lif_ne (n := 60) (pc1 := 57) (tgt := 74) dX12_threeLeaveNothing_56 rfl dX12_threeLeaveNothing_57 rfl rfl (fun hc7 => ?_) (fun hc7 => ?_)
      · refine xs_lload (n := 62) dX12_threeLeaveNothing_60 rfl rfl ?_
        refine xs_lconst (n := 63) (v := (0 : Int64)) dX12_threeLeaveNothing_62 rfl rfl ?_
        refine xs_lif_ne (n := 67) (pc1 := 64) (tgt := 74) dX12_threeLeaveNothing_63 rfl dX12_threeLeaveNothing_64 rfl rfl (fun hc8 => ?_) (fun hc8 => ?_)
        · refine xs_lload (n := 69) dX12_threeLeaveNothing_67 rfl rfl ?_
          refine xs_lconst (n := 70) (v := (0 : Int64)) dX12_threeLeaveNothing_69 rfl rfl ?_
          refine xs_lif_eq (n := 74) (pc1 := 71) (tgt := 90) dX12_threeLeaveNothing_70 rfl dX12_threeLeaveNothing_71 rfl rfl (fun hc9 => ?_) (fun hc9 => ?_)
          · refine xs_iincl (n := 93) (dv := (1 : Int32)) (fun v10 => [some (.ref 150), some (.int c1), some (.int c2), some (.int c3), some (.int v10), some (.long q4.1), none, some (.long q5.1), none, some (.long q6.1), none]) dX12_threeLeaveNothing_90 rfl rfl rfl (Nat.le_of_ble_eq_true rfl) (fun _ => rfl) (fun v10 => ?_)
            refine xs_goto (n := 17) dX12_threeLeaveNothing_93 rfl ?_
            exact xs_gf (ih v10 q6.2) (And.intro rfl (And.intro rfl (And.intro rfl (And.intro rfl (And.intro rfl trivial)))))
          · refine xs_aload_n (n := 75) dX12_threeLeaveNothing_74 rfl rfl ?_
            refine xs_lload (n := 77) dX12_threeLeaveNothing_75 rfl rfl ?_
            refine xs_lload (n := 79) dX12_threeLeaveNothing_77 rfl rfl ?_
            refine xs_lload (n := 81) dX12_threeLeaveNothing_79 rfl rfl ?_
            refine xs_lconst (n := 82) (v := (0 : Int64)) dX12_threeLeaveNothing_81 rfl rfl ?_
            refine xs_iload_n (n := 83) dX12_threeLeaveNothing_82 rfl rfl ?_
            refine xs_iload_n (n := 84) dX12_threeLeaveNothing_83 rfl rfl ?_
            refine xs_iload_n (n := 85) dX12_threeLeaveNothing_84 rfl rfl ?_
            refine xs_iload_n (n := 86) dX12_threeLeaveNothing_85 rfl rfl ?_
            refine ys_callvi (n := 89) (N := mt_X12_leaveNothing) dX12_threeLeaveNothing_86 rfl ok_X12_leaveNothing tw_1150 im_X12_leaveNothing se_X12_leaveNothing ⟨Nat.le_of_ble_eq_true rfl, Nat.le_of_ble_eq_true rfl⟩ [.long q4.1, .long q5.1, .long q6.1, .long (0 : Int64), .int c1, .int c2, .int c3, .int c1] [] rfl rfl (Nat.le_of_ble_eq_true rfl) rfl (Nat.le_of_ble_eq_true rfl) (en_X12_leaveNothing m q4.1 q5.1 q6.1 (0 : Int64) c1 c2 c3 c1 q6.2) sh_150 (by decide) rfl (fun q11 => ?_)
            exact xs_zret dX12_threeLeaveNothing_89 rfl (hK _)
        · refine xs_aload_n (n := 75) dX12_threeLeaveNothing_74 rfl rfl ?_
          refine xs_lload (n := 77) dX12_threeLeaveNothing_75 rfl rfl ?_
          refine xs_lload (n := 79) dX12_threeLeaveNothing_77 rfl rfl ?_
          refine xs_lload (n := 81) dX12_threeLeaveNothing_79 rfl rfl ?_
          refine xs_lconst (n := 82) (v := (0 : Int64)) dX12_threeLeaveNothing_81 rfl rfl ?_
          refine xs_iload_n (n := 83) dX12_threeLeaveNothing_82 rfl rfl ?_
          refine xs_iload_n (n := 84) dX12_threeLeaveNothing_83 rfl rfl ?_
          refine xs_iload_n (n := 85) dX12_threeLeaveNothing_84 rfl rfl ?_
          refine xs_iload_n (n := 86) dX12_threeLeaveNothing_85 rfl rfl ?_
          refine ys_callvi (n := 89) (N := mt_X12_leaveNothing) dX12_threeLeaveNothing_86 rfl ok_X12_leaveNothing tw_1150 im_X12_leaveNothing se_X12_leaveNothing ⟨Nat.le_of_ble_eq_true rfl, Nat.le_of_ble_eq_true rfl⟩ [.long q4.1, .long q5.1, .long q6.1, .long (0 : Int64), .int c1, .int c2, .int c3, .int c1] [] rfl rfl (Nat.le_of_ble_eq_true rfl) rfl (Nat.le_of_ble_eq_true rfl) (en_X12_leaveNothing m q4.1 q5.1 q6.1 (0 : Int64) c1 c2 c3 c1 q6.2) sh_150 (by decide) rfl (fun q12 => ?_)
          exact xs_zret dX12_threeLeaveNothing_89 rfl (hK _)
      · refine xs_aload_n (n := 75) dX12_threeLeaveNothing_74 rfl rfl ?_
        refine xs_lload (n := 77) dX12_threeLeaveNothing_75 rfl rfl ?_
        refine xs_lload (n := 79) dX12_threeLeaveNothing_77 rfl rfl ?_
        refine xs_lload (n := 81) dX12_threeLeaveNothing_79 rfl rfl ?_
        refine xs_lconst (n := 82) (v := (0 : Int64)) dX12_threeLeaveNothing_81 rfl rfl ?_
        refine xs_iload_n (n := 83) dX12_threeLeaveNothing_82 rfl rfl ?_
        refine xs_iload_n (n := 84) dX12_threeLeaveNothing_83 rfl rfl ?_
        refine xs_iload_n (n := 85) dX12_threeLeaveNothing_84 rfl rfl ?_
        refine xs_iload_n (n := 86) dX12_threeLeaveNothing_85 rfl rfl ?_
        refine ys_callvi (n := 89) (N := mt_X12_leaveNothing) dX12_threeLeaveNothing_86 rfl ok_X12_leaveNothing tw_1150 im_X12_leaveNothing se_X12_leaveNothing ⟨Nat.le_of_ble_eq_true rfl, Nat.le_of_ble_eq_true rfl⟩ [.long q4.1, .long q5.1, .long q6.1, .long (0 : Int64), .int c1, .int c2, .int c3, .int c1] [] rfl rfl (Nat.le_of_ble_eq_true rfl) rfl (Nat.le_of_ble_eq_true rfl) (en_X12_leaveNothing m q4.1 q5.1 q6.1 (0 : Int64) c1 c2 c3 c1 q6.2) sh_150 (by decide) rfl (fun q13 => ?_)
        exact xs_zret dX12_threeLeaveNothing_89 rfl (hK _)
theorem en_X12_threeLeaveNothing (m : Nat) (x0 : Int32) (x1 : Int32) (x2 : Int32) (u0 : xm_Y) : xs_ (fun x : Int32 => some (.int x)) sg_0 mt_X12_threeLeaveNothing 0 [some (.ref 150), some (.int x0), some (.int x1), some (.int x2), none, none, none, none, none, none, none] [] u0 0 0 (fn_X12_threeLeaveNothing m x0 x1 x2 u0) := by
  refine xs_top ?_
  rw [fn_X12_threeLeaveNothing]
  refine xs_aload_n (n := 1) dX12_threeLeaveNothing_0 rfl rfl ?_
  refine xs_iload_n (n := 2) dX12_threeLeaveNothing_1 rfl rfl ?_
  refine xs_iload_n (n := 3) dX12_threeLeaveNothing_2 rfl rfl ?_
  refine xs_iload_n (n := 4) dX12_threeLeaveNothing_3 rfl rfl ?_
  refine ys_callvl (n := 7) (N := mt_X12_determinant) dX12_threeLeaveNothing_4 rfl ok_X12_determinant tw_1146 im_X12_determinant se_X12_determinant ⟨Nat.le_of_ble_eq_true rfl, Nat.le_of_ble_eq_true rfl⟩ [.int x0, .int x1, .int x2] [] rfl rfl (Nat.le_of_ble_eq_true rfl) rfl (Nat.le_of_ble_eq_true rfl) (en_X12_determinant m x0 x1 x2 u0) sh_150 (by decide) rfl (fun q1 => ?_)
  refine xs_lconst (n := 8) (v := (0 : Int64)) dX12_threeLeaveNothing_7 rfl rfl ?_
  refine xs_lif_eq (n := 12) (pc1 := 9) (tgt := 14) dX12_threeLeaveNothing_8 rfl dX12_threeLeaveNothing_9 rfl rfl (fun hc2 => ?_) (fun hc2 => ?_)
  · refine xs_iconst (n := 15) (v := (0 : Int32)) dX12_threeLeaveNothing_14 rfl rfl ?_
    refine xs_istore (n := 17) (lv' := [some (.ref 150), some (.int x0), some (.int x1), some (.int x2), some (.int (0 : Int32)), none, none, none, none, none, none]) dX12_threeLeaveNothing_15 rfl (Nat.le_of_ble_eq_true rfl) rfl ?_
    refine xs_reg ?_
    refine xs_fg (lv' := [some (.ref 150), some (.int x0), some (.int x1), some (.int x2), some (.int (0 : Int32)), none, none, none, none, none, none]) (And.intro rfl (And.intro rfl (And.intro rfl (And.intro rfl (And.intro rfl trivial))))) ?_
    refine el_X12_threeLeaveNothing_17 m x0 x1 x2 _ (fun _ => rfl) (fun q14 => ?_) m (0 : Int32) q1.2
    refine xs_inr ?_
    refine xs_iconst (n := 97) (v := (0 : Int32)) dX12_threeLeaveNothing_96 rfl rfl ?_
    exact xs_zretc dX12_threeLeaveNothing_97 rfl (Or.inl rfl) rfl
  · refine xs_iconst (n := 13) (v := (0 : Int32)) dX12_threeLeaveNothing_12 rfl rfl ?_
    exact xs_zretc dX12_threeLeaveNothing_13 rfl (Or.inl rfl) rfl
def fn_X12_fourLeaveNothing (m : Nat) (x0 : Int32) (x1 : Int32) (x2 : Int32) (x3 : Int32) (u0 : xm_Y) : Option (Int32 × xm_Y) :=
  ((fn_X12_determinant m x1 x2 x3 u0).bind fun q1 =>
  ((fn_X12_determinant m x0 x2 x3 q1.2).bind fun q2 =>
  xm_let (α := Int64) ((-q2.1)) fun v3 =>
  ((fn_X12_determinant m x0 x1 x3 q2.2).bind fun q4 =>
  ((fn_X12_determinant m x0 x1 x2 q4.2).bind fun q5 =>
  xm_let (α := Int64) ((-q5.1)) fun v6 =>
  ((if q1.1 = (0 : Int64) then (
  if v3 = (0 : Int64) then (
  if q4.1 = (0 : Int64) then (
  if v6 = (0 : Int64) then (
  some ((0 : Int32), q5.2)) else (
  ((fn_X12_leaveNothing m q1.1 v3 q4.1 v6 x0 x1 x2 x3 q5.2).bind fun q13 =>
  if q13.1 = 0 then (
  some ((0 : Int32), q13.2)) else (
  some ((1 : Int32), q13.2))))) else (
  ((fn_X12_leaveNothing m q1.1 v3 q4.1 v6 x0 x1 x2 x3 q5.2).bind fun q15 =>
  if q15.1 = 0 then (
  some ((0 : Int32), q15.2)) else (
  some ((1 : Int32), q15.2))))) else (
  ((fn_X12_leaveNothing m q1.1 v3 q4.1 v6 x0 x1 x2 x3 q5.2).bind fun q17 =>
  if q17.1 = 0 then (
  some ((0 : Int32), q17.2)) else (
  some ((1 : Int32), q17.2))))) else (
  ((fn_X12_leaveNothing m q1.1 v3 q4.1 v6 x0 x1 x2 x3 q5.2).bind fun q19 =>
  if q19.1 = 0 then (
  some ((0 : Int32), q19.2)) else (
  some ((1 : Int32), q19.2)))) : Option (Int32 × xm_Y)).bind fun q7 =>
  xm_chk (q7.1 = 0 ∨ q7.1 = 1) (some (q7.1, q7.2)))))))
theorem en_X12_fourLeaveNothing (m : Nat) (x0 : Int32) (x1 : Int32) (x2 : Int32) (x3 : Int32) (u0 : xm_Y) : xs_ (fun x : Int32 => some (.int x)) sg_0 mt_X12_fourLeaveNothing 0 [some (.ref 150), some (.int x0), some (.int x1), some (.int x2), some (.int x3), none, none, none, none, none, none, none, none] [] u0 0 0 (fn_X12_fourLeaveNothing m x0 x1 x2 x3 u0) := by
  refine xs_top ?_
  rw [fn_X12_fourLeaveNothing]
  refine xs_aload_n (n := 1) dX12_fourLeaveNothing_0 rfl rfl ?_
  refine xs_iload_n (n := 2) dX12_fourLeaveNothing_1 rfl rfl ?_
  refine xs_iload_n (n := 3) dX12_fourLeaveNothing_2 rfl rfl ?_
  refine xs_iload (n := 5) dX12_fourLeaveNothing_3 rfl rfl ?_
  refine ys_callvl (n := 8) (N := mt_X12_determinant) dX12_fourLeaveNothing_5 rfl ok_X12_determinant tw_1146 im_X12_determinant se_X12_determinant ⟨Nat.le_of_ble_eq_true rfl, Nat.le_of_ble_eq_true rfl⟩ [.int x1, .int x2, .int x3] [] rfl rfl (Nat.le_of_ble_eq_true rfl) rfl (Nat.le_of_ble_eq_true rfl) (en_X12_determinant m x1 x2 x3 u0) sh_150 (by decide) rfl (fun q1 => ?_)
  refine xs_lstore (n := 10) (lv' := [some (.ref 150), some (.int x0), some (.int x1), some (.int x2), some (.int x3), some (.long q1.1), none, none, none, none, none, none, none]) dX12_fourLeaveNothing_8 rfl (Nat.le_of_ble_eq_true rfl) rfl ?_
  refine xs_aload_n (n := 11) dX12_fourLeaveNothing_10 rfl rfl ?_
  refine xs_iload_n (n := 12) dX12_fourLeaveNothing_11 rfl rfl ?_
  refine xs_iload_n (n := 13) dX12_fourLeaveNothing_12 rfl rfl ?_
  refine xs_iload (n := 15) dX12_fourLeaveNothing_13 rfl rfl ?_
  refine ys_callvl (n := 18) (N := mt_X12_determinant) dX12_fourLeaveNothing_15 rfl ok_X12_determinant tw_1146 im_X12_determinant se_X12_determinant ⟨Nat.le_of_ble_eq_true rfl, Nat.le_of_ble_eq_true rfl⟩ [.int x0, .int x2, .int x3] [] rfl rfl (Nat.le_of_ble_eq_true rfl) rfl (Nat.le_of_ble_eq_true rfl) (en_X12_determinant m x0 x2 x3 q1.2) sh_150 (by decide) rfl (fun q2 => ?_)
  refine xs_lneg (n := 19) dX12_fourLeaveNothing_18 rfl ?_
  refine xs_letl (fun v3 => ?_)
  refine xs_lstore (n := 21) (lv' := [some (.ref 150), some (.int x0), some (.int x1), some (.int x2), some (.int x3), some (.long q1.1), none, some (.long v3), none, none, none, none, none]) dX12_fourLeaveNothing_19 rfl (Nat.le_of_ble_eq_true rfl) rfl ?_
  refine xs_aload_n (n := 22) dX12_fourLeaveNothing_21 rfl rfl ?_
  refine xs_iload_n (n := 23) dX12_fourLeaveNothing_22 rfl rfl ?_
  refine xs_iload_n (n := 24) dX12_fourLeaveNothing_23 rfl rfl ?_
  refine xs_iload (n := 26) dX12_fourLeaveNothing_24 rfl rfl ?_
  refine ys_callvl (n := 29) (N := mt_X12_determinant) dX12_fourLeaveNothing_26 rfl ok_X12_determinant tw_1146 im_X12_determinant se_X12_determinant ⟨Nat.le_of_ble_eq_true rfl, Nat.le_of_ble_eq_true rfl⟩ [.int x0, .int x1, .int x3] [] rfl rfl (Nat.le_of_ble_eq_true rfl) rfl (Nat.le_of_ble_eq_true rfl) (en_X12_determinant m x0 x1 x3 q2.2) sh_150 (by decide) rfl (fun q4 => ?_)
  refine xs_lstore (n := 31) (lv' := [some (.ref 150), some (.int x0), some (.int x1), some (.int x2), some (.int x3), some (.long q1.1), none, some (.long v3), none, some (.long q4.1), none, none, none]) dX12_fourLeaveNothing_29 rfl (Nat.le_of_ble_eq_true rfl) rfl ?_
  refine xs_aload_n (n := 32) dX12_fourLeaveNothing_31 rfl rfl ?_
  refine xs_iload_n (n := 33) dX12_fourLeaveNothing_32 rfl rfl ?_
  refine xs_iload_n (n := 34) dX12_fourLeaveNothing_33 rfl rfl ?_
  refine xs_iload_n (n := 35) dX12_fourLeaveNothing_34 rfl rfl ?_
  refine ys_callvl (n := 38) (N := mt_X12_determinant) dX12_fourLeaveNothing_35 rfl ok_X12_determinant tw_1146 im_X12_determinant se_X12_determinant ⟨Nat.le_of_ble_eq_true rfl, Nat.le_of_ble_eq_true rfl⟩ [.int x0, .int x1, .int x2] [] rfl rfl (Nat.le_of_ble_eq_true rfl) rfl (Nat.le_of_ble_eq_true rfl) (en_X12_determinant m x0 x1 x2 q4.2) sh_150 (by decide) rfl (fun q5 => ?_)
  refine xs_lneg (n := 39) dX12_fourLeaveNothing_38 rfl ?_
  refine xs_letl (fun v6 => ?_)
  refine xs_lstore (n := 41) (lv' := [some (.ref 150), some (.int x0), some (.int x1), some (.int x2), some (.int x3), some (.long q1.1), none, some (.long v3), none, some (.long q4.1), none, some (.long v6), none]) dX12_fourLeaveNothing_39 rfl (Nat.le_of_ble_eq_true rfl) rfl ?_
  refine xs_lload (n := 43) dX12_fourLeaveNothing_41 rfl rfl ?_
  refine xs_lconst (n := 44) (v := (0 : Int64)) dX12_fourLeaveNothing_43 rfl rfl ?_
  refine xs_join 94 (fun q7 => [none, none, none, none, none, none, none, none, none, none, none, none, none]) (fun q7 => [.int q7.1]) (fun q7 => q7.2) (fun q7 => ?_) (fun kj8 => ?_)
  · exact xs_zret dX12_fourLeaveNothing_94 rfl rfl
  · refine xs_lif_ne (n := 48) (pc1 := 45) (tgt := 69) dX12_fourLeaveNothing_44 rfl dX12_fourLeaveNothing_45 rfl rfl (fun hc9 => ?_) (fun hc9 => ?_)
    · refine xs_lload (n := 50) dX12_fourLeaveNothing_48 rfl rfl ?_
      refine xs_lconst (n := 51) (v := (0 : Int64)) dX12_fourLeaveNothing_50 rfl rfl ?_
      refine xs_lif_ne (n := 55) (pc1 := 52) (tgt := 69) dX12_fourLeaveNothing_51 rfl dX12_fourLeaveNothing_52 rfl rfl (fun hc10 => ?_) (fun hc10 => ?_)
      · refine xs_lload (n := 57) dX12_fourLeaveNothing_55 rfl rfl ?_
        refine xs_lconst (n := 58) (v := (0 : Int64)) dX12_fourLeaveNothing_57 rfl rfl ?_
        refine xs_lif_ne (n := 62) (pc1 := 59) (tgt := 69) dX12_fourLeaveNothing_58 rfl dX12_fourLeaveNothing_59 rfl rfl (fun hc11 => ?_) (fun hc11 => ?_)
        · refine xs_lload (n := 64) dX12_fourLeaveNothing_62 rfl rfl ?_
          refine xs_lconst (n := 65) (v := (0 : Int64)) dX12_fourLeaveNothing_64 rfl rfl ?_
          refine xs_lif_eq (n := 69) (pc1 := 66) (tgt := 93) dX12_fourLeaveNothing_65 rfl dX12_fourLeaveNothing_66 rfl rfl (fun hc12 => ?_) (fun hc12 => ?_)
          · refine xs_iconst (n := 94) (v := (0 : Int32)) dX12_fourLeaveNothing_93 rfl rfl ?_
            exact xs_gf (xs_end (kj8 ((0 : Int32), q5.2))) trivial
          · refine xs_aload_n (n := 70) dX12_fourLeaveNothing_69 rfl rfl ?_
            refine xs_lload (n := 72) dX12_fourLeaveNothing_70 rfl rfl ?_
            refine xs_lload (n := 74) dX12_fourLeaveNothing_72 rfl rfl ?_
            refine xs_lload (n := 76) dX12_fourLeaveNothing_74 rfl rfl ?_
            refine xs_lload (n := 78) dX12_fourLeaveNothing_76 rfl rfl ?_
            refine xs_iload_n (n := 79) dX12_fourLeaveNothing_78 rfl rfl ?_
            refine xs_iload_n (n := 80) dX12_fourLeaveNothing_79 rfl rfl ?_
            refine xs_iload_n (n := 81) dX12_fourLeaveNothing_80 rfl rfl ?_
            refine xs_iload (n := 83) dX12_fourLeaveNothing_81 rfl rfl ?_
            refine ys_callvi (n := 86) (N := mt_X12_leaveNothing) dX12_fourLeaveNothing_83 rfl ok_X12_leaveNothing tw_1150 im_X12_leaveNothing se_X12_leaveNothing ⟨Nat.le_of_ble_eq_true rfl, Nat.le_of_ble_eq_true rfl⟩ [.long q1.1, .long v3, .long q4.1, .long v6, .int x0, .int x1, .int x2, .int x3] [] rfl rfl (Nat.le_of_ble_eq_true rfl) rfl (Nat.le_of_ble_eq_true rfl) (en_X12_leaveNothing m q1.1 v3 q4.1 v6 x0 x1 x2 x3 q5.2) sh_150 (by decide) rfl (fun q13 => ?_)
            refine xs_if_eq (n := 89) (tgt := 93) dX12_fourLeaveNothing_86 rfl rfl (fun hc14 => ?_) (fun hc14 => ?_)
            · refine xs_iconst (n := 94) (v := (0 : Int32)) dX12_fourLeaveNothing_93 rfl rfl ?_
              exact xs_gf (xs_end (kj8 ((0 : Int32), q13.2))) trivial
            · refine xs_iconst (n := 90) (v := (1 : Int32)) dX12_fourLeaveNothing_89 rfl rfl ?_
              refine xs_goto (n := 94) dX12_fourLeaveNothing_90 rfl ?_
              exact xs_gf (xs_end (kj8 ((1 : Int32), q13.2))) trivial
        · refine xs_aload_n (n := 70) dX12_fourLeaveNothing_69 rfl rfl ?_
          refine xs_lload (n := 72) dX12_fourLeaveNothing_70 rfl rfl ?_
          refine xs_lload (n := 74) dX12_fourLeaveNothing_72 rfl rfl ?_
          refine xs_lload (n := 76) dX12_fourLeaveNothing_74 rfl rfl ?_
          refine xs_lload (n := 78) dX12_fourLeaveNothing_76 rfl rfl ?_
          refine xs_iload_n (n := 79) dX12_fourLeaveNothing_78 rfl rfl ?_
          refine xs_iload_n (n := 80) dX12_fourLeaveNothing_79 rfl rfl ?_
          refine xs_iload_n (n := 81) dX12_fourLeaveNothing_80 rfl rfl ?_
          refine xs_iload (n := 83) dX12_fourLeaveNothing_81 rfl rfl ?_
          refine ys_callvi (n := 86) (N := mt_X12_leaveNothing) dX12_fourLeaveNothing_83 rfl ok_X12_leaveNothing tw_1150 im_X12_leaveNothing se_X12_leaveNothing ⟨Nat.le_of_ble_eq_true rfl, Nat.le_of_ble_eq_true rfl⟩ [.long q1.1, .long v3, .long q4.1, .long v6, .int x0, .int x1, .int x2, .int x3] [] rfl rfl (Nat.le_of_ble_eq_true rfl) rfl (Nat.le_of_ble_eq_true rfl) (en_X12_leaveNothing m q1.1 v3 q4.1 v6 x0 x1 x2 x3 q5.2) sh_150 (by decide) rfl (fun q15 => ?_)
          refine xs_if_eq (n := 89) (tgt := 93) dX12_fourLeaveNothing_86 rfl rfl (fun hc16 => ?_) (fun hc16 => ?_)
          · refine xs_iconst (n := 94) (v := (0 : Int32)) dX12_fourLeaveNothing_93 rfl rfl ?_
            exact xs_gf (xs_end (kj8 ((0 : Int32), q15.2))) trivial
          · refine xs_iconst (n := 90) (v := (1 : Int32)) dX12_fourLeaveNothing_89 rfl rfl ?_
            refine xs_goto (n := 94) dX12_fourLeaveNothing_90 rfl ?_
            exact xs_gf (xs_end (kj8 ((1 : Int32), q15.2))) trivial
      · refine xs_aload_n (n := 70) dX12_fourLeaveNothing_69 rfl rfl ?_
        refine xs_lload (n := 72) dX12_fourLeaveNothing_70 rfl rfl ?_
        refine xs_lload (n := 74) dX12_fourLeaveNothing_72 rfl rfl ?_
        refine xs_lload (n := 76) dX12_fourLeaveNothing_74 rfl rfl ?_
        refine xs_lload (n := 78) dX12_fourLeaveNothing_76 rfl rfl ?_
        refine xs_iload_n (n := 79) dX12_fourLeaveNothing_78 rfl rfl ?_
        refine xs_iload_n (n := 80) dX12_fourLeaveNothing_79 rfl rfl ?_
        refine xs_iload_n (n := 81) dX12_fourLeaveNothing_80 rfl rfl ?_
        refine xs_iload (n := 83) dX12_fourLeaveNothing_81 rfl rfl ?_
        refine ys_callvi (n := 86) (N := mt_X12_leaveNothing) dX12_fourLeaveNothing_83 rfl ok_X12_leaveNothing tw_1150 im_X12_leaveNothing se_X12_leaveNothing ⟨Nat.le_of_ble_eq_true rfl, Nat.le_of_ble_eq_true rfl⟩ [.long q1.1, .long v3, .long q4.1, .long v6, .int x0, .int x1, .int x2, .int x3] [] rfl rfl (Nat.le_of_ble_eq_true rfl) rfl (Nat.le_of_ble_eq_true rfl) (en_X12_leaveNothing m q1.1 v3 q4.1 v6 x0 x1 x2 x3 q5.2) sh_150 (by decide) rfl (fun q17 => ?_)
        refine xs_if_eq (n := 89) (tgt := 93) dX12_fourLeaveNothing_86 rfl rfl (fun hc18 => ?_) (fun hc18 => ?_)
        · refine xs_iconst (n := 94) (v := (0 : Int32)) dX12_fourLeaveNothing_93 rfl rfl ?_
          exact xs_gf (xs_end (kj8 ((0 : Int32), q17.2))) trivial
        · refine xs_iconst (n := 90) (v := (1 : Int32)) dX12_fourLeaveNothing_89 rfl rfl ?_
          refine xs_goto (n := 94) dX12_fourLeaveNothing_90 rfl ?_
          exact xs_gf (xs_end (kj8 ((1 : Int32), q17.2))) trivial
    · refine xs_aload_n (n := 70) dX12_fourLeaveNothing_69 rfl rfl ?_
      refine xs_lload (n := 72) dX12_fourLeaveNothing_70 rfl rfl ?_
      refine xs_lload (n := 74) dX12_fourLeaveNothing_72 rfl rfl ?_
      refine xs_lload (n := 76) dX12_fourLeaveNothing_74 rfl rfl ?_
      refine xs_lload (n := 78) dX12_fourLeaveNothing_76 rfl rfl ?_
      refine xs_iload_n (n := 79) dX12_fourLeaveNothing_78 rfl rfl ?_
      refine xs_iload_n (n := 80) dX12_fourLeaveNothing_79 rfl rfl ?_
      refine xs_iload_n (n := 81) dX12_fourLeaveNothing_80 rfl rfl ?_
      refine xs_iload (n := 83) dX12_fourLeaveNothing_81 rfl rfl ?_
      refine ys_callvi (n := 86) (N := mt_X12_leaveNothing) dX12_fourLeaveNothing_83 rfl ok_X12_leaveNothing tw_1150 im_X12_leaveNothing se_X12_leaveNothing ⟨Nat.le_of_ble_eq_true rfl, Nat.le_of_ble_eq_true rfl⟩ [.long q1.1, .long v3, .long q4.1, .long v6, .int x0, .int x1, .int x2, .int x3] [] rfl rfl (Nat.le_of_ble_eq_true rfl) rfl (Nat.le_of_ble_eq_true rfl) (en_X12_leaveNothing m q1.1 v3 q4.1 v6 x0 x1 x2 x3 q5.2) sh_150 (by decide) rfl (fun q19 => ?_)
      refine xs_if_eq (n := 89) (tgt := 93) dX12_fourLeaveNothing_86 rfl rfl (fun hc20 => ?_) (fun hc20 => ?_)
      · refine xs_iconst (n := 94) (v := (0 : Int32)) dX12_fourLeaveNothing_93 rfl rfl ?_
        exact xs_gf (xs_end (kj8 ((0 : Int32), q19.2))) trivial
      · refine xs_iconst (n := 90) (v := (1 : Int32)) dX12_fourLeaveNothing_89 rfl rfl ?_
        refine xs_goto (n := 94) dX12_fourLeaveNothing_90 rfl ?_
        exact xs_gf (xs_end (kj8 ((1 : Int32), q19.2))) trivial
