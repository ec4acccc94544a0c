def lp_X12_laySides_7 (m : Nat) (c1 : Int32) : Nat → Int32 → xm_Y → Option (Int32 × xm_Y)
  | 0, _, _ => none
  | n + 1, l2, u0 =>
  xm_chk (xm_in c1 5) (
  if (u0.1 151 (Int32.toNatClampNeg c1)) ≤ l2 then (
  some (l2, u0)) else (
  xm_let (α := Int32) (((((6 : Int32) * c1) + l2) * (4 : Int32))) fun v3 =>
  xm_chk (xm_in v3 120) (
  xm_chk (xm_in (v3 + (1 : Int32)) 120) (
  xm_chk (xm_in (v3 + (2 : Int32)) 120) (
  xm_chk (xm_in (v3 + (3 : Int32)) 120) (
  ((fn_X12_addSide m (Int32.toInt64 (u0.1 152 (Int32.toNatClampNeg v3))) (Int32.toInt64 (u0.1 152 (Int32.toNatClampNeg (v3 + (1 : Int32))))) (Int32.toInt64 (u0.1 152 (Int32.toNatClampNeg (v3 + (2 : Int32))))) (Int32.toInt64 (-(u0.1 152 (Int32.toNatClampNeg (v3 + (3 : Int32)))))) u0).bind fun q4 =>
  xm_let (α := Int32) (l2 + (1 : Int32)) fun v5 =>
  lp_X12_laySides_7 m c1 n v5 q4.2)))))))
def lp_X12_laySides_73 (m : Nat) : Nat → Int32 → xm_Y → Option (Int32 × xm_Y)
  | 0, _, _ => none
  | n + 1, l2, u0 =>
  if ((2 : Int32) * (u0.1 150 0)) ≤ l2 then (
  some (l2, u0)) else (
  xm_chk (xm_in l2 6) (
  ((if (u0.1 156 (Int32.toNatClampNeg l2)) = 0 then (
  xm_chk (¬ (2 : Int32) = 0) (
  ((if (l2 - l2 / (2 : Int32) * (2 : Int32)) = 0 then (
  some ((1 : Int64))) else (
  some ((-1 : Int64))) : Option (Int64)).bind fun q11 =>
  xm_chk (¬ (2 : Int32) = 0) (
  ((if (l2 / (2 : Int32)) = 0 then (
  some (q11)) else (
  some ((0 : Int64))) : Option (Int64)).bind fun q14 =>
  xm_chk (¬ (2 : Int32) = 0) (
  ((if (l2 / (2 : Int32)) = (1 : Int32) then (
  some (q11)) else (
  some ((0 : Int64))) : Option (Int64)).bind fun q17 =>
  xm_chk (¬ (2 : Int32) = 0) (
  ((if (l2 / (2 : Int32)) = (2 : Int32) then (
  some (q11)) else (
  some ((0 : Int64))) : Option (Int64)).bind fun q20 =>
  xm_chk (xm_in l2 6) (
  ((fn_X12_addSide m q14 q17 q20 (q11 * (u0.2 155 (Int32.toNatClampNeg l2))) u0).bind fun q23 =>
  some (q23.2)))))))))))) else (
  some (u0)) : Option (xm_Y)).bind fun q8 =>
  xm_let (α := Int32) (l2 + (1 : Int32)) fun v24 =>
  lp_X12_laySides_73 m n v24 q8)))
def lp_X12_laySides_281 (m : Nat) (c2 : Int32) (c3 : Int32) (c4 : Int32) : Nat → Int32 → xm_Y → Option (Int32 × xm_Y)
  | 0, _, _ => none
  | n + 1, l5, u0 =>
  if (u0.1 150 11) ≤ l5 then (
  some (l5, u0)) else (
  if (u0.1 150 17) = 0 then (
  ((fn_X12_fourLeaveNothing m c2 c3 c4 l5 u0).bind fun q48 =>
  xm_chk (q48.1 = 0 ∨ q48.1 = 1) (
  xm_let (w_I q48.2 150 17 q48.1) fun u49 =>
  xm_let (α := Int32) (l5 + (1 : Int32)) fun v50 =>
  lp_X12_laySides_281 m c2 c3 c4 n v50 u49))) else (
  some (l5, u0)))
def lp_X12_laySides_247 (m : Nat) (c2 : Int32) (c3 : Int32) : Nat → Int32 → xm_Y → Option (Int32 × xm_Y)
  | 0, _, _ => none
  | n + 1, l4, u0 =>
  if (u0.1 150 11) ≤ l4 then (
  some (l4, u0)) else (
  if (u0.1 150 17) = 0 then (
  ((fn_X12_threeLeaveNothing m c2 c3 l4 u0).bind fun q43 =>
  xm_chk (q43.1 = 0 ∨ q43.1 = 1) (
  xm_let (w_I q43.2 150 17 q43.1) fun u44 =>
  xm_let (α := Int32) ((l4 + (1 : Int32))) fun v45 =>
  ((lp_X12_laySides_281 m c2 c3 l4 m v45 u44).bind fun q51 =>
  xm_let (α := Int32) (l4 + (1 : Int32)) fun v52 =>
  lp_X12_laySides_247 m c2 c3 n v52 q51.2)))) else (
  some (l4, u0)))
def lp_X12_laySides_217 (m : Nat) (c2 : Int32) : Nat → Int32 → xm_Y → Option (Int32 × xm_Y)
  | 0, _, _ => none
  | n + 1, l3, u0 =>
  if (u0.1 150 11) ≤ l3 then (
  some (l3, u0)) else (
  if (u0.1 150 17) = 0 then (
  ((fn_X12_twoLeaveNothing m c2 l3 u0).bind fun q38 =>
  xm_chk (q38.1 = 0 ∨ q38.1 = 1) (
  xm_let (w_I q38.2 150 17 q38.1) fun u39 =>
  xm_let (α := Int32) ((l3 + (1 : Int32))) fun v40 =>
  ((lp_X12_laySides_247 m c2 l3 m v40 u39).bind fun q53 =>
  xm_let (α := Int32) (l3 + (1 : Int32)) fun v54 =>
  lp_X12_laySides_217 m c2 n v54 q53.2)))) else (
  some (l3, u0)))
def lp_X12_laySides_166 (m : Nat) : Nat → Int32 → xm_Y → Option (Int32 × xm_Y)
  | 0, _, _ => none
  | n + 1, l2, u0 =>
  if (u0.1 150 11) ≤ l2 then (
  some (l2, u0)) else (
  if (u0.1 150 17) = 0 then (
  ((fn_X12_isZero m l2 u0).bind fun q29 =>
  ((if q29.1 = 0 then (
  some ((0 : Int32))) else (
  xm_chk (xm_in (((4 : Int32) * l2) + (3 : Int32)) 48) (
  if (q29.2.2 159 (Int32.toNatClampNeg (((4 : Int32) * l2) + (3 : Int32)))) ≤ (0 : Int64) then (
  some ((0 : Int32))) else (
  some ((1 : Int32))))) : Option (Int32)).bind fun q30 =>
  xm_chk (q30 = 0 ∨ q30 = 1) (
  xm_let (w_I q29.2 150 17 q30) fun u34 =>
  xm_let (α := Int32) ((l2 + (1 : Int32))) fun v35 =>
  ((lp_X12_laySides_217 m l2 m v35 u34).bind fun q55 =>
  xm_let (α := Int32) (l2 + (1 : Int32)) fun v56 =>
  lp_X12_laySides_166 m n v56 q55.2))))) else (
  some (l2, u0)))
def fn_X12_laySides (m : Nat) (x0 : Int32) (u0 : xm_Y) : Option (Unit × xm_Y) :=
  xm_let (w_I u0 150 11 (0 : Int32)) fun u1 =>
  ((lp_X12_laySides_7 m x0 m (0 : Int32) u1).bind fun q6 =>
  ((lp_X12_laySides_73 m m (0 : Int32) q6.2).bind fun q25 =>
  xm_let (w_I q25.2 150 17 (0 : Int32)) fun u26 =>
  ((lp_X12_laySides_166 m m (0 : Int32) u26).bind fun q57 =>
  some ((), q57.2))))
theorem el_X12_laySides_7 (m : Nat) (c1 : Int32) (K : Int32 × xm_Y → Option (Unit × xm_Y)) (kE : ∀ q : Int32 × xm_Y, xs_ (fun _ : Unit => none) sg_0 mt_X12_laySides 71 [some (.ref 150), none, none, none, none, none] [] q.2 0 0 (K q)) : ∀ (n : Nat) (l2 : Int32) (u0 : xm_Y), xs_ (fun _ : Unit => none) sg_0 mt_X12_laySides 7 [some (.ref 150), some (.int c1), some (.int l2), none, none, none] [] u0 0 0 ((lp_X12_laySides_7 m c1 n l2 u0).bind K) := by
  intro n
  induction n with
  | zero =>
    intro l2 u0
    exact xs_none
  | succ n ih =>
    intro l2 u0
    rw [lp_X12_laySides_7]
    refine xs_iload_n (n := 8) dX12_laySides_7 rfl rfl ?_
    refine xs_aload_n (n := 9) dX12_laySides_8 rfl rfl ?_
    refine ys_getr (n := 12) dX12_laySides_9 rfl fl_X12_13 sh_150 rfl ?_
    refine xs_iload_n (n := 13) dX12_laySides_12 rfl rfl ?_
    refine ys_iaload (n := 14) dX12_laySides_13 rfl sh_151 ?_
    refine xs_icmp_ge (n := 17) (tgt := 71) dX12_laySides_14 rfl rfl (fun hc2 => ?_) (fun hc2 => ?_)
    · exact xs_gf (xs_end (kE (l2, u0))) (And.intro rfl trivial)
    · refine xs_bipush (n := 19) (v := (6 : Int32)) dX12_laySides_17 rfl rfl ?_
      refine xs_iload_n (n := 20) dX12_laySides_19 rfl rfl ?_
      refine xs_imul (n := 21) dX12_laySides_20 rfl ?_
      refine xs_iload_n (n := 22) dX12_laySides_21 rfl rfl ?_
      refine xs_iadd (n := 23) dX12_laySides_22 rfl ?_
      refine xs_iconst (n := 24) (v := (4 : Int32)) dX12_laySides_23 rfl rfl ?_
      refine xs_imul (n := 25) dX12_laySides_24 rfl ?_
      refine xs_leti (fun v3 => ?_)
      refine xs_istore_n (n := 26) (lv' := [some (.ref 150), some (.int c1), some (.int l2), some (.int v3), none, none]) dX12_laySides_25 rfl (Nat.le_of_ble_eq_true rfl) rfl ?_
      refine xs_aload_n (n := 27) dX12_laySides_26 rfl rfl ?_
      refine xs_aload_n (n := 28) dX12_laySides_27 rfl rfl ?_
      refine ys_getr (n := 31) dX12_laySides_28 rfl fl_X12_17 sh_150 rfl ?_
      refine xs_iload_n (n := 32) dX12_laySides_31 rfl rfl ?_
      refine ys_iaload (n := 33) dX12_laySides_32 rfl sh_152 ?_
      refine xs_i2l (n := 34) dX12_laySides_33 rfl ?_
      refine xs_aload_n (n := 35) dX12_laySides_34 rfl rfl ?_
      refine ys_getr (n := 38) dX12_laySides_35 rfl fl_X12_17 sh_150 rfl ?_
      refine xs_iload_n (n := 39) dX12_laySides_38 rfl rfl ?_
      refine xs_iconst (n := 40) (v := (1 : Int32)) dX12_laySides_39 rfl rfl ?_
      refine xs_iadd (n := 41) dX12_laySides_40 rfl ?_
      refine ys_iaload (n := 42) dX12_laySides_41 rfl sh_152 ?_
      refine xs_i2l (n := 43) dX12_laySides_42 rfl ?_
      refine xs_aload_n (n := 44) dX12_laySides_43 rfl rfl ?_
      refine ys_getr (n := 47) dX12_laySides_44 rfl fl_X12_17 sh_150 rfl ?_
      refine xs_iload_n (n := 48) dX12_laySides_47 rfl rfl ?_
      refine xs_iconst (n := 49) (v := (2 : Int32)) dX12_laySides_48 rfl rfl ?_
      refine xs_iadd (n := 50) dX12_laySides_49 rfl ?_
      refine ys_iaload (n := 51) dX12_laySides_50 rfl sh_152 ?_
      refine xs_i2l (n := 52) dX12_laySides_51 rfl ?_
      refine xs_aload_n (n := 53) dX12_laySides_52 rfl rfl ?_
      refine ys_getr (n := 56) dX12_laySides_53 rfl fl_X12_17 sh_150 rfl ?_
      refine xs_iload_n (n := 57) dX12_laySides_56 rfl rfl ?_
      refine xs_iconst (n := 58) (v := (3 : Int32)) dX12_laySides_57 rfl rfl ?_
      refine xs_iadd (n := 59) dX12_laySides_58 rfl ?_
      refine ys_iaload (n := 60) dX12_laySides_59 rfl sh_152 ?_
      refine xs_ineg (n := 61) dX12_laySides_60 rfl ?_
      refine xs_i2l (n := 62) dX12_laySides_61 rfl ?_
      refine ys_callvv (n := 65) (N := mt_X12_addSide) dX12_laySides_62 rfl ok_X12_addSide tw_1120 im_X12_addSide se_X12_addSide ⟨Nat.le_of_ble_eq_true rfl, Nat.le_of_ble_eq_true rfl⟩ [.long (Int32.toInt64 (u0.1 152 (Int32.toNatClampNeg v3))), .long (Int32.toInt64 (u0.1 152 (Int32.toNatClampNeg (v3 + (1 : Int32))))), .long (Int32.toInt64 (u0.1 152 (Int32.toNatClampNeg (v3 + (2 : Int32))))), .long (Int32.toInt64 (-(u0.1 152 (Int32.toNatClampNeg (v3 + (3 : Int32))))))] [] rfl rfl (Nat.le_of_ble_eq_true rfl) rfl (Nat.le_of_ble_eq_true rfl) (en_X12_addSide m (Int32.toInt64 (u0.1 152 (Int32.toNatClampNeg v3))) (Int32.toInt64 (u0.1 152 (Int32.toNatClampNeg (v3 + (1 : Int32))))) (Int32.toInt64 (u0.1 152 (Int32.toNatClampNeg (v3 + (2 : Int32))))) (Int32.toInt64 (-(u0.1 152 (Int32.toNatClampNeg (v3 + (3 : Int32)))))) u0) sh_150 (by decide) rfl (fun q4 => ?_)
      refine xs_iincl (n := 68) (dv := (1 : Int32)) (fun v5 => [some (.ref 150), some (.int c1), some (.int v5), some (.int v3), none, none]) dX12_laySides_65 rfl rfl rfl (Nat.le_of_ble_eq_true rfl) (fun _ => rfl) (fun v5 => ?_)
      refine xs_goto (n := 7) dX12_laySides_68 rfl ?_
      exact xs_gf (ih v5 q4.2) (And.intro rfl (And.intro rfl (And.intro rfl trivial)))
theorem el_X12_laySides_73 (m : Nat) (K : Int32 × xm_Y → Option (Unit × xm_Y)) (kE : ∀ q : Int32 × xm_Y, xs_ (fun _ : Unit => none) sg_0 mt_X12_laySides 159 [some (.ref 150), none, none, none, none, none] [] q.2 0 0 (K q)) : ∀ (n : Nat) (l2 : Int32) (u0 : xm_Y), xs_ (fun _ : Unit => none) sg_0 mt_X12_laySides 73 [some (.ref 150), none, some (.int l2), none, none, none] [] u0 0 0 ((lp_X12_laySides_73 m n l2 u0).bind K) := by
  intro n
  induction n with
  | zero =>
    intro l2 u0
    exact xs_none
  | succ n ih =>
    intro l2 u0
    rw [lp_X12_laySides_73]
    refine xs_iload_n (n := 74) dX12_laySides_73 rfl rfl ?_
    refine xs_iconst (n := 75) (v := (2 : Int32)) dX12_laySides_74 rfl rfl ?_
    refine xs_aload_n (n := 76) dX12_laySides_75 rfl rfl ?_
    refine ys_geti (n := 79) dX12_laySides_76 rfl fl_X12_7 (Or.inl rfl) sh_150 ?_
    refine xs_imul (n := 80) dX12_laySides_79 rfl ?_
    refine xs_icmp_ge (n := 83) (tgt := 159) dX12_laySides_80 rfl rfl (fun hc7 => ?_) (fun hc7 => ?_)
    · exact xs_gf (xs_end (kE (l2, u0))) (And.intro rfl trivial)
    · refine xs_aload_n (n := 84) dX12_laySides_83 rfl rfl ?_
      refine ys_getr (n := 87) dX12_laySides_84 rfl fl_X12_30 sh_150 rfl ?_
      refine xs_iload_n (n := 88) dX12_laySides_87 rfl rfl ?_
      refine ys_baload (n := 89) dX12_laySides_88 rfl sh_156 ?_
      refine xs_join 153 (fun q8 => [some (.ref 150), none, some (.int l2), none, none, none]) (fun q8 => []) (fun q8 => q8) (fun q8 => ?_) (fun kj9 => ?_)
      · refine xs_iincl (n := 156) (dv := (1 : Int32)) (fun v24 => [some (.ref 150), none, some (.int v24), none, none, none]) dX12_laySides_153 rfl rfl rfl (Nat.le_of_ble_eq_true rfl) (fun _ => rfl) (fun v24 => ?_)
        refine xs_goto (n := 73) dX12_laySides_156 rfl ?_
        exact xs_gf (ih v24 q8) (And.intro rfl (And.intro rfl trivial))
      · refine xs_if_ne (n := 92) (tgt := 153) dX12_laySides_89 rfl rfl (fun hc10 => ?_) (fun hc10 => ?_)
        · refine xs_iload_n (n := 93) dX12_laySides_92 rfl rfl ?_
          refine xs_iconst (n := 94) (v := (2 : Int32)) dX12_laySides_93 rfl rfl ?_
          refine xs_irem (n := 95) dX12_laySides_94 rfl (fun _ => ?_)
          refine xs_join 105 (fun q11 => [some (.ref 150), none, some (.int l2), none, none, none]) (fun q11 => [.long q11]) (fun q11 => u0) (fun q11 => ?_) (fun kj12 => ?_)
          · refine xs_lstore_n (n := 106) (lv' := [some (.ref 150), none, some (.int l2), some (.long q11), none, none]) dX12_laySides_105 rfl (Nat.le_of_ble_eq_true rfl) rfl ?_
            refine xs_aload_n (n := 107) dX12_laySides_106 rfl rfl ?_
            refine xs_iload_n (n := 108) dX12_laySides_107 rfl rfl ?_
            refine xs_iconst (n := 109) (v := (2 : Int32)) dX12_laySides_108 rfl rfl ?_
            refine xs_idiv (n := 110) dX12_laySides_109 rfl (fun _ => ?_)
            refine xs_join 118 (fun q14 => [some (.ref 150), none, some (.int l2), some (.long q11), none, none]) (fun q14 => [.long q14, .ref 150]) (fun q14 => u0) (fun q14 => ?_) (fun kj15 => ?_)
            · refine xs_iload_n (n := 119) dX12_laySides_118 rfl rfl ?_
              refine xs_iconst (n := 120) (v := (2 : Int32)) dX12_laySides_119 rfl rfl ?_
              refine xs_idiv (n := 121) dX12_laySides_120 rfl (fun _ => ?_)
              refine xs_iconst (n := 122) (v := (1 : Int32)) dX12_laySides_121 rfl rfl ?_
              refine xs_join 130 (fun q17 => [some (.ref 150), none, some (.int l2), some (.long q11), none, none]) (fun q17 => [.long q17, .long q14, .ref 150]) (fun q17 => u0) (fun q17 => ?_) (fun kj18 => ?_)
              · refine xs_iload_n (n := 131) dX12_laySides_130 rfl rfl ?_
                refine xs_iconst (n := 132) (v := (2 : Int32)) dX12_laySides_131 rfl rfl ?_
                refine xs_idiv (n := 133) dX12_laySides_132 rfl (fun _ => ?_)
                refine xs_iconst (n := 134) (v := (2 : Int32)) dX12_laySides_133 rfl rfl ?_
                refine xs_join 142 (fun q20 => [some (.ref 150), none, some (.int l2), some (.long q11), none, none]) (fun q20 => [.long q20, .long q17, .long q14, .ref 150]) (fun q20 => u0) (fun q20 => ?_) (fun kj21 => ?_)
                · refine xs_lload_n (n := 143) dX12_laySides_142 rfl rfl ?_
                  refine xs_aload_n (n := 144) dX12_laySides_143 rfl rfl ?_
                  refine ys_getr (n := 147) dX12_laySides_144 rfl fl_X12_27 sh_150 rfl ?_
                  refine xs_iload_n (n := 148) dX12_laySides_147 rfl rfl ?_
                  refine ys_laload (n := 149) dX12_laySides_148 rfl sh_155 ?_
                  refine xs_lmul (n := 150) dX12_laySides_149 rfl ?_
                  refine ys_callvv (n := 153) (N := mt_X12_addSide) dX12_laySides_150 rfl ok_X12_addSide tw_1120 im_X12_addSide se_X12_addSide ⟨Nat.le_of_ble_eq_true rfl, Nat.le_of_ble_eq_true rfl⟩ [.long q14, .long q17, .long q20, .long (q11 * (u0.2 155 (Int32.toNatClampNeg l2)))] [] rfl rfl (Nat.le_of_ble_eq_true rfl) rfl (Nat.le_of_ble_eq_true rfl) (en_X12_addSide m q14 q17 q20 (q11 * (u0.2 155 (Int32.toNatClampNeg l2))) u0) sh_150 (by decide) rfl (fun q23 => ?_)
                  exact xs_gf (xs_end (kj9 (q23.2))) (And.intro rfl (And.intro rfl trivial))
                · refine xs_icmp_ne (n := 137) (tgt := 141) dX12_laySides_134 rfl rfl (fun hc22 => ?_) (fun hc22 => ?_)
                  · refine xs_lload_n (n := 138) dX12_laySides_137 rfl rfl ?_
                    refine xs_goto (n := 142) dX12_laySides_138 rfl ?_
                    exact xs_gf (xs_end (kj21 (q11))) (And.intro rfl (And.intro rfl (And.intro rfl trivial)))
                  · refine xs_lconst (n := 142) (v := (0 : Int64)) dX12_laySides_141 rfl rfl ?_
                    exact xs_gf (xs_end (kj21 ((0 : Int64)))) (And.intro rfl (And.intro rfl (And.intro rfl trivial)))
              · refine xs_icmp_ne (n := 125) (tgt := 129) dX12_laySides_122 rfl rfl (fun hc19 => ?_) (fun hc19 => ?_)
                · refine xs_lload_n (n := 126) dX12_laySides_125 rfl rfl ?_
                  refine xs_goto (n := 130) dX12_laySides_126 rfl ?_
                  exact xs_gf (xs_end (kj18 (q11))) (And.intro rfl (And.intro rfl (And.intro rfl trivial)))
                · refine xs_lconst (n := 130) (v := (0 : Int64)) dX12_laySides_129 rfl rfl ?_
                  exact xs_gf (xs_end (kj18 ((0 : Int64)))) (And.intro rfl (And.intro rfl (And.intro rfl trivial)))
            · refine xs_if_ne (n := 113) (tgt := 117) dX12_laySides_110 rfl rfl (fun hc16 => ?_) (fun hc16 => ?_)
              · refine xs_lload_n (n := 114) dX12_laySides_113 rfl rfl ?_
                refine xs_goto (n := 118) dX12_laySides_114 rfl ?_
                exact xs_gf (xs_end (kj15 (q11))) (And.intro rfl (And.intro rfl (And.intro rfl trivial)))
              · refine xs_lconst (n := 118) (v := (0 : Int64)) dX12_laySides_117 rfl rfl ?_
                exact xs_gf (xs_end (kj15 ((0 : Int64)))) (And.intro rfl (And.intro rfl (And.intro rfl trivial)))
          · refine xs_if_ne (n := 98) (tgt := 102) dX12_laySides_95 rfl rfl (fun hc13 => ?_) (fun hc13 => ?_)
            · refine xs_lconst (n := 99) (v := (1 : Int64)) dX12_laySides_98 rfl rfl ?_
              refine xs_goto (n := 105) dX12_laySides_99 rfl ?_
              exact xs_gf (xs_end (kj12 ((1 : Int64)))) (And.intro rfl (And.intro rfl trivial))
            · refine xs_ldc2 (n := 105) (v := (-1 : Int64)) dX12_laySides_102 rfl tw_1124 ?_
              exact xs_gf (xs_end (kj12 ((-1 : Int64)))) (And.intro rfl (And.intro rfl trivial))
        · exact xs_gf (xs_end (kj9 (u0))) (And.intro rfl (And.intro rfl trivial))
theorem el_X12_laySides_281 (m : Nat) (c2 : Int32) (c3 : Int32) (c4 : Int32) (K : Int32 × xm_Y → Option (Unit × xm_Y)) (kE : ∀ q : Int32 × xm_Y, xs_ (fun _ : Unit => none) sg_0 mt_X12_laySides 317 [some (.ref 150), none, some (.int c2), some (.int c3), some (.int c4), none] [] q.2 0 0 (K q)) : ∀ (n : Nat) (l5 : Int32) (u0 : xm_Y), xs_ (fun _ : Unit => none) sg_0 mt_X12_laySides 281 [some (.ref 150), none, some (.int c2), some (.int c3), some (.int c4), some (.int l5)] [] u0 0 0 ((lp_X12_laySides_281 m c2 c3 c4 n l5 u0).bind K) := by
  intro n
  induction n with
  | zero =>
    intro l5 u0
    exact xs_none
  | succ n ih =>
    intro l5 u0
    rw [lp_X12_laySides_281]
    refine xs_iload (n := 283) dX12_laySides_281 rfl rfl ?_
    refine xs_aload_n (n := 284) dX12_laySides_283 rfl rfl ?_
    refine ys_geti (n := 287) dX12_laySides_284 rfl fl_X12_185 (Or.inl rfl) sh_150 ?_
    refine xs_icmp_ge (n := 290) (tgt := 317) dX12_laySides_287 rfl rfl (fun hc46 => ?_) (fun hc46 => ?_)
    · exact xs_gf (xs_end (kE (l5, u0))) (And.intro rfl (And.intro rfl (And.intro rfl (And.intro rfl trivial))))
    · refine xs_aload_n (n := 291) dX12_laySides_290 rfl rfl ?_
      refine ys_geti (n := 294) dX12_laySides_291 rfl fl_X12_194 (Or.inr rfl) sh_150 ?_
      refine xs_if_ne (n := 297) (tgt := 317) dX12_laySides_294 rfl rfl (fun hc47 => ?_) (fun hc47 => ?_)
      · refine xs_aload_n (n := 298) dX12_laySides_297 rfl rfl ?_
        refine xs_aload_n (n := 299) dX12_laySides_298 rfl rfl ?_
        refine xs_iload_n (n := 300) dX12_laySides_299 rfl rfl ?_
        refine xs_iload_n (n := 301) dX12_laySides_300 rfl rfl ?_
        refine xs_iload (n := 303) dX12_laySides_301 rfl rfl ?_
        refine xs_iload (n := 305) dX12_laySides_303 rfl rfl ?_
        refine ys_callvi (n := 308) (N := mt_X12_fourLeaveNothing) dX12_laySides_305 rfl ok_X12_fourLeaveNothing tw_1154 im_X12_fourLeaveNothing se_X12_fourLeaveNothing ⟨Nat.le_of_ble_eq_true rfl, Nat.le_of_ble_eq_true rfl⟩ [.int c2, .int c3, .int c4, .int l5] [.ref 150] rfl rfl (Nat.le_of_ble_eq_true rfl) rfl (Nat.le_of_ble_eq_true rfl) (en_X12_fourLeaveNothing m c2 c3 c4 l5 u0) sh_150 (by decide) rfl (fun q48 => ?_)
        refine ys_putz (n := 311) dX12_laySides_308 rfl fl_X12_194 rfl sh_150 (fun u49 => ?_)
        refine xs_iincl (n := 314) (dv := (1 : Int32)) (fun v50 => [some (.ref 150), none, some (.int c2), some (.int c3), some (.int c4), some (.int v50)]) dX12_laySides_311 rfl rfl rfl (Nat.le_of_ble_eq_true rfl) (fun _ => rfl) (fun v50 => ?_)
        refine xs_goto (n := 281) dX12_laySides_314 rfl ?_
        exact xs_gf (ih v50 u49) (And.intro rfl (And.intro rfl (And.intro rfl (And.intro rfl (And.intro rfl trivial)))))
      · exact xs_gf (xs_end (kE (l5, u0))) (And.intro rfl (And.intro rfl (And.intro rfl (And.intro rfl trivial))))
theorem el_X12_laySides_247 (m : Nat) (c2 : Int32) (c3 : Int32) (K : Int32 × xm_Y → Option (Unit × xm_Y)) (kE : ∀ q : Int32 × xm_Y, xs_ (fun _ : Unit => none) sg_0 mt_X12_laySides 323 [some (.ref 150), none, some (.int c2), some (.int c3), none, none] [] q.2 0 0 (K q)) : ∀ (n : Nat) (l4 : Int32) (u0 : xm_Y), xs_ (fun _ : Unit => none) sg_0 mt_X12_laySides 247 [some (.ref 150), none, some (.int c2), some (.int c3), some (.int l4), none] [] u0 0 0 ((lp_X12_laySides_247 m c2 c3 n l4 u0).bind K) := by
  intro n
  induction n with
  | zero =>
    intro l4 u0
    exact xs_none
  | succ n ih =>
    intro l4 u0
    rw [lp_X12_laySides_247]
    refine xs_iload (n := 249) dX12_laySides_247 rfl rfl ?_
    refine xs_aload_n (n := 250) dX12_laySides_249 rfl rfl ?_
    refine ys_geti (n := 253) dX12_laySides_250 rfl fl_X12_185 (Or.inl rfl) sh_150 ?_
    refine xs_icmp_ge (n := 256) (tgt := 323) dX12_laySides_253 rfl rfl (fun hc41 => ?_) (fun hc41 => ?_)
    · exact xs_gf (xs_end (kE (l4, u0))) (And.intro rfl (And.intro rfl (And.intro rfl trivial)))
    · refine xs_aload_n (n := 257) dX12_laySides_256 rfl rfl ?_
      refine ys_geti (n := 260) dX12_laySides_257 rfl fl_X12_194 (Or.inr rfl) sh_150 ?_
      refine xs_if_ne (n := 263) (tgt := 323) dX12_laySides_260 rfl rfl (fun hc42 => ?_) (fun hc42 => ?_)
      · refine xs_aload_n (n := 264) dX12_laySides_263 rfl rfl ?_
        refine xs_aload_n (n := 265) dX12_laySides_264 rfl rfl ?_
        refine xs_iload_n (n := 266) dX12_laySides_265 rfl rfl ?_
        refine xs_iload_n (n := 267) dX12_laySides_266 rfl rfl ?_
        refine xs_iload (n := 269) dX12_laySides_267 rfl rfl ?_
        refine ys_callvi (n := 272) (N := mt_X12_threeLeaveNothing) dX12_laySides_269 rfl ok_X12_threeLeaveNothing tw_1142 im_X12_threeLeaveNothing se_X12_threeLeaveNothing ⟨Nat.le_of_ble_eq_true rfl, Nat.le_of_ble_eq_true rfl⟩ [.int c2, .int c3, .int l4] [.ref 150] rfl rfl (Nat.le_of_ble_eq_true rfl) rfl (Nat.le_of_ble_eq_true rfl) (en_X12_threeLeaveNothing m c2 c3 l4 u0) sh_150 (by decide) rfl (fun q43 => ?_)
        refine ys_putz (n := 275) dX12_laySides_272 rfl fl_X12_194 rfl sh_150 (fun u44 => ?_)
        refine xs_iload (n := 277) dX12_laySides_275 rfl rfl ?_
        refine xs_iconst (n := 278) (v := (1 : Int32)) dX12_laySides_277 rfl rfl ?_
        refine xs_iadd (n := 279) dX12_laySides_278 rfl ?_
        refine xs_leti (fun v45 => ?_)
        refine xs_istore (n := 281) (lv' := [some (.ref 150), none, some (.int c2), some (.int c3), some (.int l4), some (.int v45)]) dX12_laySides_279 rfl (Nat.le_of_ble_eq_true rfl) rfl ?_
        refine xs_reg ?_
        refine xs_fg (lv' := [some (.ref 150), none, some (.int c2), some (.int c3), some (.int l4), some (.int v45)]) (And.intro rfl (And.intro rfl (And.intro rfl (And.intro rfl (And.intro rfl trivial))))) ?_
        refine el_X12_laySides_281 m c2 c3 l4 _ (fun q51 => ?_) m v45 u44
        refine xs_iincl (n := 320) (dv := (1 : Int32)) (fun v52 => [some (.ref 150), none, some (.int c2), some (.int c3), some (.int v52), none]) dX12_laySides_317 rfl rfl rfl (Nat.le_of_ble_eq_true rfl) (fun _ => rfl) (fun v52 => ?_)
        refine xs_goto (n := 247) dX12_laySides_320 rfl ?_
        exact xs_gf (ih v52 q51.2) (And.intro rfl (And.intro rfl (And.intro rfl (And.intro rfl trivial))))
      · exact xs_gf (xs_end (kE (l4, u0))) (And.intro rfl (And.intro rfl (And.intro rfl trivial)))
theorem el_X12_laySides_217 (m : Nat) (c2 : Int32) (K : Int32 × xm_Y → Option (Unit × xm_Y)) (kE : ∀ q : Int32 × xm_Y, xs_ (fun _ : Unit => none) sg_0 mt_X12_laySides 329 [some (.ref 150), none, some (.int c2), none, none, none] [] q.2 0 0 (K q)) : ∀ (n : Nat) (l3 : Int32) (u0 : xm_Y), xs_ (fun _ : Unit => none) sg_0 mt_X12_laySides 217 [some (.ref 150), none, some (.int c2), some (.int l3), none, none] [] u0 0 0 ((lp_X12_laySides_217 m c2 n l3 u0).bind K) := by
  intro n
  induction n with
  | zero =>
    intro l3 u0
    exact xs_none
  | succ n ih =>
    intro l3 u0
    rw [lp_X12_laySides_217]
    refine xs_iload_n (n := 218) dX12_laySides_217 rfl rfl ?_
    refine xs_aload_n (n := 219) dX12_laySides_218 rfl rfl ?_
    refine ys_geti (n := 222) dX12_laySides_219 rfl fl_X12_185 (Or.inl rfl) sh_150 ?_
    refine xs_icmp_ge (n := 225) (tgt := 329) dX12_laySides_222 rfl rfl (fun hc36 => ?_) (fun hc36 => ?_)
    · exact xs_gf (xs_end (kE (l3, u0))) (And.intro rfl (And.intro rfl trivial))
    · refine xs_aload_n (n := 226) dX12_laySides_225 rfl rfl ?_
      refine ys_geti (n := 229) dX12_laySides_226 rfl fl_X12_194 (Or.inr rfl) sh_150 ?_
      refine xs_if_ne (n := 232) (tgt := 329) dX12_laySides_229 rfl rfl (fun hc37 => ?_) (fun hc37 => ?_)
      · refine xs_aload_n (n := 233) dX12_laySides_232 rfl rfl ?_
        refine xs_aload_n (n := 234) dX12_laySides_233 rfl rfl ?_
        refine xs_iload_n (n := 235) dX12_laySides_234 rfl rfl ?_
        refine xs_iload_n (n := 236) dX12_laySides_235 rfl rfl ?_
        refine ys_callvi (n := 239) (N := mt_X12_twoLeaveNothing) dX12_laySides_236 rfl ok_X12_twoLeaveNothing tw_1129 im_X12_twoLeaveNothing se_X12_twoLeaveNothing ⟨Nat.le_of_ble_eq_true rfl, Nat.le_of_ble_eq_true rfl⟩ [.int c2, .int l3] [.ref 150] rfl rfl (Nat.le_of_ble_eq_true rfl) rfl (Nat.le_of_ble_eq_true rfl) (en_X12_twoLeaveNothing m c2 l3 u0) sh_150 (by decide) rfl (fun q38 => ?_)
        refine ys_putz (n := 242) dX12_laySides_239 rfl fl_X12_194 rfl sh_150 (fun u39 => ?_)
        refine xs_iload_n (n := 243) dX12_laySides_242 rfl rfl ?_
        refine xs_iconst (n := 244) (v := (1 : Int32)) dX12_laySides_243 rfl rfl ?_
        refine xs_iadd (n := 245) dX12_laySides_244 rfl ?_
        refine xs_leti (fun v40 => ?_)
        refine xs_istore (n := 247) (lv' := [some (.ref 150), none, some (.int c2), some (.int l3), some (.int v40), none]) dX12_laySides_245 rfl (Nat.le_of_ble_eq_true rfl) rfl ?_
        refine xs_reg ?_
        refine xs_fg (lv' := [some (.ref 150), none, some (.int c2), some (.int l3), some (.int v40), none]) (And.intro rfl (And.intro rfl (And.intro rfl (And.intro rfl trivial)))) ?_
        refine el_X12_laySides_247 m c2 l3 _ (fun q53 => ?_) m v40 u39
        refine xs_iincl (n := 326) (dv := (1 : Int32)) (fun v54 => [some (.ref 150), none, some (.int c2), some (.int v54), none, none]) dX12_laySides_323 rfl rfl rfl (Nat.le_of_ble_eq_true rfl) (fun _ => rfl) (fun v54 => ?_)
        refine xs_goto (n := 217) dX12_laySides_326 rfl ?_
        exact xs_gf (ih v54 q53.2) (And.intro rfl (And.intro rfl (And.intro rfl trivial)))
      · exact xs_gf (xs_end (kE (l3, u0))) (And.intro rfl (And.intro rfl trivial))
theorem el_X12_laySides_166 (m : Nat) (K : Int32 × xm_Y → Option (Unit × xm_Y)) (kE : ∀ q : Int32 × xm_Y, xs_ (fun _ : Unit => none) sg_0 mt_X12_laySides 335 [none, none, none, none, none, none] [] q.2 0 0 (K q)) : ∀ (n : Nat) (l2 : Int32) (u0 : xm_Y), xs_ (fun _ : Unit => none) sg_0 mt_X12_laySides 166 [some (.ref 150), none, some (.int l2), none, none, none] [] u0 0 0 ((lp_X12_laySides_166 m n l2 u0).bind K) := by
  intro n
  induction n with
  | zero =>
    intro l2 u0
    exact xs_none
  | succ n ih =>
    intro l2 u0
    rw [lp_X12_laySides_166]
    refine xs_iload_n (n := 167) dX12_laySides_166 rfl rfl ?_
    refine xs_aload_n (n := 168) dX12_laySides_167 rfl rfl ?_
    refine ys_geti (n := 171) dX12_laySides_168 rfl fl_X12_185 (Or.inl rfl) sh_150 ?_
    refine xs_icmp_ge (n := 174) (tgt := 335) dX12_laySides_171 rfl rfl (fun hc27 => ?_) (fun hc27 => ?_)
    · exact xs_gf (xs_end (kE (l2, u0))) trivial
    · refine xs_aload_n (n := 175) dX12_laySides_174 rfl rfl ?_
      refine ys_geti (n := 178) dX12_laySides_175 rfl fl_X12_194 (Or.inr rfl) sh_150 ?_
      refine xs_if_ne (n := 181) (tgt := 335) dX12_laySides_178 rfl rfl (fun hc28 => ?_) (fun hc28 => ?_)
      · refine xs_aload_n (n := 182) dX12_laySides_181 rfl rfl ?_
        refine xs_aload_n (n := 183) dX12_laySides_182 rfl rfl ?_
        refine xs_iload_n (n := 184) dX12_laySides_183 rfl rfl ?_
        refine ys_callvi (n := 187) (N := mt_X12_isZero) dX12_laySides_184 rfl ok_X12_isZero tw_1125 im_X12_isZero se_X12_isZero ⟨Nat.le_of_ble_eq_true rfl, Nat.le_of_ble_eq_true rfl⟩ [.int l2] [.ref 150] rfl rfl (Nat.le_of_ble_eq_true rfl) rfl (Nat.le_of_ble_eq_true rfl) (en_X12_isZero m l2 u0) sh_150 (by decide) rfl (fun q29 => ?_)
        refine xs_join 210 (fun q30 => [some (.ref 150), none, some (.int l2), none, none, none]) (fun q30 => [.int q30, .ref 150]) (fun q30 => q29.2) (fun q30 => ?_) (fun kj31 => ?_)
        · refine ys_putz (n := 213) dX12_laySides_210 rfl fl_X12_194 rfl sh_150 (fun u34 => ?_)
          refine xs_iload_n (n := 214) dX12_laySides_213 rfl rfl ?_
          refine xs_iconst (n := 215) (v := (1 : Int32)) dX12_laySides_214 rfl rfl ?_
          refine xs_iadd (n := 216) dX12_laySides_215 rfl ?_
          refine xs_leti (fun v35 => ?_)
          refine xs_istore_n (n := 217) (lv' := [some (.ref 150), none, some (.int l2), some (.int v35), none, none]) dX12_laySides_216 rfl (Nat.le_of_ble_eq_true rfl) rfl ?_
          refine xs_reg ?_
          refine xs_fg (lv' := [some (.ref 150), none, some (.int l2), some (.int v35), none, none]) (And.intro rfl (And.intro rfl (And.intro rfl trivial))) ?_
          refine el_X12_laySides_217 m l2 _ (fun q55 => ?_) m v35 u34
          refine xs_iincl (n := 332) (dv := (1 : Int32)) (fun v56 => [some (.ref 150), none, some (.int v56), none, none, none]) dX12_laySides_329 rfl rfl rfl (Nat.le_of_ble_eq_true rfl) (fun _ => rfl) (fun v56 => ?_)
          refine xs_goto (n := 166) dX12_laySides_332 rfl ?_
          exact xs_gf (ih v56 q55.2) (And.intro rfl (And.intro rfl trivial))
        · refine xs_if_eq (n := 190) (tgt := 209) dX12_laySides_187 rfl rfl (fun hc32 => ?_) (fun hc32 => ?_)
          · refine xs_iconst (n := 210) (v := (0 : Int32)) dX12_laySides_209 rfl rfl ?_
            exact xs_gf (xs_end (kj31 ((0 : Int32)))) (And.intro rfl (And.intro rfl trivial))
          · refine xs_aload_n (n := 191) dX12_laySides_190 rfl rfl ?_
            refine ys_getr (n := 194) dX12_laySides_191 rfl fl_X12_40 sh_150 rfl ?_
            refine xs_iconst (n := 195) (v := (4 : Int32)) dX12_laySides_194 rfl rfl ?_
            refine xs_iload_n (n := 196) dX12_laySides_195 rfl rfl ?_
            refine xs_imul (n := 197) dX12_laySides_196 rfl ?_
            refine xs_iconst (n := 198) (v := (3 : Int32)) dX12_laySides_197 rfl rfl ?_
            refine xs_iadd (n := 199) dX12_laySides_198 rfl ?_
            refine ys_laload (n := 200) dX12_laySides_199 rfl sh_159 ?_
            refine xs_lconst (n := 201) (v := (0 : Int64)) dX12_laySides_200 rfl rfl ?_
            refine xs_lif_le (n := 205) (pc1 := 202) (tgt := 209) dX12_laySides_201 rfl dX12_laySides_202 rfl rfl (fun hc33 => ?_) (fun hc33 => ?_)
            · refine xs_iconst (n := 210) (v := (0 : Int32)) dX12_laySides_209 rfl rfl ?_
              exact xs_gf (xs_end (kj31 ((0 : Int32)))) (And.intro rfl (And.intro rfl trivial))
            · refine xs_iconst (n := 206) (v := (1 : Int32)) dX12_laySides_205 rfl rfl ?_
              refine xs_goto (n := 210) dX12_laySides_206 rfl ?_
              exact xs_gf (xs_end (kj31 ((1 : Int32)))) (And.intro rfl (And.intro rfl trivial))
      · exact xs_gf (xs_end (kE (l2, u0))) trivial
theorem en_X12_laySides (m : Nat) (x0 : Int32) (u0 : xm_Y) : xs_ (fun _ : Unit => none) sg_0 mt_X12_laySides 0 [some (.ref 150), some (.int x0), none, none, none, none] [] u0 0 0 (fn_X12_laySides m x0 u0) := by
  refine xs_top ?_
  rw [fn_X12_laySides]
  refine xs_aload_n (n := 1) dX12_laySides_0 rfl rfl ?_
  refine xs_iconst (n := 2) (v := (0 : Int32)) dX12_laySides_1 rfl rfl ?_
  refine ys_puti (n := 5) dX12_laySides_2 rfl fl_X12_185 rfl sh_150 (fun u1 => ?_)
  refine xs_iconst (n := 6) (v := (0 : Int32)) dX12_laySides_5 rfl rfl ?_
  refine xs_istore_n (n := 7) (lv' := [some (.ref 150), some (.int x0), some (.int (0 : Int32)), none, none, none]) dX12_laySides_6 rfl (Nat.le_of_ble_eq_true rfl) rfl ?_
  refine xs_reg ?_
  refine xs_fg (lv' := [some (.ref 150), some (.int x0), some (.int (0 : Int32)), none, none, none]) (And.intro rfl (And.intro rfl (And.intro rfl trivial))) ?_
  refine el_X12_laySides_7 m x0 _ (fun q6 => ?_) m (0 : Int32) u1
  refine xs_iconst (n := 72) (v := (0 : Int32)) dX12_laySides_71 rfl rfl ?_
  refine xs_istore_n (n := 73) (lv' := [some (.ref 150), none, some (.int (0 : Int32)), none, none, none]) dX12_laySides_72 rfl (Nat.le_of_ble_eq_true rfl) rfl ?_
  refine xs_reg ?_
  refine xs_fg (lv' := [some (.ref 150), none, some (.int (0 : Int32)), none, none, none]) (And.intro rfl (And.intro rfl trivial)) ?_
  refine el_X12_laySides_73 m _ (fun q25 => ?_) m (0 : Int32) q6.2
  refine xs_aload_n (n := 160) dX12_laySides_159 rfl rfl ?_
  refine xs_iconst (n := 161) (v := (0 : Int32)) dX12_laySides_160 rfl rfl ?_
  refine ys_putzc (n := 164) dX12_laySides_161 rfl fl_X12_194 rfl sh_150 (Or.inl rfl) (fun u26 => ?_)
  refine xs_iconst (n := 165) (v := (0 : Int32)) dX12_laySides_164 rfl rfl ?_
  refine xs_istore_n (n := 166) (lv' := [some (.ref 150), none, some (.int (0 : Int32)), none, none, none]) dX12_laySides_165 rfl (Nat.le_of_ble_eq_true rfl) rfl ?_
  refine xs_reg ?_
  refine xs_fg (lv' := [some (.ref 150), none, some (.int (0 : Int32)), none, none, none]) (And.intro rfl (And.intro rfl trivial)) ?_
  refine el_X12_laySides_166 m _ (fun q57 => ?_) m (0 : Int32) u26
  exact xs_vret dX12_laySides_335 rfl rfl
def fn_X12_isAbove (m : Nat) (x0 : Int64) (x1 : Int64) (x2 : Int64) (x3 : Int64) (x4 : Int64) (x5 : Int64) (u0 : xm_Y) : Option (Int32 × xm_Y) :=
  xm_let (α := Int64) (((x0 * x5) - (x3 * x2))) fun v1 =>
  xm_let (α := Int64) (((x1 * x5) - (x4 * x2))) fun v2 =>
  ((fn_J9_floorDiv_f86c9 m v2 (1000000 : Int64) u0).bind fun q3 =>
  xm_let (α := Int64) ((v1 + q3.1)) fun v4 =>
  ((fn_J9_floorMod_f86c9 m v2 (1000000 : Int64) q3.2).bind fun q5 =>
  ((if (0 : Int64) < v4 then (
  some ((1 : Int32))) else (
  if v4 = (0 : Int64) then (
  if q5.1 ≤ (0 : Int64) then (
  some ((0 : Int32))) else (
  some ((1 : Int32)))) else (
  some ((0 : Int32)))) : Option (Int32)).bind fun q6 =>
  xm_chk (q6 = 0 ∨ q6 = 1) (some (q6, q5.2)))))
theorem en_X12_isAbove (m : Nat) (x0 : Int64) (x1 : Int64) (x2 : Int64) (x3 : Int64) (x4 : Int64) (x5 : Int64) (u0 : xm_Y) : xs_ (fun x : Int32 => some (.int x)) sg_0 mt_X12_isAbove 0 [some (.long x0), none, some (.long x1), none, some (.long x2), none, some (.long x3), none, some (.long x4), none, some (.long x5), none, none, none, none, none] [] u0 0 0 (fn_X12_isAbove m x0 x1 x2 x3 x4 x5 u0) := by
  refine xs_top ?_
  rw [fn_X12_isAbove]
  refine xs_lload_n (n := 1) dX12_isAbove_0 rfl rfl ?_
  refine xs_lload (n := 3) dX12_isAbove_1 rfl rfl ?_
  refine xs_lmul (n := 4) dX12_isAbove_3 rfl ?_
  refine xs_lload (n := 6) dX12_isAbove_4 rfl rfl ?_
  refine xs_lload (n := 8) dX12_isAbove_6 rfl rfl ?_
  refine xs_lmul (n := 9) dX12_isAbove_8 rfl ?_
  refine xs_lsub (n := 10) dX12_isAbove_9 rfl ?_
  refine xs_letl (fun v1 => ?_)
  refine xs_lstore (n := 12) (lv' := [some (.long x0), none, some (.long x1), none, some (.long x2), none, some (.long x3), none, some (.long x4), none, some (.long x5), none, some (.long v1), none, none, none]) dX12_isAbove_10 rfl (Nat.le_of_ble_eq_true rfl) rfl ?_
  refine xs_lload_n (n := 13) dX12_isAbove_12 rfl rfl ?_
  refine xs_lload (n := 15) dX12_isAbove_13 rfl rfl ?_
  refine xs_lmul (n := 16) dX12_isAbove_15 rfl ?_
  refine xs_lload (n := 18) dX12_isAbove_16 rfl rfl ?_
  refine xs_lload (n := 20) dX12_isAbove_18 rfl rfl ?_
  refine xs_lmul (n := 21) dX12_isAbove_20 rfl ?_
  refine xs_lsub (n := 22) dX12_isAbove_21 rfl ?_
  refine xs_letl (fun v2 => ?_)
  refine xs_lstore (n := 24) (lv' := [some (.long x0), none, some (.long x1), none, some (.long x2), none, some (.long x3), none, some (.long x4), none, some (.long x5), none, some (.long v1), none, some (.long v2), none]) dX12_isAbove_22 rfl (Nat.le_of_ble_eq_true rfl) rfl ?_
  refine xs_lload (n := 26) dX12_isAbove_24 rfl rfl ?_
  refine xs_lload (n := 28) dX12_isAbove_26 rfl rfl ?_
  refine xs_ldc2 (n := 31) (v := (1000000 : Int64)) dX12_isAbove_28 rfl tw_1174 ?_
  refine ys_callsl (n := 34) (N := mt_J9_floorDiv_f86c9) dX12_isAbove_31 rfl ok_J9_floorDiv_f86c9 tw_1175 st_J9_floorDiv_f86c9 ⟨Nat.le_of_ble_eq_true rfl, Nat.le_of_ble_eq_true rfl⟩ [.long v2, .long (1000000 : Int64)] [.long v1] rfl rfl (Nat.le_of_ble_eq_true rfl) rfl (Nat.le_of_ble_eq_true rfl) (en_J9_floorDiv_f86c9 m v2 (1000000 : Int64) u0) (fun q3 => ?_)
  refine xs_ladd (n := 35) dX12_isAbove_34 rfl ?_
  refine xs_letl (fun v4 => ?_)
  refine xs_lstore (n := 37) (lv' := [some (.long x0), none, some (.long x1), none, some (.long x2), none, some (.long x3), none, some (.long x4), none, some (.long x5), none, some (.long v4), none, some (.long v2), none]) dX12_isAbove_35 rfl (Nat.le_of_ble_eq_true rfl) rfl ?_
  refine xs_lload (n := 39) dX12_isAbove_37 rfl rfl ?_
  refine xs_ldc2 (n := 42) (v := (1000000 : Int64)) dX12_isAbove_39 rfl tw_1174 ?_
  refine ys_callsl (n := 45) (N := mt_J9_floorMod_f86c9) dX12_isAbove_42 rfl ok_J9_floorMod_f86c9 tw_1176 st_J9_floorMod_f86c9 ⟨Nat.le_of_ble_eq_true rfl, Nat.le_of_ble_eq_true rfl⟩ [.long v2, .long (1000000 : Int64)] [] rfl rfl (Nat.le_of_ble_eq_true rfl) rfl (Nat.le_of_ble_eq_true rfl) (en_J9_floorMod_f86c9 m v2 (1000000 : Int64) q3.2) (fun q5 => ?_)
  refine xs_lstore (n := 47) (lv' := [some (.long x0), none, some (.long x1), none, some (.long x2), none, some (.long x3), none, some (.long x4), none, some (.long x5), none, some (.long v4), none, some (.long q5.1), none]) dX12_isAbove_45 rfl (Nat.le_of_ble_eq_true rfl) rfl ?_
  refine xs_lload (n := 49) dX12_isAbove_47 rfl rfl ?_
  refine xs_lconst (n := 50) (v := (0 : Int64)) dX12_isAbove_49 rfl rfl ?_
  refine xs_join 73 (fun q6 => [none, none, none, none, none, none, none, none, none, none, none, none, none, none, none, none]) (fun q6 => [.int q6]) (fun q6 => q5.2) (fun q6 => ?_) (fun kj7 => ?_)
  · exact xs_zret dX12_isAbove_73 rfl rfl
  · refine xs_lif_gt (n := 54) (pc1 := 51) (tgt := 68) dX12_isAbove_50 rfl dX12_isAbove_51 rfl rfl (fun hc8 => ?_) (fun hc8 => ?_)
    · refine xs_iconst (n := 69) (v := (1 : Int32)) dX12_isAbove_68 rfl rfl ?_
      refine xs_goto (n := 73) dX12_isAbove_69 rfl ?_
      exact xs_gf (xs_end (kj7 ((1 : Int32)))) trivial
    · refine xs_lload (n := 56) dX12_isAbove_54 rfl rfl ?_
      refine xs_lconst (n := 57) (v := (0 : Int64)) dX12_isAbove_56 rfl rfl ?_
      refine xs_lif_ne (n := 61) (pc1 := 58) (tgt := 72) dX12_isAbove_57 rfl dX12_isAbove_58 rfl rfl (fun hc9 => ?_) (fun hc9 => ?_)
      · refine xs_lload (n := 63) dX12_isAbove_61 rfl rfl ?_
        refine xs_lconst (n := 64) (v := (0 : Int64)) dX12_isAbove_63 rfl rfl ?_
        refine xs_lif_le (n := 68) (pc1 := 65) (tgt := 72) dX12_isAbove_64 rfl dX12_isAbove_65 rfl rfl (fun hc10 => ?_) (fun hc10 => ?_)
        · refine xs_iconst (n := 73) (v := (0 : Int32)) dX12_isAbove_72 rfl rfl ?_
          exact xs_gf (xs_end (kj7 ((0 : Int32)))) trivial
        · refine xs_iconst (n := 69) (v := (1 : Int32)) dX12_isAbove_68 rfl rfl ?_
          refine xs_goto (n := 73) dX12_isAbove_69 rfl ?_
          exact xs_gf (xs_end (kj7 ((1 : Int32)))) trivial
      · refine xs_iconst (n := 73) (v := (0 : Int32)) dX12_isAbove_72 rfl rfl ?_
        exact xs_gf (xs_end (kj7 ((0 : Int32)))) trivial
def lp_X12_offer_54 (m : Nat) (c1 : Int64) (c3 : Int64) (c5 : Int64) (c9 : Int32) (c10 : Int32) (c11 : Int32) (c12 : Int64) : Nat → Int64 → Int64 → Int32 → xm_Y → Option (Int64 × Int64 × Int32 × xm_Y)
  | 0, _, _, _, _ => none
  | n + 1, l14, l16, l18, u0 =>
  if (3 : Int32) ≤ l18 then (
  some (l14, l16, l18, u0)) else (
  ((if l18 = 0 then (
  some (c1)) else (
  if l18 = (1 : Int32) then (
  some (c3)) else (
  some (c5))) : Option (Int64)).bind fun q8 =>
  xm_let (α := Int64) ((c12 * q8)) fun v12 =>
  ((if l18 = 0 then (
  some (c9)) else (
  if l18 = (1 : Int32) then (
  some (c10)) else (
  some (c11))) : Option (Int32)).bind fun q13 =>
  xm_chk (xm_in (((4 : Int32) * q13) + (3 : Int32)) 48) (
  xm_let (α := Int64) ((u0.2 159 (Int32.toNatClampNeg (((4 : Int32) * q13) + (3 : Int32))))) fun v17 =>
  ((fn_J9_floorDiv_f86c9 m v17 (1000000 : Int64) u0).bind fun q18 =>
  xm_let (α := Int64) ((l14 + (v12 * q18.1))) fun v19 =>
  ((fn_J9_floorMod_f86c9 m v17 (1000000 : Int64) q18.2).bind fun q20 =>
  xm_let (α := Int64) ((l16 + (v12 * q20.1))) fun v21 =>
  xm_let (α := Int32) (l18 + (1 : Int32)) fun v22 =>
  lp_X12_offer_54 m c1 c3 c5 c9 c10 c11 c12 n v19 v21 v22 q20.2))))))
def fn_X12_offer (m : Nat) (x0 : Int64) (x1 : Int64) (x2 : Int64) (x3 : Int64) (x4 : Int32) (x5 : Int32) (x6 : Int32) (u0 : xm_Y) : Option (Unit × xm_Y) :=
  ((if (0 : Int64) ≤ x3 then (
  some ((1 : Int64))) else (
  some ((-1 : Int64))) : Option (Int64)).bind fun q1 =>
  if (x0 * q1) < (0 : Int64) then (
  some ((), u0)) else (
  if (x1 * q1) < (0 : Int64) then (
  some ((), u0)) else (
  if (0 : Int64) ≤ (x2 * q1) then (
  ((lp_X12_offer_54 m x0 x1 x2 x4 x5 x6 q1 m (0 : Int64) (0 : Int64) (0 : Int32) u0).bind fun q23 =>
  ((fn_J9_floorDiv_f86c9 m q23.2.1 (1000000 : Int64) q23.2.2.2).bind fun q24 =>
  xm_let (α := Int64) ((q23.1 + q24.1)) fun v25 =>
  ((fn_J9_floorMod_f86c9 m q23.2.1 (1000000 : Int64) q24.2).bind fun q26 =>
  ((if (q26.2.1 150 16) = 0 then (
  xm_let (w_I q26.2 150 16 (1 : Int32)) fun u30 =>
  xm_let (w_J u30 150 13 v25) fun u31 =>
  xm_let (w_J u31 150 14 q26.1) fun u32 =>
  xm_let (w_J u32 150 15 (q1 * x3)) fun u33 =>
  some (u33)) else (
  ((fn_X12_isAbove m v25 q26.1 (q1 * x3) (q26.2.2 150 13) (q26.2.2 150 14) (q26.2.2 150 15) q26.2).bind fun q34 =>
  if q34.1 = 0 then (
  some (q34.2)) else (
  xm_let (w_I q34.2 150 16 (1 : Int32)) fun u36 =>
  xm_let (w_J u36 150 13 v25) fun u37 =>
  xm_let (w_J u37 150 14 q26.1) fun u38 =>
  xm_let (w_J u38 150 15 (q1 * x3)) fun u39 =>
  some (u39)))) : Option (xm_Y)).bind fun q27 =>
  some ((), q27)))))) else (
  some ((), u0)))))
theorem el_X12_offer_54 (m : Nat) (c1 : Int64) (c3 : Int64) (c5 : Int64) (c9 : Int32) (c10 : Int32) (c11 : Int32) (c12 : Int64) (c7 : Int64) (K : Int64 × Int64 × Int32 × xm_Y → Option (Unit × xm_Y)) (kE : ∀ q : Int64 × Int64 × Int32 × xm_Y, xs_ (fun _ : Unit => none) sg_0 mt_X12_offer 158 [some (.ref 150), none, none, none, none, none, none, some (.long c7), none, none, none, none, some (.long c12), none, some (.long q.1), none, some (.long q.2.1), none, none, none, none, none, none] [] q.2.2.2 0 0 (K q)) : ∀ (n : Nat) (l14 : Int64) (l16 : Int64) (l18 : Int32) (u0 : xm_Y), xs_ (fun _ : Unit => none) sg_0 mt_X12_offer 54 [some (.ref 150), some (.long c1), none, some (.long c3), none, some (.long c5), none, some (.long c7), none, some (.int c9), some (.int c10), some (.int c11), some (.long c12), none, some (.long l14), none, some (.long l16), none, some (.int l18), none, none, none, none] [] u0 0 0 ((lp_X12_offer_54 m c1 c3 c5 c9 c10 c11 c12 n l14 l16 l18 u0).bind K) := by
  intro n
  induction n with
  | zero =>
    intro l14 l16 l18 u0
    exact xs_none
  | succ n ih =>
    intro l14 l16 l18 u0
    rw [lp_X12_offer_54]
    refine xs_iload (n := 56) dX12_offer_54 rfl rfl ?_
    refine xs_iconst (n := 57) (v := (3 : Int32)) dX12_offer_56 rfl rfl ?_
    refine xs_icmp_ge (n := 60) (tgt := 158) dX12_offer_57 rfl rfl (fun hc7 => ?_) (fun hc7 => ?_)
    · exact xs_gf (xs_end (kE (l14, l16, l18, u0))) (And.intro rfl (And.intro rfl (And.intro rfl (And.intro rfl (And.intro rfl trivial)))))
    · refine xs_lload (n := 62) dX12_offer_60 rfl rfl ?_
      refine xs_iload (n := 64) dX12_offer_62 rfl rfl ?_
      refine xs_join 83 (fun q8 => [some (.ref 150), some (.long c1), none, some (.long c3), none, some (.long c5), none, some (.long c7), none, some (.int c9), some (.int c10), some (.int c11), some (.long c12), none, some (.long l14), none, some (.long l16), none, some (.int l18), none, none, none, none]) (fun q8 => [.long q8, .long c12]) (fun q8 => u0) (fun q8 => ?_) (fun kj9 => ?_)
      · refine xs_lmul (n := 84) dX12_offer_83 rfl ?_
        refine xs_letl (fun v12 => ?_)
        refine xs_lstore (n := 86) (lv' := [some (.ref 150), some (.long c1), none, some (.long c3), none, some (.long c5), none, some (.long c7), none, some (.int c9), some (.int c10), some (.int c11), some (.long c12), none, some (.long l14), none, some (.long l16), none, some (.int l18), some (.long v12), none, none, none]) dX12_offer_84 rfl (Nat.le_of_ble_eq_true rfl) rfl ?_
        refine xs_aload_n (n := 87) dX12_offer_86 rfl rfl ?_
        refine ys_getr (n := 90) dX12_offer_87 rfl fl_X12_40 sh_150 rfl ?_
        refine xs_iconst (n := 91) (v := (4 : Int32)) dX12_offer_90 rfl rfl ?_
        refine xs_iload (n := 93) dX12_offer_91 rfl rfl ?_
        refine xs_join 114 (fun q13 => [some (.ref 150), some (.long c1), none, some (.long c3), none, some (.long c5), none, some (.long c7), none, some (.int c9), some (.int c10), some (.int c11), some (.long c12), none, some (.long l14), none, some (.long l16), none, some (.int l18), some (.long v12), none, none, none]) (fun q13 => [.int q13, .int (4 : Int32), .ref 159]) (fun q13 => u0) (fun q13 => ?_) (fun kj14 => ?_)
        · refine xs_imul (n := 115) dX12_offer_114 rfl ?_
          refine xs_iconst (n := 116) (v := (3 : Int32)) dX12_offer_115 rfl rfl ?_
          refine xs_iadd (n := 117) dX12_offer_116 rfl ?_
          refine ys_laload (n := 118) dX12_offer_117 rfl sh_159 ?_
          refine xs_letl (fun v17 => ?_)
          refine xs_lstore (n := 120) (lv' := [some (.ref 150), some (.long c1), none, some (.long c3), none, some (.long c5), none, some (.long c7), none, some (.int c9), some (.int c10), some (.int c11), some (.long c12), none, some (.long l14), none, some (.long l16), none, some (.int l18), some (.long v12), none, some (.long v17), none]) dX12_offer_118 rfl (Nat.le_of_ble_eq_true rfl) rfl ?_
          refine xs_lload (n := 122) dX12_offer_120 rfl rfl ?_
          refine xs_lload (n := 124) dX12_offer_122 rfl rfl ?_
          refine xs_lload (n := 126) dX12_offer_124 rfl rfl ?_
          refine xs_ldc2 (n := 129) (v := (1000000 : Int64)) dX12_offer_126 rfl tw_1174 ?_
          refine ys_callsl (n := 132) (N := mt_J9_floorDiv_f86c9) dX12_offer_129 rfl ok_J9_floorDiv_f86c9 tw_1175 st_J9_floorDiv_f86c9 ⟨Nat.le_of_ble_eq_true rfl, Nat.le_of_ble_eq_true rfl⟩ [.long v17, .long (1000000 : Int64)] [.long v12, .long l14] rfl rfl (Nat.le_of_ble_eq_true rfl) rfl (Nat.le_of_ble_eq_true rfl) (en_J9_floorDiv_f86c9 m v17 (1000000 : Int64) u0) (fun q18 => ?_)
          refine xs_lmul (n := 133) dX12_offer_132 rfl ?_
          refine xs_ladd (n := 134) dX12_offer_133 rfl ?_
          refine xs_letl (fun v19 => ?_)
          refine xs_lstore (n := 136) (lv' := [some (.ref 150), some (.long c1), none, some (.long c3), none, some (.long c5), none, some (.long c7), none, some (.int c9), some (.int c10), some (.int c11), some (.long c12), none, some (.long v19), none, some (.long l16), none, some (.int l18), some (.long v12), none, some (.long v17), none]) dX12_offer_134 rfl (Nat.le_of_ble_eq_true rfl) rfl ?_
          refine xs_lload (n := 138) dX12_offer_136 rfl rfl ?_
          refine xs_lload (n := 140) dX12_offer_138 rfl rfl ?_
          refine xs_lload (n := 142) dX12_offer_140 rfl rfl ?_
          refine xs_ldc2 (n := 145) (v := (1000000 : Int64)) dX12_offer_142 rfl tw_1174 ?_
          refine ys_callsl (n := 148) (N := mt_J9_floorMod_f86c9) dX12_offer_145 rfl ok_J9_floorMod_f86c9 tw_1176 st_J9_floorMod_f86c9 ⟨Nat.le_of_ble_eq_true rfl, Nat.le_of_ble_eq_true rfl⟩ [.long v17, .long (1000000 : Int64)] [.long v12, .long l16] rfl rfl (Nat.le_of_ble_eq_true rfl) rfl (Nat.le_of_ble_eq_true rfl) (en_J9_floorMod_f86c9 m v17 (1000000 : Int64) q18.2) (fun q20 => ?_)
          refine xs_lmul (n := 149) dX12_offer_148 rfl ?_
          refine xs_ladd (n := 150) dX12_offer_149 rfl ?_
          refine xs_letl (fun v21 => ?_)
          refine xs_lstore (n := 152) (lv' := [some (.ref 150), some (.long c1), none, some (.long c3), none, some (.long c5), none, some (.long c7), none, some (.int c9), some (.int c10), some (.int c11), some (.long c12), none, some (.long v19), none, some (.long v21), none, some (.int l18), some (.long v12), none, some (.long v17), none]) dX12_offer_150 rfl (Nat.le_of_ble_eq_true rfl) rfl ?_
          refine xs_iincl (n := 155) (dv := (1 : Int32)) (fun v22 => [some (.ref 150), some (.long c1), none, some (.long c3), none, some (.long c5), none, some (.long c7), none, some (.int c9), some (.int c10), some (.int c11), some (.long c12), none, some (.long v19), none, some (.long v21), none, some (.int v22), some (.long v12), none, some (.long v17), none]) dX12_offer_152 rfl rfl rfl (Nat.le_of_ble_eq_true rfl) (fun _ => rfl) (fun v22 => ?_)
          refine xs_goto (n := 54) dX12_offer_155 rfl ?_
          exact xs_gf (ih v19 v21 v22 q20.2) (And.intro rfl (And.intro rfl (And.intro rfl (And.intro rfl (And.intro rfl (And.intro rfl (And.intro rfl (And.intro rfl (And.intro rfl (And.intro rfl (And.intro rfl (And.intro rfl trivial))))))))))))
        · refine xs_if_ne (n := 96) (tgt := 101) dX12_offer_93 rfl rfl (fun hc15 => ?_) (fun hc15 => ?_)
          · refine xs_iload (n := 98) dX12_offer_96 rfl rfl ?_
            refine xs_goto (n := 114) dX12_offer_98 rfl ?_
            exact xs_gf (xs_end (kj14 (c9))) (And.intro rfl (And.intro rfl (And.intro rfl (And.intro rfl (And.intro rfl (And.intro rfl (And.intro rfl (And.intro rfl (And.intro rfl (And.intro rfl (And.intro rfl (And.intro rfl (And.intro rfl trivial)))))))))))))
          · refine xs_iload (n := 103) dX12_offer_101 rfl rfl ?_
            refine xs_iconst (n := 104) (v := (1 : Int32)) dX12_offer_103 rfl rfl ?_
            refine xs_icmp_ne (n := 107) (tgt := 112) dX12_offer_104 rfl rfl (fun hc16 => ?_) (fun hc16 => ?_)
            · refine xs_iload (n := 109) dX12_offer_107 rfl rfl ?_
              refine xs_goto (n := 114) dX12_offer_109 rfl ?_
              exact xs_gf (xs_end (kj14 (c10))) (And.intro rfl (And.intro rfl (And.intro rfl (And.intro rfl (And.intro rfl (And.intro rfl (And.intro rfl (And.intro rfl (And.intro rfl (And.intro rfl (And.intro rfl (And.intro rfl (And.intro rfl trivial)))))))))))))
            · refine xs_iload (n := 114) dX12_offer_112 rfl rfl ?_
              exact xs_gf (xs_end (kj14 (c11))) (And.intro rfl (And.intro rfl (And.intro rfl (And.intro rfl (And.intro rfl (And.intro rfl (And.intro rfl (And.intro rfl (And.intro rfl (And.intro rfl (And.intro rfl (And.intro rfl (And.intro rfl trivial)))))))))))))
      · refine xs_if_ne (n := 67) (tgt := 71) dX12_offer_64 rfl rfl (fun hc10 => ?_) (fun hc10 => ?_)
        · refine xs_lload_n (n := 68) dX12_offer_67 rfl rfl ?_
          refine xs_goto (n := 83) dX12_offer_68 rfl ?_
          exact xs_gf (xs_end (kj9 (c1))) (And.intro rfl (And.intro rfl (And.intro rfl (And.intro rfl (And.intro rfl (And.intro rfl (And.intro rfl (And.intro rfl (And.intro rfl (And.intro rfl (And.intro rfl (And.intro rfl trivial))))))))))))
        · refine xs_iload (n := 73) dX12_offer_71 rfl rfl ?_
          refine xs_iconst (n := 74) (v := (1 : Int32)) dX12_offer_73 rfl rfl ?_
          refine xs_icmp_ne (n := 77) (tgt := 81) dX12_offer_74 rfl rfl (fun hc11 => ?_) (fun hc11 => ?_)
          · refine xs_lload_n (n := 78) dX12_offer_77 rfl rfl ?_
            refine xs_goto (n := 83) dX12_offer_78 rfl ?_
            exact xs_gf (xs_end (kj9 (c3))) (And.intro rfl (And.intro rfl (And.intro rfl (And.intro rfl (And.intro rfl (And.intro rfl (And.intro rfl (And.intro rfl (And.intro rfl (And.intro rfl (And.intro rfl (And.intro rfl trivial))))))))))))
          · refine xs_lload (n := 83) dX12_offer_81 rfl rfl ?_
            exact xs_gf (xs_end (kj9 (c5))) (And.intro rfl (And.intro rfl (And.intro rfl (And.intro rfl (And.intro rfl (And.intro rfl (And.intro rfl (And.intro rfl (And.intro rfl (And.intro rfl (And.intro rfl (And.intro rfl trivial))))))))))))
theorem en_X12_offer (m : Nat) (x0 : Int64) (x1 : Int64) (x2 : Int64) (x3 : Int64) (x4 : Int32) (x5 : Int32) (x6 : Int32) (u0 : xm_Y) : xs_ (fun _ : Unit => none) sg_0 mt_X12_offer 0 [some (.ref 150), some (.long x0), none, some (.long x1), none, some (.long x2), none, some (.long x3), none, some (.int x4), some (.int x5), some (.int x6), none, none, none, none, none, none, none, none, none, none, none] [] u0 0 0 (fn_X12_offer m x0 x1 x2 x3 x4 x5 x6 u0) := by
  refine xs_top ?_
  rw [fn_X12_offer]
  refine xs_lload (n := 2) dX12_offer_0 rfl rfl ?_
  refine xs_lconst (n := 3) (v := (0 : Int64)) dX12_offer_2 rfl rfl ?_
  refine xs_join 14 (fun q1 => [some (.ref 150), some (.long x0), none, some (.long x1), none, some (.long x2), none, some (.long x3), none, some (.int x4), some (.int x5), some (.int x6), none, none, none, none, none, none, none, none, none, none, none]) (fun q1 => [.long q1]) (fun q1 => u0) (fun q1 => ?_) (fun kj2 => ?_)
  · refine xs_lstore (n := 16) (lv' := [some (.ref 150), some (.long x0), none, some (.long x1), none, some (.long x2), none, some (.long x3), none, some (.int x4), some (.int x5), some (.int x6), some (.long q1), none, none, none, none, none, none, none, none, none, none]) dX12_offer_14 rfl (Nat.le_of_ble_eq_true rfl) rfl ?_
    refine xs_lload_n (n := 17) dX12_offer_16 rfl rfl ?_
    refine xs_lload (n := 19) dX12_offer_17 rfl rfl ?_
    refine xs_lmul (n := 20) dX12_offer_19 rfl ?_
    refine xs_lconst (n := 21) (v := (0 : Int64)) dX12_offer_20 rfl rfl ?_
    refine xs_lif_lt (n := 25) (pc1 := 22) (tgt := 44) dX12_offer_21 rfl dX12_offer_22 rfl rfl (fun hc4 => ?_) (fun hc4 => ?_)
    · exact xs_vret dX12_offer_44 rfl rfl
    · refine xs_lload_n (n := 26) dX12_offer_25 rfl rfl ?_
      refine xs_lload (n := 28) dX12_offer_26 rfl rfl ?_
      refine xs_lmul (n := 29) dX12_offer_28 rfl ?_
      refine xs_lconst (n := 30) (v := (0 : Int64)) dX12_offer_29 rfl rfl ?_
      refine xs_lif_lt (n := 34) (pc1 := 31) (tgt := 44) dX12_offer_30 rfl dX12_offer_31 rfl rfl (fun hc5 => ?_) (fun hc5 => ?_)
      · exact xs_vret dX12_offer_44 rfl rfl
      · refine xs_lload (n := 36) dX12_offer_34 rfl rfl ?_
        refine xs_lload (n := 38) dX12_offer_36 rfl rfl ?_
        refine xs_lmul (n := 39) dX12_offer_38 rfl ?_
        refine xs_lconst (n := 40) (v := (0 : Int64)) dX12_offer_39 rfl rfl ?_
        refine xs_lif_ge (n := 44) (pc1 := 41) (tgt := 45) dX12_offer_40 rfl dX12_offer_41 rfl rfl (fun hc6 => ?_) (fun hc6 => ?_)
        · refine xs_lconst (n := 46) (v := (0 : Int64)) dX12_offer_45 rfl rfl ?_
          refine xs_lstore (n := 48) (lv' := [some (.ref 150), some (.long x0), none, some (.long x1), none, some (.long x2), none, some (.long x3), none, some (.int x4), some (.int x5), some (.int x6), some (.long q1), none, some (.long (0 : Int64)), none, none, none, none, none, none, none, none]) dX12_offer_46 rfl (Nat.le_of_ble_eq_true rfl) rfl ?_
          refine xs_lconst (n := 49) (v := (0 : Int64)) dX12_offer_48 rfl rfl ?_
          refine xs_lstore (n := 51) (lv' := [some (.ref 150), some (.long x0), none, some (.long x1), none, some (.long x2), none, some (.long x3), none, some (.int x4), some (.int x5), some (.int x6), some (.long q1), none, some (.long (0 : Int64)), none, some (.long (0 : Int64)), none, none, none, none, none, none]) dX12_offer_49 rfl (Nat.le_of_ble_eq_true rfl) rfl ?_
          refine xs_iconst (n := 52) (v := (0 : Int32)) dX12_offer_51 rfl rfl ?_
          refine xs_istore (n := 54) (lv' := [some (.ref 150), some (.long x0), none, some (.long x1), none, some (.long x2), none, some (.long x3), none, some (.int x4), some (.int x5), some (.int x6), some (.long q1), none, some (.long (0 : Int64)), none, some (.long (0 : Int64)), none, some (.int (0 : Int32)), none, none, none, none]) dX12_offer_52 rfl (Nat.le_of_ble_eq_true rfl) rfl ?_
          refine xs_reg ?_
          refine xs_fg (lv' := [some (.ref 150), some (.long x0), none, some (.long x1), none, some (.long x2), none, some (.long x3), none, some (.int x4), some (.int x5), some (.int x6), some (.long q1), none, some (.long (0 : Int64)), none, some (.long (0 : Int64)), none, some (.int (0 : Int32)), none, none, none, none]) (And.intro rfl (And.intro rfl (And.intro rfl (And.intro rfl (And.intro rfl (And.intro rfl (And.intro rfl (And.intro rfl (And.intro rfl (And.intro rfl (And.intro rfl (And.intro rfl trivial)))))))))))) ?_
          refine el_X12_offer_54 m x0 x1 x2 x4 x5 x6 q1 x3 _ (fun q23 => ?_) m (0 : Int64) (0 : Int64) (0 : Int32) u0
          refine xs_lload (n := 160) dX12_offer_158 rfl rfl ?_
          refine xs_lload (n := 162) dX12_offer_160 rfl rfl ?_
          refine xs_ldc2 (n := 165) (v := (1000000 : Int64)) dX12_offer_162 rfl tw_1174 ?_
          refine ys_callsl (n := 168) (N := mt_J9_floorDiv_f86c9) dX12_offer_165 rfl ok_J9_floorDiv_f86c9 tw_1175 st_J9_floorDiv_f86c9 ⟨Nat.le_of_ble_eq_true rfl, Nat.le_of_ble_eq_true rfl⟩ [.long q23.2.1, .long (1000000 : Int64)] [.long q23.1] rfl rfl (Nat.le_of_ble_eq_true rfl) rfl (Nat.le_of_ble_eq_true rfl) (en_J9_floorDiv_f86c9 m q23.2.1 (1000000 : Int64) q23.2.2.2) (fun q24 => ?_)
          refine xs_ladd (n := 169) dX12_offer_168 rfl ?_
          refine xs_letl (fun v25 => ?_)
          refine xs_lstore (n := 171) (lv' := [some (.ref 150), none, none, none, none, none, none, some (.long x3), none, none, none, none, some (.long q1), none, some (.long v25), none, some (.long q23.2.1), none, none, none, none, none, none]) dX12_offer_169 rfl (Nat.le_of_ble_eq_true rfl) rfl ?_
          refine xs_lload (n := 173) dX12_offer_171 rfl rfl ?_
          refine xs_ldc2 (n := 176) (v := (1000000 : Int64)) dX12_offer_173 rfl tw_1174 ?_
          refine ys_callsl (n := 179) (N := mt_J9_floorMod_f86c9) dX12_offer_176 rfl ok_J9_floorMod_f86c9 tw_1176 st_J9_floorMod_f86c9 ⟨Nat.le_of_ble_eq_true rfl, Nat.le_of_ble_eq_true rfl⟩ [.long q23.2.1, .long (1000000 : Int64)] [] rfl rfl (Nat.le_of_ble_eq_true rfl) rfl (Nat.le_of_ble_eq_true rfl) (en_J9_floorMod_f86c9 m q23.2.1 (1000000 : Int64) q24.2) (fun q26 => ?_)
          refine xs_lstore (n := 181) (lv' := [some (.ref 150), none, none, none, none, none, none, some (.long x3), none, none, none, none, some (.long q1), none, some (.long v25), none, some (.long q26.1), none, none, none, none, none, none]) dX12_offer_179 rfl (Nat.le_of_ble_eq_true rfl) rfl ?_
          refine xs_aload_n (n := 182) dX12_offer_181 rfl rfl ?_
          refine ys_geti (n := 185) dX12_offer_182 rfl fl_X12_240 (Or.inr rfl) sh_150 ?_
          refine xs_join 241 (fun q27 => [none, none, none, none, none, none, none, none, none, none, none, none, none, none, none, none, none, none, none, none, none, none, none]) (fun q27 => []) (fun q27 => q27) (fun q27 => ?_) (fun kj28 => ?_)
          · exact xs_vret dX12_offer_241 rfl rfl
          · refine xs_if_eq (n := 188) (tgt := 215) dX12_offer_185 rfl rfl (fun hc29 => ?_) (fun hc29 => ?_)
            · refine xs_aload_n (n := 216) dX12_offer_215 rfl rfl ?_
              refine xs_iconst (n := 217) (v := (1 : Int32)) dX12_offer_216 rfl rfl ?_
              refine ys_putzc (n := 220) dX12_offer_217 rfl fl_X12_240 rfl sh_150 (Or.inr rfl) (fun u30 => ?_)
              refine xs_aload_n (n := 221) dX12_offer_220 rfl rfl ?_
              refine xs_lload (n := 223) dX12_offer_221 rfl rfl ?_
              refine ys_putl (n := 226) dX12_offer_223 rfl fl_X12_243 rfl sh_150 (fun u31 => ?_)
              refine xs_aload_n (n := 227) dX12_offer_226 rfl rfl ?_
              refine xs_lload (n := 229) dX12_offer_227 rfl rfl ?_
              refine ys_putl (n := 232) dX12_offer_229 rfl fl_X12_247 rfl sh_150 (fun u32 => ?_)
              refine xs_aload_n (n := 233) dX12_offer_232 rfl rfl ?_
              refine xs_lload (n := 235) dX12_offer_233 rfl rfl ?_
              refine xs_lload (n := 237) dX12_offer_235 rfl rfl ?_
              refine xs_lmul (n := 238) dX12_offer_237 rfl ?_
              refine ys_putl (n := 241) dX12_offer_238 rfl fl_X12_250 rfl sh_150 (fun u33 => ?_)
              exact xs_gf (xs_end (kj28 (u33))) trivial
            · refine xs_lload (n := 190) dX12_offer_188 rfl rfl ?_
              refine xs_lload (n := 192) dX12_offer_190 rfl rfl ?_
              refine xs_lload (n := 194) dX12_offer_192 rfl rfl ?_
              refine xs_lload (n := 196) dX12_offer_194 rfl rfl ?_
              refine xs_lmul (n := 197) dX12_offer_196 rfl ?_
              refine xs_aload_n (n := 198) dX12_offer_197 rfl rfl ?_
              refine ys_getl (n := 201) dX12_offer_198 rfl fl_X12_243 sh_150 ?_
              refine xs_aload_n (n := 202) dX12_offer_201 rfl rfl ?_
              refine ys_getl (n := 205) dX12_offer_202 rfl fl_X12_247 sh_150 ?_
              refine xs_aload_n (n := 206) dX12_offer_205 rfl rfl ?_
              refine ys_getl (n := 209) dX12_offer_206 rfl fl_X12_250 sh_150 ?_
              refine ys_callsi (n := 212) (N := mt_X12_isAbove) dX12_offer_209 rfl ok_X12_isAbove tw_1179 st_X12_isAbove ⟨Nat.le_of_ble_eq_true rfl, Nat.le_of_ble_eq_true rfl⟩ [.long v25, .long q26.1, .long (q1 * x3), .long (q26.2.2 150 13), .long (q26.2.2 150 14), .long (q26.2.2 150 15)] [] rfl rfl (Nat.le_of_ble_eq_true rfl) rfl (Nat.le_of_ble_eq_true rfl) (en_X12_isAbove m v25 q26.1 (q1 * x3) (q26.2.2 150 13) (q26.2.2 150 14) (q26.2.2 150 15) q26.2) (fun q34 => ?_)
              refine xs_if_eq (n := 215) (tgt := 241) dX12_offer_212 rfl rfl (fun hc35 => ?_) (fun hc35 => ?_)
              · exact xs_gf (xs_end (kj28 (q34.2))) trivial
              · refine xs_aload_n (n := 216) dX12_offer_215 rfl rfl ?_
                refine xs_iconst (n := 217) (v := (1 : Int32)) dX12_offer_216 rfl rfl ?_
                refine ys_putzc (n := 220) dX12_offer_217 rfl fl_X12_240 rfl sh_150 (Or.inr rfl) (fun u36 => ?_)
                refine xs_aload_n (n := 221) dX12_offer_220 rfl rfl ?_
                refine xs_lload (n := 223) dX12_offer_221 rfl rfl ?_
                refine ys_putl (n := 226) dX12_offer_223 rfl fl_X12_243 rfl sh_150 (fun u37 => ?_)
                refine xs_aload_n (n := 227) dX12_offer_226 rfl rfl ?_
                refine xs_lload (n := 229) dX12_offer_227 rfl rfl ?_
                refine ys_putl (n := 232) dX12_offer_229 rfl fl_X12_247 rfl sh_150 (fun u38 => ?_)
                refine xs_aload_n (n := 233) dX12_offer_232 rfl rfl ?_
                refine xs_lload (n := 235) dX12_offer_233 rfl rfl ?_
                refine xs_lload (n := 237) dX12_offer_235 rfl rfl ?_
                refine xs_lmul (n := 238) dX12_offer_237 rfl ?_
                refine ys_putl (n := 241) dX12_offer_238 rfl fl_X12_250 rfl sh_150 (fun u39 => ?_)
                exact xs_gf (xs_end (kj28 (u39))) trivial
        · exact xs_vret dX12_offer_44 rfl rfl
  · refine xs_lif_ge (n := 7) (pc1 := 4) (tgt := 13) dX12_offer_3 rfl dX12_offer_4 rfl rfl (fun hc3 => ?_) (fun hc3 => ?_)
    · refine xs_lconst (n := 14) (v := (1 : Int64)) dX12_offer_13 rfl rfl ?_
      exact xs_gf (xs_end (kj2 ((1 : Int64)))) (And.intro rfl (And.intro rfl (And.intro rfl (And.intro rfl (And.intro rfl (And.intro rfl (And.intro rfl (And.intro rfl trivial))))))))
    · refine xs_ldc2 (n := 10) (v := (-1 : Int64)) dX12_offer_7 rfl tw_1124 ?_
      refine xs_goto (n := 14) dX12_offer_10 rfl ?_
      exact xs_gf (xs_end (kj2 ((-1 : Int64)))) (And.intro rfl (And.intro rfl (And.intro rfl (And.intro rfl (And.intro rfl (And.intro rfl (And.intro rfl (And.intro rfl trivial))))))))
