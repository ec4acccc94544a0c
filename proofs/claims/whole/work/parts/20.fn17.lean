def fn_X12_begin (m : Nat) (x0 : Int32) (x1 : Int32) (x2 : Int32) (u0 : xm_Y) : Option (Int32 × xm_Y) :=
  if x0 < 0 then (
  some ((-1 : Int32), u0)) else (
  if (u0.1 150 0) ≤ x0 then (
  some ((-1 : Int32), u0)) else (
  if x1 < 0 then (
  some ((-1 : Int32), u0)) else (
  if (1 : Int32) < x1 then (
  some ((-1 : Int32), u0)) else (
  if x2 = (-2000000 : Int32) then (
  xm_chk (xm_in (((2 : Int32) * x0) + x1) 6) (xm_let (w_J u0 157 (Int32.toNatClampNeg (((2 : Int32) * x0) + x1)) (Int32.toInt64 x2)) fun u6 =>
  ((if x2 = (-2000000 : Int32) then (
  some ((1 : Int32))) else (
  some ((0 : Int32))) : Option (Int32)).bind fun q7 =>
  xm_chk (xm_in (((2 : Int32) * x0) + x1) 6) (xm_let (w_I u6 158 (Int32.toNatClampNeg (((2 : Int32) * x0) + x1)) (vp_nar .boolean q7)) fun u10 =>
  some ((0 : Int32), u10))))) else (
  if x2 < (-1000000 : Int32) then (
  some ((-1 : Int32), u0)) else (
  if x2 ≤ (1000000 : Int32) then (
  xm_chk (xm_in (((2 : Int32) * x0) + x1) 6) (xm_let (w_J u0 157 (Int32.toNatClampNeg (((2 : Int32) * x0) + x1)) (Int32.toInt64 x2)) fun u13 =>
  ((if x2 = (-2000000 : Int32) then (
  some ((1 : Int32))) else (
  some ((0 : Int32))) : Option (Int32)).bind fun q14 =>
  xm_chk (xm_in (((2 : Int32) * x0) + x1) 6) (xm_let (w_I u13 158 (Int32.toNatClampNeg (((2 : Int32) * x0) + x1)) (vp_nar .boolean q14)) fun u17 =>
  some ((0 : Int32), u17))))) else (
  some ((-1 : Int32), u0))))))))
theorem en_X12_begin (m : Nat) (x0 : Int32) (x1 : Int32) (x2 : Int32) (u0 : xm_Y) : xs_ (fun x : Int32 => some (.int x)) sg_0 mt_X12_begin 0 [some (.ref 150), some (.int x0), some (.int x1), some (.int x2)] [] u0 0 0 (fn_X12_begin m x0 x1 x2 u0) := by
  refine xs_top ?_
  rw [fn_X12_begin]
  refine xs_iload_n (n := 1) dX12_begin_0 rfl rfl ?_
  refine xs_if_lt (n := 4) (tgt := 40) dX12_begin_1 rfl rfl (fun hc1 => ?_) (fun hc1 => ?_)
  · refine xs_iconst (n := 41) (v := (-1 : Int32)) dX12_begin_40 rfl rfl ?_
    exact xs_iret dX12_begin_41 rfl rfl
  · refine xs_iload_n (n := 5) dX12_begin_4 rfl rfl ?_
    refine xs_aload_n (n := 6) dX12_begin_5 rfl rfl ?_
    refine ys_geti (n := 9) dX12_begin_6 rfl fl_X12_7 (Or.inl rfl) sh_150 ?_
    refine xs_icmp_ge (n := 12) (tgt := 40) dX12_begin_9 rfl rfl (fun hc2 => ?_) (fun hc2 => ?_)
    · refine xs_iconst (n := 41) (v := (-1 : Int32)) dX12_begin_40 rfl rfl ?_
      exact xs_iret dX12_begin_41 rfl rfl
    · refine xs_iload_n (n := 13) dX12_begin_12 rfl rfl ?_
      refine xs_if_lt (n := 16) (tgt := 40) dX12_begin_13 rfl rfl (fun hc3 => ?_) (fun hc3 => ?_)
      · refine xs_iconst (n := 41) (v := (-1 : Int32)) dX12_begin_40 rfl rfl ?_
        exact xs_iret dX12_begin_41 rfl rfl
      · refine xs_iload_n (n := 17) dX12_begin_16 rfl rfl ?_
        refine xs_iconst (n := 18) (v := (1 : Int32)) dX12_begin_17 rfl rfl ?_
        refine xs_icmp_gt (n := 21) (tgt := 40) dX12_begin_18 rfl rfl (fun hc4 => ?_) (fun hc4 => ?_)
        · refine xs_iconst (n := 41) (v := (-1 : Int32)) dX12_begin_40 rfl rfl ?_
          exact xs_iret dX12_begin_41 rfl rfl
        · refine xs_iload_n (n := 22) dX12_begin_21 rfl rfl ?_
          refine xs_ldc_w (n := 25) (v := (-2000000 : Int32)) dX12_begin_22 rfl tw_1252 ?_
          refine xs_icmp_eq (n := 28) (tgt := 42) dX12_begin_25 rfl rfl (fun hc5 => ?_) (fun hc5 => ?_)
          · refine xs_aload_n (n := 43) dX12_begin_42 rfl rfl ?_
            refine ys_getr (n := 46) dX12_begin_43 rfl fl_X12_34 sh_150 rfl ?_
            refine xs_iconst (n := 47) (v := (2 : Int32)) dX12_begin_46 rfl rfl ?_
            refine xs_iload_n (n := 48) dX12_begin_47 rfl rfl ?_
            refine xs_imul (n := 49) dX12_begin_48 rfl ?_
            refine xs_iload_n (n := 50) dX12_begin_49 rfl rfl ?_
            refine xs_iadd (n := 51) dX12_begin_50 rfl ?_
            refine xs_iload_n (n := 52) dX12_begin_51 rfl rfl ?_
            refine xs_i2l (n := 53) dX12_begin_52 rfl ?_
            refine ys_lastore (n := 54) dX12_begin_53 rfl sh_157 (fun u6 => ?_)
            refine xs_aload_n (n := 55) dX12_begin_54 rfl rfl ?_
            refine ys_getr (n := 58) dX12_begin_55 rfl fl_X12_37 sh_150 rfl ?_
            refine xs_iconst (n := 59) (v := (2 : Int32)) dX12_begin_58 rfl rfl ?_
            refine xs_iload_n (n := 60) dX12_begin_59 rfl rfl ?_
            refine xs_imul (n := 61) dX12_begin_60 rfl ?_
            refine xs_iload_n (n := 62) dX12_begin_61 rfl rfl ?_
            refine xs_iadd (n := 63) dX12_begin_62 rfl ?_
            refine xs_iload_n (n := 64) dX12_begin_63 rfl rfl ?_
            refine xs_ldc_w (n := 67) (v := (-2000000 : Int32)) dX12_begin_64 rfl tw_1252 ?_
            refine xs_join 75 (fun q7 => [none, none, none, none]) (fun q7 => [.int q7, .int (((2 : Int32) * x0) + x1), .ref 158]) (fun q7 => u6) (fun q7 => ?_) (fun kj8 => ?_)
            · refine ys_bastore (n := 76) dX12_begin_75 rfl sh_158 (fun u10 => ?_)
              refine xs_iconst (n := 77) (v := (0 : Int32)) dX12_begin_76 rfl rfl ?_
              exact xs_iret dX12_begin_77 rfl rfl
            · refine xs_icmp_ne (n := 70) (tgt := 74) dX12_begin_67 rfl rfl (fun hc9 => ?_) (fun hc9 => ?_)
              · refine xs_iconst (n := 71) (v := (1 : Int32)) dX12_begin_70 rfl rfl ?_
                refine xs_goto (n := 75) dX12_begin_71 rfl ?_
                exact xs_gf (xs_end (kj8 ((1 : Int32)))) trivial
              · refine xs_iconst (n := 75) (v := (0 : Int32)) dX12_begin_74 rfl rfl ?_
                exact xs_gf (xs_end (kj8 ((0 : Int32)))) trivial
          · refine xs_iload_n (n := 29) dX12_begin_28 rfl rfl ?_
            refine xs_ldc (n := 31) (v := (-1000000 : Int32)) dX12_begin_29 rfl tw_1055 ?_
            refine xs_icmp_lt (n := 34) (tgt := 40) dX12_begin_31 rfl rfl (fun hc11 => ?_) (fun hc11 => ?_)
            · refine xs_iconst (n := 41) (v := (-1 : Int32)) dX12_begin_40 rfl rfl ?_
              exact xs_iret dX12_begin_41 rfl rfl
            · refine xs_iload_n (n := 35) dX12_begin_34 rfl rfl ?_
              refine xs_ldc (n := 37) (v := (1000000 : Int32)) dX12_begin_35 rfl tw_1056 ?_
              refine xs_icmp_le (n := 40) (tgt := 42) dX12_begin_37 rfl rfl (fun hc12 => ?_) (fun hc12 => ?_)
              · refine xs_aload_n (n := 43) dX12_begin_42 rfl rfl ?_
                refine ys_getr (n := 46) dX12_begin_43 rfl fl_X12_34 sh_150 rfl ?_
                refine xs_iconst (n := 47) (v := (2 : Int32)) dX12_begin_46 rfl rfl ?_
                refine xs_iload_n (n := 48) dX12_begin_47 rfl rfl ?_
                refine xs_imul (n := 49) dX12_begin_48 rfl ?_
                refine xs_iload_n (n := 50) dX12_begin_49 rfl rfl ?_
                refine xs_iadd (n := 51) dX12_begin_50 rfl ?_
                refine xs_iload_n (n := 52) dX12_begin_51 rfl rfl ?_
                refine xs_i2l (n := 53) dX12_begin_52 rfl ?_
                refine ys_lastore (n := 54) dX12_begin_53 rfl sh_157 (fun u13 => ?_)
                refine xs_aload_n (n := 55) dX12_begin_54 rfl rfl ?_
                refine ys_getr (n := 58) dX12_begin_55 rfl fl_X12_37 sh_150 rfl ?_
                refine xs_iconst (n := 59) (v := (2 : Int32)) dX12_begin_58 rfl rfl ?_
                refine xs_iload_n (n := 60) dX12_begin_59 rfl rfl ?_
                refine xs_imul (n := 61) dX12_begin_60 rfl ?_
                refine xs_iload_n (n := 62) dX12_begin_61 rfl rfl ?_
                refine xs_iadd (n := 63) dX12_begin_62 rfl ?_
                refine xs_iload_n (n := 64) dX12_begin_63 rfl rfl ?_
                refine xs_ldc_w (n := 67) (v := (-2000000 : Int32)) dX12_begin_64 rfl tw_1252 ?_
                refine xs_join 75 (fun q14 => [none, none, none, none]) (fun q14 => [.int q14, .int (((2 : Int32) * x0) + x1), .ref 158]) (fun q14 => u13) (fun q14 => ?_) (fun kj15 => ?_)
                · refine ys_bastore (n := 76) dX12_begin_75 rfl sh_158 (fun u17 => ?_)
                  refine xs_iconst (n := 77) (v := (0 : Int32)) dX12_begin_76 rfl rfl ?_
                  exact xs_iret dX12_begin_77 rfl rfl
                · refine xs_icmp_ne (n := 70) (tgt := 74) dX12_begin_67 rfl rfl (fun hc16 => ?_) (fun hc16 => ?_)
                  · refine xs_iconst (n := 71) (v := (1 : Int32)) dX12_begin_70 rfl rfl ?_
                    refine xs_goto (n := 75) dX12_begin_71 rfl ?_
                    exact xs_gf (xs_end (kj15 ((1 : Int32)))) trivial
                  · refine xs_iconst (n := 75) (v := (0 : Int32)) dX12_begin_74 rfl rfl ?_
                    exact xs_gf (xs_end (kj15 ((0 : Int32)))) trivial
              · refine xs_iconst (n := 41) (v := (-1 : Int32)) dX12_begin_40 rfl rfl ?_
                exact xs_iret dX12_begin_41 rfl rfl
def lp_X12_reach_18 (m : Nat) (a1 : Nat) (n1 : Nat) (c2 : Int32) (c3 : Int32) : Nat → Int32 → xm_Y → Option (Int32 × xm_Y)
  | 0, _, _ => none
  | n + 1, l4, u0 =>
  if (u0.1 150 0) ≤ l4 then (
  some (l4, u0)) else (
  xm_chk (xm_in (c2 + l4) n1) (
  xm_let (α := Int32) ((u0.1 a1 (Int32.toNatClampNeg (c2 + l4)))) fun v4 =>
  ((if v4 = 0 then (
  some (u0)) else (
  ((if v4 ≤ 0 then (
  some (((1 : Int32) - c3))) else (
  some (c3)) : Option (Int32)).bind fun q8 =>
  xm_let (α := Int32) ((((2 : Int32) * l4) + q8)) fun v11 =>
  ((if (u0.1 150 48) = 0 then (
  xm_chk (xm_in v11 6) (
  if (u0.1 170 (Int32.toNatClampNeg v11)) = 0 then (
  some ((0 : Int32))) else (
  some ((1 : Int32))))) else (
  some ((1 : Int32))) : Option (Int32)).bind fun q12 =>
  xm_chk (q12 = 0 ∨ q12 = 1) (
  xm_let (w_I u0 150 48 q12) fun u16 =>
  xm_chk (xm_in v11 6) (
  ((if (u16.1 170 (Int32.toNatClampNeg v11)) = 0 then (
  xm_chk (xm_in v11 6) (
  some (((Int32.toInt64 v4) * (u16.2 169 (Int32.toNatClampNeg v11)))))) else (
  some ((0 : Int64))) : Option (Int64)).bind fun q17 =>
  xm_let (w_J u16 150 49 ((u16.2 150 49) + q17)) fun u20 =>
  some (u20))))))) : Option (xm_Y)).bind fun q5 =>
  xm_let (α := Int32) (l4 + (1 : Int32)) fun v21 =>
  lp_X12_reach_18 m a1 n1 c2 c3 n v21 q5)))
def fn_X12_reach (m : Nat) (w : Nat) (wn : Nat) (x0 : Int32) (x1 : Int32) (u0 : xm_Y) : Option (Unit × xm_Y) :=
  xm_let (w_I u0 150 48 (0 : Int32)) fun u1 =>
  xm_chk (xm_in (x0 + (3 : Int32)) wn) (
  xm_let (w_J u1 150 49 (Int32.toInt64 (u1.1 w (Int32.toNatClampNeg (x0 + (3 : Int32)))))) fun u2 =>
  ((lp_X12_reach_18 m w wn x0 x1 m (0 : Int32) u2).bind fun q22 =>
  some ((), q22.2)))
theorem el_X12_reach_18 (m : Nat) (a1 : Nat) (n1 : Nat) (c2 : Int32) (c3 : Int32) (ha1 : xsh_ a1 13 n1) (K : Int32 × xm_Y → Option (Unit × xm_Y)) (kE : ∀ q : Int32 × xm_Y, xs_ (fun _ : Unit => none) sg_0 mt_X12_reach 125 [none, none, none, none, none, none, none] [] q.2 0 0 (K q)) : ∀ (n : Nat) (l4 : Int32) (u0 : xm_Y), xs_ (fun _ : Unit => none) sg_0 mt_X12_reach 18 [some (.ref 150), some (.ref a1), some (.int c2), some (.int c3), some (.int l4), none, none] [] u0 0 0 ((lp_X12_reach_18 m a1 n1 c2 c3 n l4 u0).bind K) := by
  intro n
  induction n with
  | zero =>
    intro l4 u0
    exact xs_none
  | succ n ih =>
    intro l4 u0
    rw [lp_X12_reach_18]
    refine xs_iload (n := 20) dX12_reach_18 rfl rfl ?_
    refine xs_aload_n (n := 21) dX12_reach_20 rfl rfl ?_
    refine ys_geti (n := 24) dX12_reach_21 rfl fl_X12_7 (Or.inl rfl) sh_150 ?_
    refine xs_icmp_ge (n := 27) (tgt := 125) dX12_reach_24 rfl rfl (fun hc3 => ?_) (fun hc3 => ?_)
    · exact xs_gf (xs_end (kE (l4, u0))) trivial
    · refine xs_aload_n (n := 28) dX12_reach_27 rfl rfl ?_
      refine xs_iload_n (n := 29) dX12_reach_28 rfl rfl ?_
      refine xs_iload (n := 31) dX12_reach_29 rfl rfl ?_
      refine xs_iadd (n := 32) dX12_reach_31 rfl ?_
      refine ys_iaload (n := 33) dX12_reach_32 rfl ha1 ?_
      refine xs_leti (fun v4 => ?_)
      refine xs_istore (n := 35) (lv' := [some (.ref 150), some (.ref a1), some (.int c2), some (.int c3), some (.int l4), some (.int v4), none]) dX12_reach_33 rfl (Nat.le_of_ble_eq_true rfl) rfl ?_
      refine xs_iload (n := 37) dX12_reach_35 rfl rfl ?_
      refine xs_join 119 (fun q5 => [some (.ref 150), some (.ref a1), some (.int c2), some (.int c3), some (.int l4), none, none]) (fun q5 => []) (fun q5 => q5) (fun q5 => ?_) (fun kj6 => ?_)
      · refine xs_iincl (n := 122) (dv := (1 : Int32)) (fun v21 => [some (.ref 150), some (.ref a1), some (.int c2), some (.int c3), some (.int v21), none, none]) dX12_reach_119 rfl rfl rfl (Nat.le_of_ble_eq_true rfl) (fun _ => rfl) (fun v21 => ?_)
        refine xs_goto (n := 18) dX12_reach_122 rfl ?_
        exact xs_gf (ih v21 q5) (And.intro rfl (And.intro rfl (And.intro rfl (And.intro rfl (And.intro rfl trivial)))))
      · refine xs_if_eq (n := 40) (tgt := 119) dX12_reach_37 rfl rfl (fun hc7 => ?_) (fun hc7 => ?_)
        · exact xs_gf (xs_end (kj6 (u0))) (And.intro rfl (And.intro rfl (And.intro rfl (And.intro rfl (And.intro rfl trivial)))))
        · refine xs_iconst (n := 41) (v := (2 : Int32)) dX12_reach_40 rfl rfl ?_
          refine xs_iload (n := 43) dX12_reach_41 rfl rfl ?_
          refine xs_imul (n := 44) dX12_reach_43 rfl ?_
          refine xs_iload (n := 46) dX12_reach_44 rfl rfl ?_
          refine xs_join 56 (fun q8 => [some (.ref 150), some (.ref a1), some (.int c2), some (.int c3), some (.int l4), some (.int v4), none]) (fun q8 => [.int q8, .int ((2 : Int32) * l4)]) (fun q8 => u0) (fun q8 => ?_) (fun kj9 => ?_)
          · refine xs_iadd (n := 57) dX12_reach_56 rfl ?_
            refine xs_leti (fun v11 => ?_)
            refine xs_istore (n := 59) (lv' := [some (.ref 150), some (.ref a1), some (.int c2), some (.int c3), some (.int l4), some (.int v4), some (.int v11)]) dX12_reach_57 rfl (Nat.le_of_ble_eq_true rfl) rfl ?_
            refine xs_aload_n (n := 60) dX12_reach_59 rfl rfl ?_
            refine xs_aload_n (n := 61) dX12_reach_60 rfl rfl ?_
            refine ys_geti (n := 64) dX12_reach_61 rfl fl_X12_322 (Or.inr rfl) sh_150 ?_
            refine xs_join 82 (fun q12 => [some (.ref 150), some (.ref a1), some (.int c2), some (.int c3), some (.int l4), some (.int v4), some (.int v11)]) (fun q12 => [.int q12, .ref 150]) (fun q12 => u0) (fun q12 => ?_) (fun kj13 => ?_)
            · refine ys_putz (n := 85) dX12_reach_82 rfl fl_X12_322 rfl sh_150 (fun u16 => ?_)
              refine xs_aload_n (n := 86) dX12_reach_85 rfl rfl ?_
              refine xs_dup (n := 87) dX12_reach_86 rfl rfl ?_
              refine ys_getl (n := 90) dX12_reach_87 rfl fl_X12_325 sh_150 ?_
              refine xs_aload_n (n := 91) dX12_reach_90 rfl rfl ?_
              refine ys_getr (n := 94) dX12_reach_91 rfl fl_X12_77 sh_150 rfl ?_
              refine xs_iload (n := 96) dX12_reach_94 rfl rfl ?_
              refine ys_baload (n := 97) dX12_reach_96 rfl sh_170 ?_
              refine xs_join 115 (fun q17 => [some (.ref 150), some (.ref a1), some (.int c2), some (.int c3), some (.int l4), none, none]) (fun q17 => [.long q17, .long (u16.2 150 49), .ref 150]) (fun q17 => u16) (fun q17 => ?_) (fun kj18 => ?_)
              · refine xs_ladd (n := 116) dX12_reach_115 rfl ?_
                refine ys_putl (n := 119) dX12_reach_116 rfl fl_X12_325 rfl sh_150 (fun u20 => ?_)
                exact xs_gf (xs_end (kj6 (u20))) (And.intro rfl (And.intro rfl (And.intro rfl (And.intro rfl (And.intro rfl trivial)))))
              · refine xs_if_eq (n := 100) (tgt := 104) dX12_reach_97 rfl rfl (fun hc19 => ?_) (fun hc19 => ?_)
                · refine xs_iload (n := 106) dX12_reach_104 rfl rfl ?_
                  refine xs_i2l (n := 107) dX12_reach_106 rfl ?_
                  refine xs_aload_n (n := 108) dX12_reach_107 rfl rfl ?_
                  refine ys_getr (n := 111) dX12_reach_108 rfl fl_X12_74 sh_150 rfl ?_
                  refine xs_iload (n := 113) dX12_reach_111 rfl rfl ?_
                  refine ys_laload (n := 114) dX12_reach_113 rfl sh_169 ?_
                  refine xs_lmul (n := 115) dX12_reach_114 rfl ?_
                  exact xs_gf (xs_end (kj18 (((Int32.toInt64 v4) * (u16.2 169 (Int32.toNatClampNeg v11)))))) (And.intro rfl (And.intro rfl (And.intro rfl (And.intro rfl (And.intro rfl trivial)))))
                · refine xs_lconst (n := 101) (v := (0 : Int64)) dX12_reach_100 rfl rfl ?_
                  refine xs_goto (n := 115) dX12_reach_101 rfl ?_
                  exact xs_gf (xs_end (kj18 ((0 : Int64)))) (And.intro rfl (And.intro rfl (And.intro rfl (And.intro rfl (And.intro rfl trivial)))))
            · refine xs_if_ne (n := 67) (tgt := 77) dX12_reach_64 rfl rfl (fun hc14 => ?_) (fun hc14 => ?_)
              · refine xs_aload_n (n := 68) dX12_reach_67 rfl rfl ?_
                refine ys_getr (n := 71) dX12_reach_68 rfl fl_X12_77 sh_150 rfl ?_
                refine xs_iload (n := 73) dX12_reach_71 rfl rfl ?_
                refine ys_baload (n := 74) dX12_reach_73 rfl sh_170 ?_
                refine xs_if_eq (n := 77) (tgt := 81) dX12_reach_74 rfl rfl (fun hc15 => ?_) (fun hc15 => ?_)
                · refine xs_iconst (n := 82) (v := (0 : Int32)) dX12_reach_81 rfl rfl ?_
                  exact xs_gf (xs_end (kj13 ((0 : Int32)))) (And.intro rfl (And.intro rfl (And.intro rfl (And.intro rfl (And.intro rfl (And.intro rfl (And.intro rfl trivial)))))))
                · refine xs_iconst (n := 78) (v := (1 : Int32)) dX12_reach_77 rfl rfl ?_
                  refine xs_goto (n := 82) dX12_reach_78 rfl ?_
                  exact xs_gf (xs_end (kj13 ((1 : Int32)))) (And.intro rfl (And.intro rfl (And.intro rfl (And.intro rfl (And.intro rfl (And.intro rfl (And.intro rfl trivial)))))))
              · refine xs_iconst (n := 78) (v := (1 : Int32)) dX12_reach_77 rfl rfl ?_
                refine xs_goto (n := 82) dX12_reach_78 rfl ?_
                exact xs_gf (xs_end (kj13 ((1 : Int32)))) (And.intro rfl (And.intro rfl (And.intro rfl (And.intro rfl (And.intro rfl (And.intro rfl (And.intro rfl trivial)))))))
          · refine xs_if_le (n := 49) (tgt := 53) dX12_reach_46 rfl rfl (fun hc10 => ?_) (fun hc10 => ?_)
            · refine xs_iconst (n := 54) (v := (1 : Int32)) dX12_reach_53 rfl rfl ?_
              refine xs_iload_n (n := 55) dX12_reach_54 rfl rfl ?_
              refine xs_isub (n := 56) dX12_reach_55 rfl ?_
              exact xs_gf (xs_end (kj9 (((1 : Int32) - c3)))) (And.intro rfl (And.intro rfl (And.intro rfl (And.intro rfl (And.intro rfl (And.intro rfl trivial))))))
            · refine xs_iload_n (n := 50) dX12_reach_49 rfl rfl ?_
              refine xs_goto (n := 56) dX12_reach_50 rfl ?_
              exact xs_gf (xs_end (kj9 (c3))) (And.intro rfl (And.intro rfl (And.intro rfl (And.intro rfl (And.intro rfl (And.intro rfl trivial))))))
theorem en_X12_reach (m : Nat) (w : Nat) (wn : Nat) (x0 : Int32) (x1 : Int32) (hw_ : xsh_ w 13 wn) (u0 : xm_Y) : xs_ (fun _ : Unit => none) sg_0 mt_X12_reach 0 [some (.ref 150), some (.ref w), some (.int x0), some (.int x1), none, none, none] [] u0 0 0 (fn_X12_reach m w wn x0 x1 u0) := by
  refine xs_top ?_
  rw [fn_X12_reach]
  refine xs_aload_n (n := 1) dX12_reach_0 rfl rfl ?_
  refine xs_iconst (n := 2) (v := (0 : Int32)) dX12_reach_1 rfl rfl ?_
  refine ys_putzc (n := 5) dX12_reach_2 rfl fl_X12_322 rfl sh_150 (Or.inl rfl) (fun u1 => ?_)
  refine xs_aload_n (n := 6) dX12_reach_5 rfl rfl ?_
  refine xs_aload_n (n := 7) dX12_reach_6 rfl rfl ?_
  refine xs_iload_n (n := 8) dX12_reach_7 rfl rfl ?_
  refine xs_iconst (n := 9) (v := (3 : Int32)) dX12_reach_8 rfl rfl ?_
  refine xs_iadd (n := 10) dX12_reach_9 rfl ?_
  refine ys_iaload (n := 11) dX12_reach_10 rfl hw_ ?_
  refine xs_i2l (n := 12) dX12_reach_11 rfl ?_
  refine ys_putl (n := 15) dX12_reach_12 rfl fl_X12_325 rfl sh_150 (fun u2 => ?_)
  refine xs_iconst (n := 16) (v := (0 : Int32)) dX12_reach_15 rfl rfl ?_
  refine xs_istore (n := 18) (lv' := [some (.ref 150), some (.ref w), some (.int x0), some (.int x1), some (.int (0 : Int32)), none, none]) dX12_reach_16 rfl (Nat.le_of_ble_eq_true rfl) rfl ?_
  refine xs_reg ?_
  refine xs_fg (lv' := [some (.ref 150), some (.ref w), some (.int x0), some (.int x1), some (.int (0 : Int32)), none, none]) (And.intro rfl (And.intro rfl (And.intro rfl (And.intro rfl (And.intro rfl trivial))))) ?_
  refine el_X12_reach_18 m w wn x0 x1 hw_ _ (fun q22 => ?_) m (0 : Int32) u2
  exact xs_vret dX12_reach_125 rfl rfl
def lp_X12_isPassed_4 (m : Nat) (c1 : Int32) : Nat → Int32 → Int32 → xm_Y → Option (Int32 × Int32 × xm_Y)
  | 0, _, _, _ => none
  | n + 1, l2, l3, u0 =>
  xm_chk (xm_in c1 5) (
  if (u0.1 151 (Int32.toNatClampNeg c1)) ≤ l3 then (
  some (l2, l3, u0)) else (
  ((fn_X12_reach m 152 120 ((((6 : Int32) * c1) + l3) * (4 : Int32)) (1 : Int32) u0).bind fun q2 =>
  ((if l2 = 0 then (
  if (q2.2.1 150 48) = 0 then (
  if (0 : Int64) ≤ (q2.2.2 150 49) then (
  some ((0 : Int32))) else (
  some ((1 : Int32)))) else (
  some ((0 : Int32)))) else (
  some ((1 : Int32))) : Option (Int32)).bind fun q3 =>
  xm_let (α := Int32) (l3 + (1 : Int32)) fun v8 =>
  lp_X12_isPassed_4 m c1 n q3 v8 q2.2))))
def fn_X12_isPassed (m : Nat) (x0 : Int32) (u0 : xm_Y) : Option (Int32 × xm_Y) :=
  ((lp_X12_isPassed_4 m x0 m (0 : Int32) (0 : Int32) u0).bind fun q9 =>
  xm_chk (q9.1 = 0 ∨ q9.1 = 1) (some (q9.1, q9.2.2)))
theorem el_X12_isPassed_4 (m : Nat) (c1 : Int32) (K : Int32 × Int32 × xm_Y → Option (Int32 × xm_Y)) (kE : ∀ q : Int32 × Int32 × xm_Y, xs_ (fun x : Int32 => some (.int x)) sg_0 mt_X12_isPassed 63 [none, none, some (.int q.1), none] [] q.2.2 0 0 (K q)) : ∀ (n : Nat) (l2 : Int32) (l3 : Int32) (u0 : xm_Y), xs_ (fun x : Int32 => some (.int x)) sg_0 mt_X12_isPassed 4 [some (.ref 150), some (.int c1), some (.int l2), some (.int l3)] [] u0 0 0 ((lp_X12_isPassed_4 m c1 n l2 l3 u0).bind K) := by
  intro n
  induction n with
  | zero =>
    intro l2 l3 u0
    exact xs_none
  | succ n ih =>
    intro l2 l3 u0
    rw [lp_X12_isPassed_4]
    refine xs_iload_n (n := 5) dX12_isPassed_4 rfl rfl ?_
    refine xs_aload_n (n := 6) dX12_isPassed_5 rfl rfl ?_
    refine ys_getr (n := 9) dX12_isPassed_6 rfl fl_X12_13 sh_150 rfl ?_
    refine xs_iload_n (n := 10) dX12_isPassed_9 rfl rfl ?_
    refine ys_iaload (n := 11) dX12_isPassed_10 rfl sh_151 ?_
    refine xs_icmp_ge (n := 14) (tgt := 63) dX12_isPassed_11 rfl rfl (fun hc1 => ?_) (fun hc1 => ?_)
    · exact xs_gf (xs_end (kE (l2, l3, u0))) (And.intro rfl trivial)
    · refine xs_aload_n (n := 15) dX12_isPassed_14 rfl rfl ?_
      refine xs_aload_n (n := 16) dX12_isPassed_15 rfl rfl ?_
      refine ys_getr (n := 19) dX12_isPassed_16 rfl fl_X12_17 sh_150 rfl ?_
      refine xs_bipush (n := 21) (v := (6 : Int32)) dX12_isPassed_19 rfl rfl ?_
      refine xs_iload_n (n := 22) dX12_isPassed_21 rfl rfl ?_
      refine xs_imul (n := 23) dX12_isPassed_22 rfl ?_
      refine xs_iload_n (n := 24) dX12_isPassed_23 rfl rfl ?_
      refine xs_iadd (n := 25) dX12_isPassed_24 rfl ?_
      refine xs_iconst (n := 26) (v := (4 : Int32)) dX12_isPassed_25 rfl rfl ?_
      refine xs_imul (n := 27) dX12_isPassed_26 rfl ?_
      refine xs_iconst (n := 28) (v := (1 : Int32)) dX12_isPassed_27 rfl rfl ?_
      refine ys_callvv (n := 31) (N := mt_X12_reach) dX12_isPassed_28 rfl ok_X12_reach tw_1265 im_X12_reach se_X12_reach ⟨Nat.le_of_ble_eq_true rfl, Nat.le_of_ble_eq_true rfl⟩ [.ref 152, .int ((((6 : Int32) * c1) + l3) * (4 : Int32)), .int (1 : Int32)] [] rfl rfl (Nat.le_of_ble_eq_true rfl) rfl (Nat.le_of_ble_eq_true rfl) (en_X12_reach m 152 120 ((((6 : Int32) * c1) + l3) * (4 : Int32)) (1 : Int32) sh_152 u0) sh_150 (by decide) rfl (fun q2 => ?_)
      refine xs_iload_n (n := 32) dX12_isPassed_31 rfl rfl ?_
      refine xs_join 56 (fun q3 => [some (.ref 150), some (.int c1), none, some (.int l3)]) (fun q3 => [.int q3]) (fun q3 => q2.2) (fun q3 => ?_) (fun kj4 => ?_)
      · refine xs_istore_n (n := 57) (lv' := [some (.ref 150), some (.int c1), some (.int q3), some (.int l3)]) dX12_isPassed_56 rfl (Nat.le_of_ble_eq_true rfl) rfl ?_
        refine xs_iincl (n := 60) (dv := (1 : Int32)) (fun v8 => [some (.ref 150), some (.int c1), some (.int q3), some (.int v8)]) dX12_isPassed_57 rfl rfl rfl (Nat.le_of_ble_eq_true rfl) (fun _ => rfl) (fun v8 => ?_)
        refine xs_goto (n := 4) dX12_isPassed_60 rfl ?_
        exact xs_gf (ih q3 v8 q2.2) (And.intro rfl (And.intro rfl (And.intro rfl (And.intro rfl trivial))))
      · refine xs_if_ne (n := 35) (tgt := 51) dX12_isPassed_32 rfl rfl (fun hc5 => ?_) (fun hc5 => ?_)
        · refine xs_aload_n (n := 36) dX12_isPassed_35 rfl rfl ?_
          refine ys_geti (n := 39) dX12_isPassed_36 rfl fl_X12_322 (Or.inr rfl) sh_150 ?_
          refine xs_if_ne (n := 42) (tgt := 55) dX12_isPassed_39 rfl rfl (fun hc6 => ?_) (fun hc6 => ?_)
          · refine xs_aload_n (n := 43) dX12_isPassed_42 rfl rfl ?_
            refine ys_getl (n := 46) dX12_isPassed_43 rfl fl_X12_325 sh_150 ?_
            refine xs_lconst (n := 47) (v := (0 : Int64)) dX12_isPassed_46 rfl rfl ?_
            refine xs_lif_ge (n := 51) (pc1 := 48) (tgt := 55) dX12_isPassed_47 rfl dX12_isPassed_48 rfl rfl (fun hc7 => ?_) (fun hc7 => ?_)
            · refine xs_iconst (n := 56) (v := (0 : Int32)) dX12_isPassed_55 rfl rfl ?_
              exact xs_gf (xs_end (kj4 ((0 : Int32)))) (And.intro rfl (And.intro rfl (And.intro rfl trivial)))
            · refine xs_iconst (n := 52) (v := (1 : Int32)) dX12_isPassed_51 rfl rfl ?_
              refine xs_goto (n := 56) dX12_isPassed_52 rfl ?_
              exact xs_gf (xs_end (kj4 ((1 : Int32)))) (And.intro rfl (And.intro rfl (And.intro rfl trivial)))
          · refine xs_iconst (n := 56) (v := (0 : Int32)) dX12_isPassed_55 rfl rfl ?_
            exact xs_gf (xs_end (kj4 ((0 : Int32)))) (And.intro rfl (And.intro rfl (And.intro rfl trivial)))
        · refine xs_iconst (n := 52) (v := (1 : Int32)) dX12_isPassed_51 rfl rfl ?_
          refine xs_goto (n := 56) dX12_isPassed_52 rfl ?_
          exact xs_gf (xs_end (kj4 ((1 : Int32)))) (And.intro rfl (And.intro rfl (And.intro rfl trivial)))
theorem en_X12_isPassed (m : Nat) (x0 : Int32) (u0 : xm_Y) : xs_ (fun x : Int32 => some (.int x)) sg_0 mt_X12_isPassed 0 [some (.ref 150), some (.int x0), none, none] [] u0 0 0 (fn_X12_isPassed m x0 u0) := by
  refine xs_top ?_
  rw [fn_X12_isPassed]
  refine xs_iconst (n := 1) (v := (0 : Int32)) dX12_isPassed_0 rfl rfl ?_
  refine xs_istore_n (n := 2) (lv' := [some (.ref 150), some (.int x0), some (.int (0 : Int32)), none]) dX12_isPassed_1 rfl (Nat.le_of_ble_eq_true rfl) rfl ?_
  refine xs_iconst (n := 3) (v := (0 : Int32)) dX12_isPassed_2 rfl rfl ?_
  refine xs_istore_n (n := 4) (lv' := [some (.ref 150), some (.int x0), some (.int (0 : Int32)), some (.int (0 : Int32))]) dX12_isPassed_3 rfl (Nat.le_of_ble_eq_true rfl) rfl ?_
  refine xs_reg ?_
  refine xs_fg (lv' := [some (.ref 150), some (.int x0), some (.int (0 : Int32)), some (.int (0 : Int32))]) (And.intro rfl (And.intro rfl (And.intro rfl (And.intro rfl trivial)))) ?_
  refine el_X12_isPassed_4 m x0 _ (fun q9 => ?_) m (0 : Int32) (0 : Int32) u0
  refine xs_iload_n (n := 64) dX12_isPassed_63 rfl rfl ?_
  exact xs_zret dX12_isPassed_64 rfl rfl
def fn_X12_isChanged (m : Nat) (x0 : Int32) (u0 : xm_Y) : Option (Int32 × xm_Y) :=
  xm_chk (xm_in x0 6) (
  xm_chk (xm_in x0 6) (
  ((if (u0.1 172 (Int32.toNatClampNeg x0)) = (u0.1 170 (Int32.toNatClampNeg x0)) then (
  xm_chk (xm_in x0 6) (
  if (u0.1 172 (Int32.toNatClampNeg x0)) = 0 then (
  xm_chk (xm_in x0 6) (
  xm_chk (xm_in x0 6) (
  if (u0.2 171 (Int32.toNatClampNeg x0)) = (u0.2 169 (Int32.toNatClampNeg x0)) then (
  some ((0 : Int32))) else (
  some ((1 : Int32)))))) else (
  some ((0 : Int32))))) else (
  some ((1 : Int32))) : Option (Int32)).bind fun q1 =>
  xm_chk (q1 = 0 ∨ q1 = 1) (some (q1, u0)))))
theorem en_X12_isChanged (m : Nat) (x0 : Int32) (u0 : xm_Y) : xs_ (fun x : Int32 => some (.int x)) sg_0 mt_X12_isChanged 0 [some (.ref 150), some (.int x0)] [] u0 0 0 (fn_X12_isChanged m x0 u0) := by
  refine xs_top ?_
  rw [fn_X12_isChanged]
  refine xs_aload_n (n := 1) dX12_isChanged_0 rfl rfl ?_
  refine ys_getr (n := 4) dX12_isChanged_1 rfl fl_X12_83 sh_150 rfl ?_
  refine xs_iload_n (n := 5) dX12_isChanged_4 rfl rfl ?_
  refine ys_baload (n := 6) dX12_isChanged_5 rfl sh_172 ?_
  refine xs_aload_n (n := 7) dX12_isChanged_6 rfl rfl ?_
  refine ys_getr (n := 10) dX12_isChanged_7 rfl fl_X12_77 sh_150 rfl ?_
  refine xs_iload_n (n := 11) dX12_isChanged_10 rfl rfl ?_
  refine ys_baload (n := 12) dX12_isChanged_11 rfl sh_170 ?_
  refine xs_join 45 (fun q1 => [none, none]) (fun q1 => [.int q1]) (fun q1 => u0) (fun q1 => ?_) (fun kj2 => ?_)
  · exact xs_zret dX12_isChanged_45 rfl rfl
  · refine xs_icmp_ne (n := 15) (tgt := 40) dX12_isChanged_12 rfl rfl (fun hc3 => ?_) (fun hc3 => ?_)
    · refine xs_aload_n (n := 16) dX12_isChanged_15 rfl rfl ?_
      refine ys_getr (n := 19) dX12_isChanged_16 rfl fl_X12_83 sh_150 rfl ?_
      refine xs_iload_n (n := 20) dX12_isChanged_19 rfl rfl ?_
      refine ys_baload (n := 21) dX12_isChanged_20 rfl sh_172 ?_
      refine xs_if_ne (n := 24) (tgt := 44) dX12_isChanged_21 rfl rfl (fun hc4 => ?_) (fun hc4 => ?_)
      · refine xs_aload_n (n := 25) dX12_isChanged_24 rfl rfl ?_
        refine ys_getr (n := 28) dX12_isChanged_25 rfl fl_X12_80 sh_150 rfl ?_
        refine xs_iload_n (n := 29) dX12_isChanged_28 rfl rfl ?_
        refine ys_laload (n := 30) dX12_isChanged_29 rfl sh_171 ?_
        refine xs_aload_n (n := 31) dX12_isChanged_30 rfl rfl ?_
        refine ys_getr (n := 34) dX12_isChanged_31 rfl fl_X12_74 sh_150 rfl ?_
        refine xs_iload_n (n := 35) dX12_isChanged_34 rfl rfl ?_
        refine ys_laload (n := 36) dX12_isChanged_35 rfl sh_169 ?_
        refine xs_lif_eq (n := 40) (pc1 := 37) (tgt := 44) dX12_isChanged_36 rfl dX12_isChanged_37 rfl rfl (fun hc5 => ?_) (fun hc5 => ?_)
        · refine xs_iconst (n := 45) (v := (0 : Int32)) dX12_isChanged_44 rfl rfl ?_
          exact xs_gf (xs_end (kj2 ((0 : Int32)))) trivial
        · refine xs_iconst (n := 41) (v := (1 : Int32)) dX12_isChanged_40 rfl rfl ?_
          refine xs_goto (n := 45) dX12_isChanged_41 rfl ?_
          exact xs_gf (xs_end (kj2 ((1 : Int32)))) trivial
      · refine xs_iconst (n := 45) (v := (0 : Int32)) dX12_isChanged_44 rfl rfl ?_
        exact xs_gf (xs_end (kj2 ((0 : Int32)))) trivial
    · refine xs_iconst (n := 41) (v := (1 : Int32)) dX12_isChanged_40 rfl rfl ?_
      refine xs_goto (n := 45) dX12_isChanged_41 rfl ?_
      exact xs_gf (xs_end (kj2 ((1 : Int32)))) trivial
def lp_X12_goRound_2 (m : Nat) : Nat → Int32 → xm_Y → Option (Int32 × xm_Y)
  | 0, _, _ => none
  | n + 1, l1, u0 =>
  if (6 : Int32) ≤ l1 then (
  some (l1, u0)) else (
  xm_chk (xm_in l1 6) (
  xm_chk (xm_in l1 6) (xm_let (w_J u0 171 (Int32.toNatClampNeg l1) (u0.2 169 (Int32.toNatClampNeg l1))) fun u2 =>
  xm_chk (xm_in l1 6) (
  xm_chk (xm_in l1 6) (xm_let (w_I u2 172 (Int32.toNatClampNeg l1) (vp_nar .boolean (u2.1 170 (Int32.toNatClampNeg l1)))) fun u3 =>
  xm_let (α := Int32) (l1 + (1 : Int32)) fun v4 =>
  lp_X12_goRound_2 m n v4 u3)))))
def lp_X12_goRound_61 (m : Nat) (c1 : Int32) : Nat → Int32 → xm_Y → Option (Int32 × xm_Y)
  | 0, _, _ => none
  | n + 1, l2, u0 =>
  if ((2 : Int32) * (u0.1 150 0)) ≤ l2 then (
  some (l2, u0)) else (
  xm_chk (¬ (2 : Int32) = 0) (
  xm_chk (¬ (2 : Int32) = 0) (
  ((fn_X12_reach m 153 60 ((((3 : Int32) * c1) + (l2 / (2 : Int32))) * (4 : Int32)) (l2 - l2 / (2 : Int32) * (2 : Int32)) u0).bind fun q12 =>
  xm_chk (xm_in l2 6) (
  ((if (q12.2.1 172 (Int32.toNatClampNeg l2)) = 0 then (
  if (q12.2.1 150 48) = 0 then (
  some ((0 : Int32))) else (
  some ((1 : Int32)))) else (
  some ((1 : Int32))) : Option (Int32)).bind fun q13 =>
  xm_chk (xm_in l2 6) (xm_let (w_I q12.2 172 (Int32.toNatClampNeg l2) (vp_nar .boolean q13)) fun u17 =>
  xm_chk (¬ (2 : Int32) = 0) (
  ((if (l2 - l2 / (2 : Int32) * (2 : Int32)) = 0 then (
  xm_chk (xm_in l2 6) (
  if (u17.2 171 (Int32.toNatClampNeg l2)) ≤ (u17.2 150 49) then (
  some ((0 : Int32))) else (
  some ((1 : Int32))))) else (
  xm_chk (xm_in l2 6) (
  if (u17.2 150 49) ≤ (u17.2 171 (Int32.toNatClampNeg l2)) then (
  some ((0 : Int32))) else (
  some ((1 : Int32))))) : Option (Int32)).bind fun q18 =>
  ((if (u17.1 150 48) = 0 then (
  if q18 = 0 then (
  xm_chk (xm_in l2 6) (
  some ((u17.2 171 (Int32.toNatClampNeg l2))))) else (
  some ((u17.2 150 49)))) else (
  xm_chk (xm_in l2 6) (
  some ((u17.2 171 (Int32.toNatClampNeg l2))))) : Option (Int64)).bind fun q23 =>
  xm_chk (xm_in l2 6) (xm_let (w_J u17 171 (Int32.toNatClampNeg l2) q23) fun u27 =>
  xm_let (α := Int32) (l2 + (1 : Int32)) fun v28 =>
  lp_X12_goRound_61 m c1 n v28 u27)))))))))))
def lp_X12_goRound_40 (m : Nat) : Nat → Int32 → xm_Y → Option (Int32 × xm_Y)
  | 0, _, _ => none
  | n + 1, l1, u0 =>
  if (u0.1 150 1) ≤ l1 then (
  some (l1, u0)) else (
  ((fn_X12_isPassed m l1 u0).bind fun q7 =>
  ((if q7.1 = 0 then (
  ((lp_X12_goRound_61 m l1 m (0 : Int32) q7.2).bind fun q29 =>
  some (q29.2))) else (
  some (q7.2)) : Option (xm_Y)).bind fun q8 =>
  xm_let (α := Int32) (l1 + (1 : Int32)) fun v30 =>
  lp_X12_goRound_40 m n v30 q8)))
def lp_X12_goRound_212 (m : Nat) : Nat → Int32 → Int32 → xm_Y → Option (Int32 × Int32 × xm_Y)
  | 0, _, _, _ => none
  | n + 1, l1, l2, u0 =>
  if ((2 : Int32) * (u0.1 150 0)) ≤ l2 then (
  some (l1, l2, u0)) else (
  ((if l1 = 0 then (
  ((fn_X12_isChanged m l2 u0).bind fun q36 =>
  if q36.1 = 0 then (
  some ((0 : Int32), q36.2)) else (
  some ((1 : Int32), q36.2)))) else (
  some ((1 : Int32), u0)) : Option (Int32 × xm_Y)).bind fun q33 =>
  xm_let (α := Int32) (l2 + (1 : Int32)) fun v38 =>
  lp_X12_goRound_212 m n q33.1 v38 q33.2))
def fn_X12_goRound (m : Nat) (u0 : xm_Y) : Option (Int32 × xm_Y) :=
  ((lp_X12_goRound_2 m m (0 : Int32) u0).bind fun q5 =>
  ((lp_X12_goRound_40 m m (0 : Int32) q5.2).bind fun q31 =>
  ((lp_X12_goRound_212 m m (0 : Int32) (0 : Int32) q31.2).bind fun q39 =>
  xm_chk (q39.1 = 0 ∨ q39.1 = 1) (some (q39.1, q39.2.2)))))
theorem el_X12_goRound_2 (m : Nat) (K : Int32 × xm_Y → Option (Int32 × xm_Y)) (kE : ∀ q : Int32 × xm_Y, xs_ (fun x : Int32 => some (.int x)) sg_0 mt_X12_goRound 38 [some (.ref 150), none, none, none] [] q.2 0 0 (K q)) : ∀ (n : Nat) (l1 : Int32) (u0 : xm_Y), xs_ (fun x : Int32 => some (.int x)) sg_0 mt_X12_goRound 2 [some (.ref 150), some (.int l1), none, none] [] u0 0 0 ((lp_X12_goRound_2 m n l1 u0).bind K) := by
  intro n
  induction n with
  | zero =>
    intro l1 u0
    exact xs_none
  | succ n ih =>
    intro l1 u0
    rw [lp_X12_goRound_2]
    refine xs_iload_n (n := 3) dX12_goRound_2 rfl rfl ?_
    refine xs_bipush (n := 5) (v := (6 : Int32)) dX12_goRound_3 rfl rfl ?_
    refine xs_icmp_ge (n := 8) (tgt := 38) dX12_goRound_5 rfl rfl (fun hc1 => ?_) (fun hc1 => ?_)
    · exact xs_gf (xs_end (kE (l1, u0))) (And.intro rfl trivial)
    · refine xs_aload_n (n := 9) dX12_goRound_8 rfl rfl ?_
      refine ys_getr (n := 12) dX12_goRound_9 rfl fl_X12_80 sh_150 rfl ?_
      refine xs_iload_n (n := 13) dX12_goRound_12 rfl rfl ?_
      refine xs_aload_n (n := 14) dX12_goRound_13 rfl rfl ?_
      refine ys_getr (n := 17) dX12_goRound_14 rfl fl_X12_74 sh_150 rfl ?_
      refine xs_iload_n (n := 18) dX12_goRound_17 rfl rfl ?_
      refine ys_laload (n := 19) dX12_goRound_18 rfl sh_169 ?_
      refine ys_lastore (n := 20) dX12_goRound_19 rfl sh_171 (fun u2 => ?_)
      refine xs_aload_n (n := 21) dX12_goRound_20 rfl rfl ?_
      refine ys_getr (n := 24) dX12_goRound_21 rfl fl_X12_83 sh_150 rfl ?_
      refine xs_iload_n (n := 25) dX12_goRound_24 rfl rfl ?_
      refine xs_aload_n (n := 26) dX12_goRound_25 rfl rfl ?_
      refine ys_getr (n := 29) dX12_goRound_26 rfl fl_X12_77 sh_150 rfl ?_
      refine xs_iload_n (n := 30) dX12_goRound_29 rfl rfl ?_
      refine ys_baload (n := 31) dX12_goRound_30 rfl sh_170 ?_
      refine ys_bastore (n := 32) dX12_goRound_31 rfl sh_172 (fun u3 => ?_)
      refine xs_iincl (n := 35) (dv := (1 : Int32)) (fun v4 => [some (.ref 150), some (.int v4), none, none]) dX12_goRound_32 rfl rfl rfl (Nat.le_of_ble_eq_true rfl) (fun _ => rfl) (fun v4 => ?_)
      refine xs_goto (n := 2) dX12_goRound_35 rfl ?_
      exact xs_gf (ih v4 u3) (And.intro rfl (And.intro rfl trivial))
theorem el_X12_goRound_61 (m : Nat) (c1 : Int32) (K : Int32 × xm_Y → Option (Int32 × xm_Y)) (kE : ∀ q : Int32 × xm_Y, xs_ (fun x : Int32 => some (.int x)) sg_0 mt_X12_goRound 202 [some (.ref 150), some (.int c1), none, none] [] q.2 0 0 (K q)) : ∀ (n : Nat) (l2 : Int32) (u0 : xm_Y), xs_ (fun x : Int32 => some (.int x)) sg_0 mt_X12_goRound 61 [some (.ref 150), some (.int c1), some (.int l2), none] [] u0 0 0 ((lp_X12_goRound_61 m c1 n l2 u0).bind K) := by
  intro n
  induction n with
  | zero =>
    intro l2 u0
    exact xs_none
  | succ n ih =>
    intro l2 u0
    rw [lp_X12_goRound_61]
    refine xs_iload_n (n := 62) dX12_goRound_61 rfl rfl ?_
    refine xs_iconst (n := 63) (v := (2 : Int32)) dX12_goRound_62 rfl rfl ?_
    refine xs_aload_n (n := 64) dX12_goRound_63 rfl rfl ?_
    refine ys_geti (n := 67) dX12_goRound_64 rfl fl_X12_7 (Or.inl rfl) sh_150 ?_
    refine xs_imul (n := 68) dX12_goRound_67 rfl ?_
    refine xs_icmp_ge (n := 71) (tgt := 202) dX12_goRound_68 rfl rfl (fun hc11 => ?_) (fun hc11 => ?_)
    · exact xs_gf (xs_end (kE (l2, u0))) (And.intro rfl (And.intro rfl trivial))
    · refine xs_aload_n (n := 72) dX12_goRound_71 rfl rfl ?_
      refine xs_aload_n (n := 73) dX12_goRound_72 rfl rfl ?_
      refine ys_getr (n := 76) dX12_goRound_73 rfl fl_X12_20 sh_150 rfl ?_
      refine xs_iconst (n := 77) (v := (3 : Int32)) dX12_goRound_76 rfl rfl ?_
      refine xs_iload_n (n := 78) dX12_goRound_77 rfl rfl ?_
      refine xs_imul (n := 79) dX12_goRound_78 rfl ?_
      refine xs_iload_n (n := 80) dX12_goRound_79 rfl rfl ?_
      refine xs_iconst (n := 81) (v := (2 : Int32)) dX12_goRound_80 rfl rfl ?_
      refine xs_idiv (n := 82) dX12_goRound_81 rfl (fun _ => ?_)
      refine xs_iadd (n := 83) dX12_goRound_82 rfl ?_
      refine xs_iconst (n := 84) (v := (4 : Int32)) dX12_goRound_83 rfl rfl ?_
      refine xs_imul (n := 85) dX12_goRound_84 rfl ?_
      refine xs_iload_n (n := 86) dX12_goRound_85 rfl rfl ?_
      refine xs_iconst (n := 87) (v := (2 : Int32)) dX12_goRound_86 rfl rfl ?_
      refine xs_irem (n := 88) dX12_goRound_87 rfl (fun _ => ?_)
      refine ys_callvv (n := 91) (N := mt_X12_reach) dX12_goRound_88 rfl ok_X12_reach tw_1265 im_X12_reach se_X12_reach ⟨Nat.le_of_ble_eq_true rfl, Nat.le_of_ble_eq_true rfl⟩ [.ref 153, .int ((((3 : Int32) * c1) + (l2 / (2 : Int32))) * (4 : Int32)), .int (l2 - l2 / (2 : Int32) * (2 : Int32))] [] rfl rfl (Nat.le_of_ble_eq_true rfl) rfl (Nat.le_of_ble_eq_true rfl) (en_X12_reach m 153 60 ((((3 : Int32) * c1) + (l2 / (2 : Int32))) * (4 : Int32)) (l2 - l2 / (2 : Int32) * (2 : Int32)) sh_153 u0) sh_150 (by decide) rfl (fun q12 => ?_)
      refine xs_aload_n (n := 92) dX12_goRound_91 rfl rfl ?_
      refine ys_getr (n := 95) dX12_goRound_92 rfl fl_X12_83 sh_150 rfl ?_
      refine xs_iload_n (n := 96) dX12_goRound_95 rfl rfl ?_
      refine xs_aload_n (n := 97) dX12_goRound_96 rfl rfl ?_
      refine ys_getr (n := 100) dX12_goRound_97 rfl fl_X12_83 sh_150 rfl ?_
      refine xs_iload_n (n := 101) dX12_goRound_100 rfl rfl ?_
      refine ys_baload (n := 102) dX12_goRound_101 rfl sh_172 ?_
      refine xs_join 117 (fun q13 => [some (.ref 150), some (.int c1), some (.int l2), none]) (fun q13 => [.int q13, .int l2, .ref 172]) (fun q13 => q12.2) (fun q13 => ?_) (fun kj14 => ?_)
      · refine ys_bastore (n := 118) dX12_goRound_117 rfl sh_172 (fun u17 => ?_)
        refine xs_iload_n (n := 119) dX12_goRound_118 rfl rfl ?_
        refine xs_iconst (n := 120) (v := (2 : Int32)) dX12_goRound_119 rfl rfl ?_
        refine xs_irem (n := 121) dX12_goRound_120 rfl (fun _ => ?_)
        refine xs_join 165 (fun q18 => [some (.ref 150), some (.int c1), some (.int l2), none]) (fun q18 => [.int q18]) (fun q18 => u17) (fun q18 => ?_) (fun kj19 => ?_)
        · refine xs_istore_n (n := 166) (lv' := [some (.ref 150), some (.int c1), some (.int l2), some (.int q18)]) dX12_goRound_165 rfl (Nat.le_of_ble_eq_true rfl) rfl ?_
          refine xs_aload_n (n := 167) dX12_goRound_166 rfl rfl ?_
          refine ys_getr (n := 170) dX12_goRound_167 rfl fl_X12_80 sh_150 rfl ?_
          refine xs_iload_n (n := 171) dX12_goRound_170 rfl rfl ?_
          refine xs_aload_n (n := 172) dX12_goRound_171 rfl rfl ?_
          refine ys_geti (n := 175) dX12_goRound_172 rfl fl_X12_322 (Or.inr rfl) sh_150 ?_
          refine xs_join 195 (fun q23 => [some (.ref 150), some (.int c1), some (.int l2), none]) (fun q23 => [.long q23, .int l2, .ref 171]) (fun q23 => u17) (fun q23 => ?_) (fun kj24 => ?_)
          · refine ys_lastore (n := 196) dX12_goRound_195 rfl sh_171 (fun u27 => ?_)
            refine xs_iincl (n := 199) (dv := (1 : Int32)) (fun v28 => [some (.ref 150), some (.int c1), some (.int v28), none]) dX12_goRound_196 rfl rfl rfl (Nat.le_of_ble_eq_true rfl) (fun _ => rfl) (fun v28 => ?_)
            refine xs_goto (n := 61) dX12_goRound_199 rfl ?_
            exact xs_gf (ih v28 u27) (And.intro rfl (And.intro rfl (And.intro rfl trivial)))
          · refine xs_if_ne (n := 178) (tgt := 189) dX12_goRound_175 rfl rfl (fun hc25 => ?_) (fun hc25 => ?_)
            · refine xs_iload_n (n := 179) dX12_goRound_178 rfl rfl ?_
              refine xs_if_eq (n := 182) (tgt := 189) dX12_goRound_179 rfl rfl (fun hc26 => ?_) (fun hc26 => ?_)
              · refine xs_aload_n (n := 190) dX12_goRound_189 rfl rfl ?_
                refine ys_getr (n := 193) dX12_goRound_190 rfl fl_X12_80 sh_150 rfl ?_
                refine xs_iload_n (n := 194) dX12_goRound_193 rfl rfl ?_
                refine ys_laload (n := 195) dX12_goRound_194 rfl sh_171 ?_
                exact xs_gf (xs_end (kj24 ((u17.2 171 (Int32.toNatClampNeg l2))))) (And.intro rfl (And.intro rfl (And.intro rfl trivial)))
              · refine xs_aload_n (n := 183) dX12_goRound_182 rfl rfl ?_
                refine ys_getl (n := 186) dX12_goRound_183 rfl fl_X12_325 sh_150 ?_
                refine xs_goto (n := 195) dX12_goRound_186 rfl ?_
                exact xs_gf (xs_end (kj24 ((u17.2 150 49)))) (And.intro rfl (And.intro rfl (And.intro rfl trivial)))
            · refine xs_aload_n (n := 190) dX12_goRound_189 rfl rfl ?_
              refine ys_getr (n := 193) dX12_goRound_190 rfl fl_X12_80 sh_150 rfl ?_
              refine xs_iload_n (n := 194) dX12_goRound_193 rfl rfl ?_
              refine ys_laload (n := 195) dX12_goRound_194 rfl sh_171 ?_
              exact xs_gf (xs_end (kj24 ((u17.2 171 (Int32.toNatClampNeg l2))))) (And.intro rfl (And.intro rfl (And.intro rfl trivial)))
        · refine xs_if_ne (n := 124) (tgt := 146) dX12_goRound_121 rfl rfl (fun hc20 => ?_) (fun hc20 => ?_)
          · refine xs_aload_n (n := 125) dX12_goRound_124 rfl rfl ?_
            refine ys_getl (n := 128) dX12_goRound_125 rfl fl_X12_325 sh_150 ?_
            refine xs_aload_n (n := 129) dX12_goRound_128 rfl rfl ?_
            refine ys_getr (n := 132) dX12_goRound_129 rfl fl_X12_80 sh_150 rfl ?_
            refine xs_iload_n (n := 133) dX12_goRound_132 rfl rfl ?_
            refine ys_laload (n := 134) dX12_goRound_133 rfl sh_171 ?_
            refine xs_lif_ge (n := 138) (pc1 := 135) (tgt := 142) dX12_goRound_134 rfl dX12_goRound_135 rfl rfl (fun hc21 => ?_) (fun hc21 => ?_)
            · refine xs_iconst (n := 143) (v := (0 : Int32)) dX12_goRound_142 rfl rfl ?_
              refine xs_goto (n := 165) dX12_goRound_143 rfl ?_
              exact xs_gf (xs_end (kj19 ((0 : Int32)))) (And.intro rfl (And.intro rfl (And.intro rfl trivial)))
            · refine xs_iconst (n := 139) (v := (1 : Int32)) dX12_goRound_138 rfl rfl ?_
              refine xs_goto (n := 165) dX12_goRound_139 rfl ?_
              exact xs_gf (xs_end (kj19 ((1 : Int32)))) (And.intro rfl (And.intro rfl (And.intro rfl trivial)))
          · refine xs_aload_n (n := 147) dX12_goRound_146 rfl rfl ?_
            refine ys_getl (n := 150) dX12_goRound_147 rfl fl_X12_325 sh_150 ?_
            refine xs_aload_n (n := 151) dX12_goRound_150 rfl rfl ?_
            refine ys_getr (n := 154) dX12_goRound_151 rfl fl_X12_80 sh_150 rfl ?_
            refine xs_iload_n (n := 155) dX12_goRound_154 rfl rfl ?_
            refine ys_laload (n := 156) dX12_goRound_155 rfl sh_171 ?_
            refine xs_lif_le (n := 160) (pc1 := 157) (tgt := 164) dX12_goRound_156 rfl dX12_goRound_157 rfl rfl (fun hc22 => ?_) (fun hc22 => ?_)
            · refine xs_iconst (n := 165) (v := (0 : Int32)) dX12_goRound_164 rfl rfl ?_
              exact xs_gf (xs_end (kj19 ((0 : Int32)))) (And.intro rfl (And.intro rfl (And.intro rfl trivial)))
            · refine xs_iconst (n := 161) (v := (1 : Int32)) dX12_goRound_160 rfl rfl ?_
              refine xs_goto (n := 165) dX12_goRound_161 rfl ?_
              exact xs_gf (xs_end (kj19 ((1 : Int32)))) (And.intro rfl (And.intro rfl (And.intro rfl trivial)))
      · refine xs_if_ne (n := 105) (tgt := 112) dX12_goRound_102 rfl rfl (fun hc15 => ?_) (fun hc15 => ?_)
        · refine xs_aload_n (n := 106) dX12_goRound_105 rfl rfl ?_
          refine ys_geti (n := 109) dX12_goRound_106 rfl fl_X12_322 (Or.inr rfl) sh_150 ?_
          refine xs_if_eq (n := 112) (tgt := 116) dX12_goRound_109 rfl rfl (fun hc16 => ?_) (fun hc16 => ?_)
          · refine xs_iconst (n := 117) (v := (0 : Int32)) dX12_goRound_116 rfl rfl ?_
            exact xs_gf (xs_end (kj14 ((0 : Int32)))) (And.intro rfl (And.intro rfl (And.intro rfl trivial)))
          · refine xs_iconst (n := 113) (v := (1 : Int32)) dX12_goRound_112 rfl rfl ?_
            refine xs_goto (n := 117) dX12_goRound_113 rfl ?_
            exact xs_gf (xs_end (kj14 ((1 : Int32)))) (And.intro rfl (And.intro rfl (And.intro rfl trivial)))
        · refine xs_iconst (n := 113) (v := (1 : Int32)) dX12_goRound_112 rfl rfl ?_
          refine xs_goto (n := 117) dX12_goRound_113 rfl ?_
          exact xs_gf (xs_end (kj14 ((1 : Int32)))) (And.intro rfl (And.intro rfl (And.intro rfl trivial)))
theorem el_X12_goRound_40 (m : Nat) (K : Int32 × xm_Y → Option (Int32 × xm_Y)) (kE : ∀ q : Int32 × xm_Y, xs_ (fun x : Int32 => some (.int x)) sg_0 mt_X12_goRound 208 [some (.ref 150), none, none, none] [] q.2 0 0 (K q)) : ∀ (n : Nat) (l1 : Int32) (u0 : xm_Y), xs_ (fun x : Int32 => some (.int x)) sg_0 mt_X12_goRound 40 [some (.ref 150), some (.int l1), none, none] [] u0 0 0 ((lp_X12_goRound_40 m n l1 u0).bind K) := by
  intro n
  induction n with
  | zero =>
    intro l1 u0
    exact xs_none
  | succ n ih =>
    intro l1 u0
    rw [lp_X12_goRound_40]
    refine xs_iload_n (n := 41) dX12_goRound_40 rfl rfl ?_
    refine xs_aload_n (n := 42) dX12_goRound_41 rfl rfl ?_
    refine ys_geti (n := 45) dX12_goRound_42 rfl fl_X12_135 (Or.inl rfl) sh_150 ?_
    refine xs_icmp_ge (n := 48) (tgt := 208) dX12_goRound_45 rfl rfl (fun hc6 => ?_) (fun hc6 => ?_)
    · exact xs_gf (xs_end (kE (l1, u0))) (And.intro rfl trivial)
    · refine xs_aload_n (n := 49) dX12_goRound_48 rfl rfl ?_
      refine xs_iload_n (n := 50) dX12_goRound_49 rfl rfl ?_
      refine ys_callvi (n := 53) (N := mt_X12_isPassed) dX12_goRound_50 rfl ok_X12_isPassed tw_1261 im_X12_isPassed se_X12_isPassed ⟨Nat.le_of_ble_eq_true rfl, Nat.le_of_ble_eq_true rfl⟩ [.int l1] [] rfl rfl (Nat.le_of_ble_eq_true rfl) rfl (Nat.le_of_ble_eq_true rfl) (en_X12_isPassed m l1 u0) sh_150 (by decide) rfl (fun q7 => ?_)
      refine xs_join 202 (fun q8 => [some (.ref 150), some (.int l1), none, none]) (fun q8 => []) (fun q8 => q8) (fun q8 => ?_) (fun kj9 => ?_)
      · refine xs_iincl (n := 205) (dv := (1 : Int32)) (fun v30 => [some (.ref 150), some (.int v30), none, none]) dX12_goRound_202 rfl rfl rfl (Nat.le_of_ble_eq_true rfl) (fun _ => rfl) (fun v30 => ?_)
        refine xs_goto (n := 40) dX12_goRound_205 rfl ?_
        exact xs_gf (ih v30 q8) (And.intro rfl (And.intro rfl trivial))
      · refine xs_if_eq (n := 56) (tgt := 59) dX12_goRound_53 rfl rfl (fun hc10 => ?_) (fun hc10 => ?_)
        · refine xs_iconst (n := 60) (v := (0 : Int32)) dX12_goRound_59 rfl rfl ?_
          refine xs_istore_n (n := 61) (lv' := [some (.ref 150), some (.int l1), some (.int (0 : Int32)), none]) dX12_goRound_60 rfl (Nat.le_of_ble_eq_true rfl) rfl ?_
          refine xs_reg ?_
          refine xs_fg (lv' := [some (.ref 150), some (.int l1), some (.int (0 : Int32)), none]) (And.intro rfl (And.intro rfl (And.intro rfl trivial))) ?_
          refine el_X12_goRound_61 m l1 _ (fun q29 => ?_) m (0 : Int32) q7.2
          exact xs_gf (xs_end (kj9 (q29.2))) (And.intro rfl (And.intro rfl trivial))
        · refine xs_goto (n := 202) dX12_goRound_56 rfl ?_
          exact xs_gf (xs_end (kj9 (q7.2))) (And.intro rfl (And.intro rfl trivial))
theorem el_X12_goRound_212 (m : Nat) (K : Int32 × Int32 × xm_Y → Option (Int32 × xm_Y)) (kE : ∀ q : Int32 × Int32 × xm_Y, xs_ (fun x : Int32 => some (.int x)) sg_0 mt_X12_goRound 246 [none, some (.int q.1), none, none] [] q.2.2 0 0 (K q)) : ∀ (n : Nat) (l1 : Int32) (l2 : Int32) (u0 : xm_Y), xs_ (fun x : Int32 => some (.int x)) sg_0 mt_X12_goRound 212 [some (.ref 150), some (.int l1), some (.int l2), none] [] u0 0 0 ((lp_X12_goRound_212 m n l1 l2 u0).bind K) := by
  intro n
  induction n with
  | zero =>
    intro l1 l2 u0
    exact xs_none
  | succ n ih =>
    intro l1 l2 u0
    rw [lp_X12_goRound_212]
    refine xs_iload_n (n := 213) dX12_goRound_212 rfl rfl ?_
    refine xs_iconst (n := 214) (v := (2 : Int32)) dX12_goRound_213 rfl rfl ?_
    refine xs_aload_n (n := 215) dX12_goRound_214 rfl rfl ?_
    refine ys_geti (n := 218) dX12_goRound_215 rfl fl_X12_7 (Or.inl rfl) sh_150 ?_
    refine xs_imul (n := 219) dX12_goRound_218 rfl ?_
    refine xs_icmp_ge (n := 222) (tgt := 246) dX12_goRound_219 rfl rfl (fun hc32 => ?_) (fun hc32 => ?_)
    · exact xs_gf (xs_end (kE (l1, l2, u0))) (And.intro rfl trivial)
    · refine xs_iload_n (n := 223) dX12_goRound_222 rfl rfl ?_
      refine xs_join 239 (fun q33 => [some (.ref 150), none, some (.int l2), none]) (fun q33 => [.int q33.1]) (fun q33 => q33.2) (fun q33 => ?_) (fun kj34 => ?_)
      · refine xs_istore_n (n := 240) (lv' := [some (.ref 150), some (.int q33.1), some (.int l2), none]) dX12_goRound_239 rfl (Nat.le_of_ble_eq_true rfl) rfl ?_
        refine xs_iincl (n := 243) (dv := (1 : Int32)) (fun v38 => [some (.ref 150), some (.int q33.1), some (.int v38), none]) dX12_goRound_240 rfl rfl rfl (Nat.le_of_ble_eq_true rfl) (fun _ => rfl) (fun v38 => ?_)
        refine xs_goto (n := 212) dX12_goRound_243 rfl ?_
        exact xs_gf (ih q33.1 v38 q33.2) (And.intro rfl (And.intro rfl (And.intro rfl trivial)))
      · refine xs_if_ne (n := 226) (tgt := 234) dX12_goRound_223 rfl rfl (fun hc35 => ?_) (fun hc35 => ?_)
        · refine xs_aload_n (n := 227) dX12_goRound_226 rfl rfl ?_
          refine xs_iload_n (n := 228) dX12_goRound_227 rfl rfl ?_
          refine ys_callvi (n := 231) (N := mt_X12_isChanged) dX12_goRound_228 rfl ok_X12_isChanged tw_1269 im_X12_isChanged se_X12_isChanged ⟨Nat.le_of_ble_eq_true rfl, Nat.le_of_ble_eq_true rfl⟩ [.int l2] [] rfl rfl (Nat.le_of_ble_eq_true rfl) rfl (Nat.le_of_ble_eq_true rfl) (en_X12_isChanged m l2 u0) sh_150 (by decide) rfl (fun q36 => ?_)
          refine xs_if_eq (n := 234) (tgt := 238) dX12_goRound_231 rfl rfl (fun hc37 => ?_) (fun hc37 => ?_)
          · refine xs_iconst (n := 239) (v := (0 : Int32)) dX12_goRound_238 rfl rfl ?_
            exact xs_gf (xs_end (kj34 ((0 : Int32), q36.2))) (And.intro rfl (And.intro rfl trivial))
          · refine xs_iconst (n := 235) (v := (1 : Int32)) dX12_goRound_234 rfl rfl ?_
            refine xs_goto (n := 239) dX12_goRound_235 rfl ?_
            exact xs_gf (xs_end (kj34 ((1 : Int32), q36.2))) (And.intro rfl (And.intro rfl trivial))
        · refine xs_iconst (n := 235) (v := (1 : Int32)) dX12_goRound_234 rfl rfl ?_
          refine xs_goto (n := 239) dX12_goRound_235 rfl ?_
          exact xs_gf (xs_end (kj34 ((1 : Int32), u0))) (And.intro rfl (And.intro rfl trivial))
theorem en_X12_goRound (m : Nat) (u0 : xm_Y) : xs_ (fun x : Int32 => some (.int x)) sg_0 mt_X12_goRound 0 [some (.ref 150), none, none, none] [] u0 0 0 (fn_X12_goRound m u0) := by
  refine xs_top ?_
  rw [fn_X12_goRound]
  refine xs_iconst (n := 1) (v := (0 : Int32)) dX12_goRound_0 rfl rfl ?_
  refine xs_istore_n (n := 2) (lv' := [some (.ref 150), some (.int (0 : Int32)), none, none]) dX12_goRound_1 rfl (Nat.le_of_ble_eq_true rfl) rfl ?_
  refine xs_reg ?_
  refine xs_fg (lv' := [some (.ref 150), some (.int (0 : Int32)), none, none]) (And.intro rfl (And.intro rfl trivial)) ?_
  refine el_X12_goRound_2 m _ (fun q5 => ?_) m (0 : Int32) u0
  refine xs_iconst (n := 39) (v := (0 : Int32)) dX12_goRound_38 rfl rfl ?_
  refine xs_istore_n (n := 40) (lv' := [some (.ref 150), some (.int (0 : Int32)), none, none]) dX12_goRound_39 rfl (Nat.le_of_ble_eq_true rfl) rfl ?_
  refine xs_reg ?_
  refine xs_fg (lv' := [some (.ref 150), some (.int (0 : Int32)), none, none]) (And.intro rfl (And.intro rfl trivial)) ?_
  refine el_X12_goRound_40 m _ (fun q31 => ?_) m (0 : Int32) q5.2
  refine xs_iconst (n := 209) (v := (0 : Int32)) dX12_goRound_208 rfl rfl ?_
  refine xs_istore_n (n := 210) (lv' := [some (.ref 150), some (.int (0 : Int32)), none, none]) dX12_goRound_209 rfl (Nat.le_of_ble_eq_true rfl) rfl ?_
  refine xs_iconst (n := 211) (v := (0 : Int32)) dX12_goRound_210 rfl rfl ?_
  refine xs_istore_n (n := 212) (lv' := [some (.ref 150), some (.int (0 : Int32)), some (.int (0 : Int32)), none]) dX12_goRound_211 rfl (Nat.le_of_ble_eq_true rfl) rfl ?_
  refine xs_reg ?_
  refine xs_fg (lv' := [some (.ref 150), some (.int (0 : Int32)), some (.int (0 : Int32)), none]) (And.intro rfl (And.intro rfl (And.intro rfl trivial))) ?_
  refine el_X12_goRound_212 m _ (fun q39 => ?_) m (0 : Int32) (0 : Int32) q31.2
  refine xs_iload_n (n := 247) dX12_goRound_246 rfl rfl ?_
  exact xs_zret dX12_goRound_247 rfl rfl
def lp_X12_round_15 (m : Nat) (u0 : xm_Y) : Nat → Int32 → Option ((Int32 × xm_Y) ⊕ (Int32))
  | 0, _ => none
  | n + 1, l2 =>
  if (u0.1 150 0) ≤ l2 then (
  some (.inr (l2))) else (
  xm_chk (xm_in ((2 : Int32) * l2) 6) (
  if (u0.1 158 (Int32.toNatClampNeg ((2 : Int32) * l2))) = 0 then (
  xm_chk (xm_in (((2 : Int32) * l2) + (1 : Int32)) 6) (
  if (u0.1 158 (Int32.toNatClampNeg (((2 : Int32) * l2) + (1 : Int32)))) = 0 then (
  xm_chk (xm_in ((2 : Int32) * l2) 6) (
  xm_chk (xm_in (((2 : Int32) * l2) + (1 : Int32)) 6) (
  if (u0.2 157 (Int32.toNatClampNeg ((2 : Int32) * l2))) ≤ (u0.2 157 (Int32.toNatClampNeg (((2 : Int32) * l2) + (1 : Int32)))) then (
  xm_let (α := Int32) (l2 + (1 : Int32)) fun v7 =>
  lp_X12_round_15 m u0 n v7) else (
  some (.inl ((-1 : Int32), u0)))))) else (
  xm_let (α := Int32) (l2 + (1 : Int32)) fun v8 =>
  lp_X12_round_15 m u0 n v8))) else (
  xm_let (α := Int32) (l2 + (1 : Int32)) fun v9 =>
  lp_X12_round_15 m u0 n v9)))
def lp_X12_round_79 (m : Nat) : Nat → Int32 → xm_Y → Option (Int32 × xm_Y)
  | 0, _, _ => none
  | n + 1, l2, u0 =>
  if (6 : Int32) ≤ l2 then (
  some (l2, u0)) else (
  xm_chk (xm_in l2 6) (
  ((if (u0.1 158 (Int32.toNatClampNeg l2)) = 0 then (
  xm_chk (xm_in l2 6) (
  some ((u0.2 157 (Int32.toNatClampNeg l2))))) else (
  some ((0 : Int64))) : Option (Int64)).bind fun q12 =>
  xm_chk (xm_in l2 6) (xm_let (w_J u0 169 (Int32.toNatClampNeg l2) q12) fun u15 =>
  xm_chk (xm_in l2 6) (
  xm_chk (xm_in l2 6) (xm_let (w_I u15 170 (Int32.toNatClampNeg l2) (vp_nar .boolean (u15.1 158 (Int32.toNatClampNeg l2)))) fun u16 =>
  xm_let (α := Int32) (l2 + (1 : Int32)) fun v17 =>
  lp_X12_round_79 m n v17 u16))))))
def lp_X12_round_139 (m : Nat) (c1 : Int32) (c2 : Int32) : Nat → Int32 → xm_Y → Option ((Int32 × xm_Y) ⊕ (Int32 × xm_Y))
  | 0, _, _ => none
  | n + 1, l3, u0 =>
  if ((2 : Int32) * (u0.1 150 0)) ≤ l3 then (
  some (.inr (l3, u0))) else (
  ((if c2 < c1 then (
  some ((0 : Int32), u0)) else (
  ((fn_X12_isChanged m l3 u0).bind fun q25 =>
  if q25.1 = 0 then (
  some ((0 : Int32), q25.2)) else (
  some ((1 : Int32), q25.2)))) : Option (Int32 × xm_Y)).bind fun q22 =>
  xm_chk (xm_in l3 6) (
  ((if (q22.2.1 172 (Int32.toNatClampNeg l3)) = 0 then (
  if q22.1 = 0 then (
  some ((0 : Int32))) else (
  some ((1 : Int32)))) else (
  some ((1 : Int32))) : Option (Int32)).bind fun q27 =>
  xm_chk (xm_in l3 6) (xm_let (w_I q22.2 170 (Int32.toNatClampNeg l3) (vp_nar .boolean q27)) fun u31 =>
  xm_chk (xm_in l3 6) (
  ((if (u31.1 170 (Int32.toNatClampNeg l3)) = 0 then (
  xm_chk (xm_in l3 6) (
  some ((u31.2 171 (Int32.toNatClampNeg l3))))) else (
  some ((0 : Int64))) : Option (Int64)).bind fun q32 =>
  xm_chk (xm_in l3 6) (xm_let (w_J u31 169 (Int32.toNatClampNeg l3) q32) fun u35 =>
  xm_chk (xm_in l3 6) (
  if (u35.1 170 (Int32.toNatClampNeg l3)) = 0 then (
  xm_chk (xm_in l3 6) (
  if (1000000000 : Int64) < (u35.2 169 (Int32.toNatClampNeg l3)) then (
  some (.inl ((-4 : Int32), u35))) else (
  xm_chk (xm_in l3 6) (
  if (-1000000000 : Int64) ≤ (u35.2 169 (Int32.toNatClampNeg l3)) then (
  xm_let (α := Int32) (l3 + (1 : Int32)) fun v39 =>
  lp_X12_round_139 m c1 c2 n v39 u35) else (
  some (.inl ((-4 : Int32), u35))))))) else (
  xm_let (α := Int32) (l3 + (1 : Int32)) fun v40 =>
  lp_X12_round_139 m c1 c2 n v40 u35))))))))))
def lp_X12_round_130 (m : Nat) (c1 : Int32) : Nat → Int32 → xm_Y → Option ((Int32 × xm_Y) ⊕ (Int32 × xm_Y))
  | 0, _, _ => none
  | n + 1, l2, u0 =>
  ((fn_X12_goRound m u0).bind fun q19 =>
  if q19.1 = 0 then (
  some (.inr (l2, q19.2))) else (
  ((lp_X12_round_139 m c1 l2 m (0 : Int32) q19.2).bind (Sum.elim (fun r => some (.inl r)) (fun q41 =>
  xm_let (α := Int32) (l2 + (1 : Int32)) fun v42 =>
  lp_X12_round_130 m c1 n v42 q41.2)))))
def lp_X12_round_276 (m : Nat) : Nat → Int32 → xm_Y → Option (Int32 × xm_Y)
  | 0, _, _ => none
  | n + 1, l3, u0 =>
  if (6 : Int32) ≤ l3 then (
  some (l3, u0)) else (
  xm_chk (xm_in l3 6) (
  xm_chk (xm_in l3 6) (xm_let (w_J u0 155 (Int32.toNatClampNeg l3) (u0.2 169 (Int32.toNatClampNeg l3))) fun u46 =>
  ((if ((2 : Int32) * (u46.1 150 0)) ≤ l3 then (
  some ((1 : Int32))) else (
  xm_chk (xm_in l3 6) (
  if (u46.1 170 (Int32.toNatClampNeg l3)) = 0 then (
  some ((0 : Int32))) else (
  some ((1 : Int32))))) : Option (Int32)).bind fun q47 =>
  xm_chk (xm_in l3 6) (xm_let (w_I u46 156 (Int32.toNatClampNeg l3) (vp_nar .boolean q47)) fun u51 =>
  xm_let (α := Int32) (l3 + (1 : Int32)) fun v52 =>
  lp_X12_round_276 m n v52 u51)))))
def fn_X12_round (m : Nat) (x0 : Int32) (u0 : xm_Y) : Option (Int32 × xm_Y) :=
  if x0 < (1 : Int32) then (
  some ((-1 : Int32), u0)) else (
  if x0 ≤ (20 : Int32) then (
  ((lp_X12_round_15 m u0 m (0 : Int32)).bind (Sum.elim (fun r => some r) (fun q10 =>
  ((lp_X12_round_79 m m (0 : Int32) u0).bind fun q18 =>
  ((lp_X12_round_130 m x0 m (1 : Int32) q18.2).bind (Sum.elim (fun r => some r) (fun q43 =>
  xm_let (w_I q43.2 150 21 (0 : Int32)) fun u44 =>
  ((lp_X12_round_276 m m (0 : Int32) u44).bind fun q53 =>
  some (q43.1, q53.2)))))))))) else (
  some ((-1 : Int32), u0)))
theorem el_X12_round_15 (m : Nat) (c1 : Int32) (u0 : xm_Y) (K : (Int32 × xm_Y) ⊕ (Int32) → Option (Int32 × xm_Y)) (hK : ∀ r, K (.inl r) = some r) (kE : ∀ q : Int32, xs_ (fun x : Int32 => some (.int x)) sg_0 mt_X12_round 77 [some (.ref 150), some (.int c1), none, none, none] [] u0 0 0 (K (.inr q))) : ∀ (n : Nat) (l2 : Int32), xs_ (fun x : Int32 => some (.int x)) sg_0 mt_X12_round 15 [some (.ref 150), some (.int c1), some (.int l2), none, none] [] u0 0 0 ((lp_X12_round_15 m u0 n l2).bind K) := by
  intro n
  induction n with
  | zero =>
    intro l2
    exact xs_none
  | succ n ih =>
    intro l2
    rw [lp_X12_round_15]
    refine xs_iload_n (n := 16) dX12_round_15 rfl rfl ?_
    refine xs_aload_n (n := 17) dX12_round_16 rfl rfl ?_
    refine ys_geti (n := 20) dX12_round_17 rfl fl_X12_7 (Or.inl rfl) sh_150 ?_
    refine xs_icmp_ge (n := 23) (tgt := 77) dX12_round_20 rfl rfl (fun hc3 => ?_) (fun hc3 => ?_)
    · exact xs_gf (xs_end (kE (l2))) (And.intro rfl (And.intro rfl trivial))
    · refine xs_aload_n (n := 24) dX12_round_23 rfl rfl ?_
      refine ys_getr (n := 27) dX12_round_24 rfl fl_X12_37 sh_150 rfl ?_
      refine xs_iconst (n := 28) (v := (2 : Int32)) dX12_round_27 rfl rfl ?_
      refine xs_iload_n (n := 29) dX12_round_28 rfl rfl ?_
      refine xs_imul (n := 30) dX12_round_29 rfl ?_
      refine ys_baload (n := 31) dX12_round_30 rfl sh_158 ?_
      refine xs_if_ne (n := 34) (tgt := 71) dX12_round_31 rfl rfl (fun hc4 => ?_) (fun hc4 => ?_)
      · refine xs_aload_n (n := 35) dX12_round_34 rfl rfl ?_
        refine ys_getr (n := 38) dX12_round_35 rfl fl_X12_37 sh_150 rfl ?_
        refine xs_iconst (n := 39) (v := (2 : Int32)) dX12_round_38 rfl rfl ?_
        refine xs_iload_n (n := 40) dX12_round_39 rfl rfl ?_
        refine xs_imul (n := 41) dX12_round_40 rfl ?_
        refine xs_iconst (n := 42) (v := (1 : Int32)) dX12_round_41 rfl rfl ?_
        refine xs_iadd (n := 43) dX12_round_42 rfl ?_
        refine ys_baload (n := 44) dX12_round_43 rfl sh_158 ?_
        refine xs_if_ne (n := 47) (tgt := 71) dX12_round_44 rfl rfl (fun hc5 => ?_) (fun hc5 => ?_)
        · refine xs_aload_n (n := 48) dX12_round_47 rfl rfl ?_
          refine ys_getr (n := 51) dX12_round_48 rfl fl_X12_34 sh_150 rfl ?_
          refine xs_iconst (n := 52) (v := (2 : Int32)) dX12_round_51 rfl rfl ?_
          refine xs_iload_n (n := 53) dX12_round_52 rfl rfl ?_
          refine xs_imul (n := 54) dX12_round_53 rfl ?_
          refine ys_laload (n := 55) dX12_round_54 rfl sh_157 ?_
          refine xs_aload_n (n := 56) dX12_round_55 rfl rfl ?_
          refine ys_getr (n := 59) dX12_round_56 rfl fl_X12_34 sh_150 rfl ?_
          refine xs_iconst (n := 60) (v := (2 : Int32)) dX12_round_59 rfl rfl ?_
          refine xs_iload_n (n := 61) dX12_round_60 rfl rfl ?_
          refine xs_imul (n := 62) dX12_round_61 rfl ?_
          refine xs_iconst (n := 63) (v := (1 : Int32)) dX12_round_62 rfl rfl ?_
          refine xs_iadd (n := 64) dX12_round_63 rfl ?_
          refine ys_laload (n := 65) dX12_round_64 rfl sh_157 ?_
          refine xs_lif_le (n := 69) (pc1 := 66) (tgt := 71) dX12_round_65 rfl dX12_round_66 rfl rfl (fun hc6 => ?_) (fun hc6 => ?_)
          · refine xs_iincl (n := 74) (dv := (1 : Int32)) (fun v7 => [some (.ref 150), some (.int c1), some (.int v7), none, none]) dX12_round_71 rfl rfl rfl (Nat.le_of_ble_eq_true rfl) (fun _ => rfl) (fun v7 => ?_)
            refine xs_goto (n := 15) dX12_round_74 rfl ?_
            exact xs_gf (ih v7) (And.intro rfl (And.intro rfl (And.intro rfl trivial)))
          · refine xs_iconst (n := 70) (v := (-1 : Int32)) dX12_round_69 rfl rfl ?_
            exact xs_iret dX12_round_70 rfl (hK _)
        · refine xs_iincl (n := 74) (dv := (1 : Int32)) (fun v8 => [some (.ref 150), some (.int c1), some (.int v8), none, none]) dX12_round_71 rfl rfl rfl (Nat.le_of_ble_eq_true rfl) (fun _ => rfl) (fun v8 => ?_)
          refine xs_goto (n := 15) dX12_round_74 rfl ?_
          exact xs_gf (ih v8) (And.intro rfl (And.intro rfl (And.intro rfl trivial)))
      · refine xs_iincl (n := 74) (dv := (1 : Int32)) (fun v9 => [some (.ref 150), some (.int c1), some (.int v9), none, none]) dX12_round_71 rfl rfl rfl (Nat.le_of_ble_eq_true rfl) (fun _ => rfl) (fun v9 => ?_)
        refine xs_goto (n := 15) dX12_round_74 rfl ?_
        exact xs_gf (ih v9) (And.intro rfl (And.intro rfl (And.intro rfl trivial)))
theorem el_X12_round_79 (m : Nat) (c1 : Int32) (K : Int32 × xm_Y → Option (Int32 × xm_Y)) (kE : ∀ q : Int32 × xm_Y, xs_ (fun x : Int32 => some (.int x)) sg_0 mt_X12_round 128 [some (.ref 150), some (.int c1), none, none, none] [] q.2 0 0 (K q)) : ∀ (n : Nat) (l2 : Int32) (u0 : xm_Y), xs_ (fun x : Int32 => some (.int x)) sg_0 mt_X12_round 79 [some (.ref 150), some (.int c1), some (.int l2), none, none] [] u0 0 0 ((lp_X12_round_79 m n l2 u0).bind K) := by
  intro n
  induction n with
  | zero =>
    intro l2 u0
    exact xs_none
  | succ n ih =>
    intro l2 u0
    rw [lp_X12_round_79]
    refine xs_iload_n (n := 80) dX12_round_79 rfl rfl ?_
    refine xs_bipush (n := 82) (v := (6 : Int32)) dX12_round_80 rfl rfl ?_
    refine xs_icmp_ge (n := 85) (tgt := 128) dX12_round_82 rfl rfl (fun hc11 => ?_) (fun hc11 => ?_)
    · exact xs_gf (xs_end (kE (l2, u0))) (And.intro rfl (And.intro rfl trivial))
    · refine xs_aload_n (n := 86) dX12_round_85 rfl rfl ?_
      refine ys_getr (n := 89) dX12_round_86 rfl fl_X12_74 sh_150 rfl ?_
      refine xs_iload_n (n := 90) dX12_round_89 rfl rfl ?_
      refine xs_aload_n (n := 91) dX12_round_90 rfl rfl ?_
      refine ys_getr (n := 94) dX12_round_91 rfl fl_X12_37 sh_150 rfl ?_
      refine xs_iload_n (n := 95) dX12_round_94 rfl rfl ?_
      refine ys_baload (n := 96) dX12_round_95 rfl sh_158 ?_
      refine xs_join 109 (fun q12 => [some (.ref 150), some (.int c1), some (.int l2), none, none]) (fun q12 => [.long q12, .int l2, .ref 169]) (fun q12 => u0) (fun q12 => ?_) (fun kj13 => ?_)
      · refine ys_lastore (n := 110) dX12_round_109 rfl sh_169 (fun u15 => ?_)
        refine xs_aload_n (n := 111) dX12_round_110 rfl rfl ?_
        refine ys_getr (n := 114) dX12_round_111 rfl fl_X12_77 sh_150 rfl ?_
        refine xs_iload_n (n := 115) dX12_round_114 rfl rfl ?_
        refine xs_aload_n (n := 116) dX12_round_115 rfl rfl ?_
        refine ys_getr (n := 119) dX12_round_116 rfl fl_X12_37 sh_150 rfl ?_
        refine xs_iload_n (n := 120) dX12_round_119 rfl rfl ?_
        refine ys_baload (n := 121) dX12_round_120 rfl sh_158 ?_
        refine ys_bastore (n := 122) dX12_round_121 rfl sh_170 (fun u16 => ?_)
        refine xs_iincl (n := 125) (dv := (1 : Int32)) (fun v17 => [some (.ref 150), some (.int c1), some (.int v17), none, none]) dX12_round_122 rfl rfl rfl (Nat.le_of_ble_eq_true rfl) (fun _ => rfl) (fun v17 => ?_)
        refine xs_goto (n := 79) dX12_round_125 rfl ?_
        exact xs_gf (ih v17 u16) (And.intro rfl (And.intro rfl (And.intro rfl trivial)))
      · refine xs_if_eq (n := 99) (tgt := 103) dX12_round_96 rfl rfl (fun hc14 => ?_) (fun hc14 => ?_)
        · refine xs_aload_n (n := 104) dX12_round_103 rfl rfl ?_
          refine ys_getr (n := 107) dX12_round_104 rfl fl_X12_34 sh_150 rfl ?_
          refine xs_iload_n (n := 108) dX12_round_107 rfl rfl ?_
          refine ys_laload (n := 109) dX12_round_108 rfl sh_157 ?_
          exact xs_gf (xs_end (kj13 ((u0.2 157 (Int32.toNatClampNeg l2))))) (And.intro rfl (And.intro rfl (And.intro rfl trivial)))
        · refine xs_lconst (n := 100) (v := (0 : Int64)) dX12_round_99 rfl rfl ?_
          refine xs_goto (n := 109) dX12_round_100 rfl ?_
          exact xs_gf (xs_end (kj13 ((0 : Int64)))) (And.intro rfl (And.intro rfl (And.intro rfl trivial)))
theorem el_X12_round_139 (m : Nat) (c1 : Int32) (c2 : Int32) (K : (Int32 × xm_Y) ⊕ (Int32 × xm_Y) → Option (Int32 × xm_Y)) (hK : ∀ r, K (.inl r) = some r) (kE : ∀ q : Int32 × xm_Y, xs_ (fun x : Int32 => some (.int x)) sg_0 mt_X12_round 263 [some (.ref 150), some (.int c1), some (.int c2), none, none] [] q.2 0 0 (K (.inr q))) : ∀ (n : Nat) (l3 : Int32) (u0 : xm_Y), xs_ (fun x : Int32 => some (.int x)) sg_0 mt_X12_round 139 [some (.ref 150), some (.int c1), some (.int c2), some (.int l3), none] [] u0 0 0 ((lp_X12_round_139 m c1 c2 n l3 u0).bind K) := by
  intro n
  induction n with
  | zero =>
    intro l3 u0
    exact xs_none
  | succ n ih =>
    intro l3 u0
    rw [lp_X12_round_139]
    refine xs_iload_n (n := 140) dX12_round_139 rfl rfl ?_
    refine xs_iconst (n := 141) (v := (2 : Int32)) dX12_round_140 rfl rfl ?_
    refine xs_aload_n (n := 142) dX12_round_141 rfl rfl ?_
    refine ys_geti (n := 145) dX12_round_142 rfl fl_X12_7 (Or.inl rfl) sh_150 ?_
    refine xs_imul (n := 146) dX12_round_145 rfl ?_
    refine xs_icmp_ge (n := 149) (tgt := 263) dX12_round_146 rfl rfl (fun hc21 => ?_) (fun hc21 => ?_)
    · exact xs_gf (xs_end (kE (l3, u0))) (And.intro rfl (And.intro rfl (And.intro rfl trivial)))
    · refine xs_iload_n (n := 150) dX12_round_149 rfl rfl ?_
      refine xs_iload_n (n := 151) dX12_round_150 rfl rfl ?_
      refine xs_join 167 (fun q22 => [some (.ref 150), some (.int c1), some (.int c2), some (.int l3), none]) (fun q22 => [.int q22.1]) (fun q22 => q22.2) (fun q22 => ?_) (fun kj23 => ?_)
      · refine xs_istore (n := 169) (lv' := [some (.ref 150), some (.int c1), some (.int c2), some (.int l3), some (.int q22.1)]) dX12_round_167 rfl (Nat.le_of_ble_eq_true rfl) rfl ?_
        refine xs_aload_n (n := 170) dX12_round_169 rfl rfl ?_
        refine ys_getr (n := 173) dX12_round_170 rfl fl_X12_77 sh_150 rfl ?_
        refine xs_iload_n (n := 174) dX12_round_173 rfl rfl ?_
        refine xs_aload_n (n := 175) dX12_round_174 rfl rfl ?_
        refine ys_getr (n := 178) dX12_round_175 rfl fl_X12_83 sh_150 rfl ?_
        refine xs_iload_n (n := 179) dX12_round_178 rfl rfl ?_
        refine ys_baload (n := 180) dX12_round_179 rfl sh_172 ?_
        refine xs_join 193 (fun q27 => [some (.ref 150), some (.int c1), some (.int c2), some (.int l3), none]) (fun q27 => [.int q27, .int l3, .ref 170]) (fun q27 => q22.2) (fun q27 => ?_) (fun kj28 => ?_)
        · refine ys_bastore (n := 194) dX12_round_193 rfl sh_170 (fun u31 => ?_)
          refine xs_aload_n (n := 195) dX12_round_194 rfl rfl ?_
          refine ys_getr (n := 198) dX12_round_195 rfl fl_X12_74 sh_150 rfl ?_
          refine xs_iload_n (n := 199) dX12_round_198 rfl rfl ?_
          refine xs_aload_n (n := 200) dX12_round_199 rfl rfl ?_
          refine ys_getr (n := 203) dX12_round_200 rfl fl_X12_77 sh_150 rfl ?_
          refine xs_iload_n (n := 204) dX12_round_203 rfl rfl ?_
          refine ys_baload (n := 205) dX12_round_204 rfl sh_170 ?_
          refine xs_join 218 (fun q32 => [some (.ref 150), some (.int c1), some (.int c2), some (.int l3), none]) (fun q32 => [.long q32, .int l3, .ref 169]) (fun q32 => u31) (fun q32 => ?_) (fun kj33 => ?_)
          · refine ys_lastore (n := 219) dX12_round_218 rfl sh_169 (fun u35 => ?_)
            refine xs_aload_n (n := 220) dX12_round_219 rfl rfl ?_
            refine ys_getr (n := 223) dX12_round_220 rfl fl_X12_77 sh_150 rfl ?_
            refine xs_iload_n (n := 224) dX12_round_223 rfl rfl ?_
            refine ys_baload (n := 225) dX12_round_224 rfl sh_170 ?_
            refine xs_if_ne (n := 228) (tgt := 257) dX12_round_225 rfl rfl (fun hc36 => ?_) (fun hc36 => ?_)
            · refine xs_aload_n (n := 229) dX12_round_228 rfl rfl ?_
              refine ys_getr (n := 232) dX12_round_229 rfl fl_X12_74 sh_150 rfl ?_
              refine xs_iload_n (n := 233) dX12_round_232 rfl rfl ?_
              refine ys_laload (n := 234) dX12_round_233 rfl sh_169 ?_
              refine xs_ldc2 (n := 237) (v := (1000000000 : Int64)) dX12_round_234 rfl tw_1273 ?_
              refine xs_lif_gt (n := 241) (pc1 := 238) (tgt := 254) dX12_round_237 rfl dX12_round_238 rfl rfl (fun hc37 => ?_) (fun hc37 => ?_)
              · refine xs_bipush (n := 256) (v := (-4 : Int32)) dX12_round_254 rfl rfl ?_
                exact xs_iret dX12_round_256 rfl (hK _)
              · refine xs_aload_n (n := 242) dX12_round_241 rfl rfl ?_
                refine ys_getr (n := 245) dX12_round_242 rfl fl_X12_74 sh_150 rfl ?_
                refine xs_iload_n (n := 246) dX12_round_245 rfl rfl ?_
                refine ys_laload (n := 247) dX12_round_246 rfl sh_169 ?_
                refine xs_ldc2 (n := 250) (v := (-1000000000 : Int64)) dX12_round_247 rfl tw_1274 ?_
                refine xs_lif_ge (n := 254) (pc1 := 251) (tgt := 257) dX12_round_250 rfl dX12_round_251 rfl rfl (fun hc38 => ?_) (fun hc38 => ?_)
                · refine xs_iincl (n := 260) (dv := (1 : Int32)) (fun v39 => [some (.ref 150), some (.int c1), some (.int c2), some (.int v39), none]) dX12_round_257 rfl rfl rfl (Nat.le_of_ble_eq_true rfl) (fun _ => rfl) (fun v39 => ?_)
                  refine xs_goto (n := 139) dX12_round_260 rfl ?_
                  exact xs_gf (ih v39 u35) (And.intro rfl (And.intro rfl (And.intro rfl (And.intro rfl trivial))))
                · refine xs_bipush (n := 256) (v := (-4 : Int32)) dX12_round_254 rfl rfl ?_
                  exact xs_iret dX12_round_256 rfl (hK _)
            · refine xs_iincl (n := 260) (dv := (1 : Int32)) (fun v40 => [some (.ref 150), some (.int c1), some (.int c2), some (.int v40), none]) dX12_round_257 rfl rfl rfl (Nat.le_of_ble_eq_true rfl) (fun _ => rfl) (fun v40 => ?_)
              refine xs_goto (n := 139) dX12_round_260 rfl ?_
              exact xs_gf (ih v40 u35) (And.intro rfl (And.intro rfl (And.intro rfl (And.intro rfl trivial))))
          · refine xs_if_eq (n := 208) (tgt := 212) dX12_round_205 rfl rfl (fun hc34 => ?_) (fun hc34 => ?_)
            · refine xs_aload_n (n := 213) dX12_round_212 rfl rfl ?_
              refine ys_getr (n := 216) dX12_round_213 rfl fl_X12_80 sh_150 rfl ?_
              refine xs_iload_n (n := 217) dX12_round_216 rfl rfl ?_
              refine ys_laload (n := 218) dX12_round_217 rfl sh_171 ?_
              exact xs_gf (xs_end (kj33 ((u31.2 171 (Int32.toNatClampNeg l3))))) (And.intro rfl (And.intro rfl (And.intro rfl (And.intro rfl trivial))))
            · refine xs_lconst (n := 209) (v := (0 : Int64)) dX12_round_208 rfl rfl ?_
              refine xs_goto (n := 218) dX12_round_209 rfl ?_
              exact xs_gf (xs_end (kj33 ((0 : Int64)))) (And.intro rfl (And.intro rfl (And.intro rfl (And.intro rfl trivial))))
        · refine xs_if_ne (n := 183) (tgt := 188) dX12_round_180 rfl rfl (fun hc29 => ?_) (fun hc29 => ?_)
          · refine xs_iload (n := 185) dX12_round_183 rfl rfl ?_
            refine xs_if_eq (n := 188) (tgt := 192) dX12_round_185 rfl rfl (fun hc30 => ?_) (fun hc30 => ?_)
            · refine xs_iconst (n := 193) (v := (0 : Int32)) dX12_round_192 rfl rfl ?_
              exact xs_gf (xs_end (kj28 ((0 : Int32)))) (And.intro rfl (And.intro rfl (And.intro rfl (And.intro rfl trivial))))
            · refine xs_iconst (n := 189) (v := (1 : Int32)) dX12_round_188 rfl rfl ?_
              refine xs_goto (n := 193) dX12_round_189 rfl ?_
              exact xs_gf (xs_end (kj28 ((1 : Int32)))) (And.intro rfl (And.intro rfl (And.intro rfl (And.intro rfl trivial))))
          · refine xs_iconst (n := 189) (v := (1 : Int32)) dX12_round_188 rfl rfl ?_
            refine xs_goto (n := 193) dX12_round_189 rfl ?_
            exact xs_gf (xs_end (kj28 ((1 : Int32)))) (And.intro rfl (And.intro rfl (And.intro rfl (And.intro rfl trivial))))
      · refine xs_icmp_lt (n := 154) (tgt := 166) dX12_round_151 rfl rfl (fun hc24 => ?_) (fun hc24 => ?_)
        · refine xs_iconst (n := 167) (v := (0 : Int32)) dX12_round_166 rfl rfl ?_
          exact xs_gf (xs_end (kj23 ((0 : Int32), u0))) (And.intro rfl (And.intro rfl (And.intro rfl (And.intro rfl trivial))))
        · refine xs_aload_n (n := 155) dX12_round_154 rfl rfl ?_
          refine xs_iload_n (n := 156) dX12_round_155 rfl rfl ?_
          refine ys_callvi (n := 159) (N := mt_X12_isChanged) dX12_round_156 rfl ok_X12_isChanged tw_1269 im_X12_isChanged se_X12_isChanged ⟨Nat.le_of_ble_eq_true rfl, Nat.le_of_ble_eq_true rfl⟩ [.int l3] [] rfl rfl (Nat.le_of_ble_eq_true rfl) rfl (Nat.le_of_ble_eq_true rfl) (en_X12_isChanged m l3 u0) sh_150 (by decide) rfl (fun q25 => ?_)
          refine xs_if_eq (n := 162) (tgt := 166) dX12_round_159 rfl rfl (fun hc26 => ?_) (fun hc26 => ?_)
          · refine xs_iconst (n := 167) (v := (0 : Int32)) dX12_round_166 rfl rfl ?_
            exact xs_gf (xs_end (kj23 ((0 : Int32), q25.2))) (And.intro rfl (And.intro rfl (And.intro rfl (And.intro rfl trivial))))
          · refine xs_iconst (n := 163) (v := (1 : Int32)) dX12_round_162 rfl rfl ?_
            refine xs_goto (n := 167) dX12_round_163 rfl ?_
            exact xs_gf (xs_end (kj23 ((1 : Int32), q25.2))) (And.intro rfl (And.intro rfl (And.intro rfl (And.intro rfl trivial))))
theorem el_X12_round_130 (m : Nat) (c1 : Int32) (K : (Int32 × xm_Y) ⊕ (Int32 × xm_Y) → Option (Int32 × xm_Y)) (hK : ∀ r, K (.inl r) = some r) (kE : ∀ q : Int32 × xm_Y, xs_ (fun x : Int32 => some (.int x)) sg_0 mt_X12_round 269 [some (.ref 150), none, some (.int q.1), none, none] [] q.2 0 0 (K (.inr q))) : ∀ (n : Nat) (l2 : Int32) (u0 : xm_Y), xs_ (fun x : Int32 => some (.int x)) sg_0 mt_X12_round 130 [some (.ref 150), some (.int c1), some (.int l2), none, none] [] u0 0 0 ((lp_X12_round_130 m c1 n l2 u0).bind K) := by
  intro n
  induction n with
  | zero =>
    intro l2 u0
    exact xs_none
  | succ n ih =>
    intro l2 u0
    rw [lp_X12_round_130]
    refine xs_aload_n (n := 131) dX12_round_130 rfl rfl ?_
    refine ys_callvi (n := 134) (N := mt_X12_goRound) dX12_round_131 rfl ok_X12_goRound tw_1257 im_X12_goRound se_X12_goRound ⟨Nat.le_of_ble_eq_true rfl, Nat.le_of_ble_eq_true rfl⟩ [] [] rfl rfl (Nat.le_of_ble_eq_true rfl) rfl (Nat.le_of_ble_eq_true rfl) (en_X12_goRound m u0) sh_150 (by decide) rfl (fun q19 => ?_)
    refine xs_if_eq (n := 137) (tgt := 269) dX12_round_134 rfl rfl (fun hc20 => ?_) (fun hc20 => ?_)
    · exact xs_gf (xs_end (kE (l2, q19.2))) (And.intro rfl (And.intro rfl trivial))
    · refine xs_iconst (n := 138) (v := (0 : Int32)) dX12_round_137 rfl rfl ?_
      refine xs_istore_n (n := 139) (lv' := [some (.ref 150), some (.int c1), some (.int l2), some (.int (0 : Int32)), none]) dX12_round_138 rfl (Nat.le_of_ble_eq_true rfl) rfl ?_
      refine xs_reg ?_
      refine xs_fg (lv' := [some (.ref 150), some (.int c1), some (.int l2), some (.int (0 : Int32)), none]) (And.intro rfl (And.intro rfl (And.intro rfl (And.intro rfl trivial)))) ?_
      refine el_X12_round_139 m c1 l2 _ (by exact fun r => hK r) (fun q41 => ?_) m (0 : Int32) q19.2
      refine xs_inr ?_
      refine xs_iincl (n := 266) (dv := (1 : Int32)) (fun v42 => [some (.ref 150), some (.int c1), some (.int v42), none, none]) dX12_round_263 rfl rfl rfl (Nat.le_of_ble_eq_true rfl) (fun _ => rfl) (fun v42 => ?_)
      refine xs_goto (n := 130) dX12_round_266 rfl ?_
      exact xs_gf (ih v42 q41.2) (And.intro rfl (And.intro rfl (And.intro rfl trivial)))
theorem el_X12_round_276 (m : Nat) (c2 : Int32) (K : Int32 × xm_Y → Option (Int32 × xm_Y)) (kE : ∀ q : Int32 × xm_Y, xs_ (fun x : Int32 => some (.int x)) sg_0 mt_X12_round 330 [none, none, some (.int c2), none, none] [] q.2 0 0 (K q)) : ∀ (n : Nat) (l3 : Int32) (u0 : xm_Y), xs_ (fun x : Int32 => some (.int x)) sg_0 mt_X12_round 276 [some (.ref 150), none, some (.int c2), some (.int l3), none] [] u0 0 0 ((lp_X12_round_276 m n l3 u0).bind K) := by
  intro n
  induction n with
  | zero =>
    intro l3 u0
    exact xs_none
  | succ n ih =>
    intro l3 u0
    rw [lp_X12_round_276]
    refine xs_iload_n (n := 277) dX12_round_276 rfl rfl ?_
    refine xs_bipush (n := 279) (v := (6 : Int32)) dX12_round_277 rfl rfl ?_
    refine xs_icmp_ge (n := 282) (tgt := 330) dX12_round_279 rfl rfl (fun hc45 => ?_) (fun hc45 => ?_)
    · exact xs_gf (xs_end (kE (l3, u0))) (And.intro rfl trivial)
    · refine xs_aload_n (n := 283) dX12_round_282 rfl rfl ?_
      refine ys_getr (n := 286) dX12_round_283 rfl fl_X12_27 sh_150 rfl ?_
      refine xs_iload_n (n := 287) dX12_round_286 rfl rfl ?_
      refine xs_aload_n (n := 288) dX12_round_287 rfl rfl ?_
      refine ys_getr (n := 291) dX12_round_288 rfl fl_X12_74 sh_150 rfl ?_
      refine xs_iload_n (n := 292) dX12_round_291 rfl rfl ?_
      refine ys_laload (n := 293) dX12_round_292 rfl sh_169 ?_
      refine ys_lastore (n := 294) dX12_round_293 rfl sh_155 (fun u46 => ?_)
      refine xs_aload_n (n := 295) dX12_round_294 rfl rfl ?_
      refine ys_getr (n := 298) dX12_round_295 rfl fl_X12_30 sh_150 rfl ?_
      refine xs_iload_n (n := 299) dX12_round_298 rfl rfl ?_
      refine xs_iload_n (n := 300) dX12_round_299 rfl rfl ?_
      refine xs_iconst (n := 301) (v := (2 : Int32)) dX12_round_300 rfl rfl ?_
      refine xs_aload_n (n := 302) dX12_round_301 rfl rfl ?_
      refine ys_geti (n := 305) dX12_round_302 rfl fl_X12_7 (Or.inl rfl) sh_150 ?_
      refine xs_imul (n := 306) dX12_round_305 rfl ?_
      refine xs_join 323 (fun q47 => [some (.ref 150), none, some (.int c2), some (.int l3), none]) (fun q47 => [.int q47, .int l3, .ref 156]) (fun q47 => u46) (fun q47 => ?_) (fun kj48 => ?_)
      · refine ys_bastore (n := 324) dX12_round_323 rfl sh_156 (fun u51 => ?_)
        refine xs_iincl (n := 327) (dv := (1 : Int32)) (fun v52 => [some (.ref 150), none, some (.int c2), some (.int v52), none]) dX12_round_324 rfl rfl rfl (Nat.le_of_ble_eq_true rfl) (fun _ => rfl) (fun v52 => ?_)
        refine xs_goto (n := 276) dX12_round_327 rfl ?_
        exact xs_gf (ih v52 u51) (And.intro rfl (And.intro rfl (And.intro rfl trivial)))
      · refine xs_icmp_ge (n := 309) (tgt := 318) dX12_round_306 rfl rfl (fun hc49 => ?_) (fun hc49 => ?_)
        · refine xs_iconst (n := 319) (v := (1 : Int32)) dX12_round_318 rfl rfl ?_
          refine xs_goto (n := 323) dX12_round_319 rfl ?_
          exact xs_gf (xs_end (kj48 ((1 : Int32)))) (And.intro rfl (And.intro rfl (And.intro rfl trivial)))
        · refine xs_aload_n (n := 310) dX12_round_309 rfl rfl ?_
          refine ys_getr (n := 313) dX12_round_310 rfl fl_X12_77 sh_150 rfl ?_
          refine xs_iload_n (n := 314) dX12_round_313 rfl rfl ?_
          refine ys_baload (n := 315) dX12_round_314 rfl sh_170 ?_
          refine xs_if_eq (n := 318) (tgt := 322) dX12_round_315 rfl rfl (fun hc50 => ?_) (fun hc50 => ?_)
          · refine xs_iconst (n := 323) (v := (0 : Int32)) dX12_round_322 rfl rfl ?_
            exact xs_gf (xs_end (kj48 ((0 : Int32)))) (And.intro rfl (And.intro rfl (And.intro rfl trivial)))
          · refine xs_iconst (n := 319) (v := (1 : Int32)) dX12_round_318 rfl rfl ?_
            refine xs_goto (n := 323) dX12_round_319 rfl ?_
            exact xs_gf (xs_end (kj48 ((1 : Int32)))) (And.intro rfl (And.intro rfl (And.intro rfl trivial)))
theorem en_X12_round (m : Nat) (x0 : Int32) (u0 : xm_Y) : xs_ (fun x : Int32 => some (.int x)) sg_0 mt_X12_round 0 [some (.ref 150), some (.int x0), none, none, none] [] u0 0 0 (fn_X12_round m x0 u0) := by
  refine xs_top ?_
  rw [fn_X12_round]
  refine xs_iload_n (n := 1) dX12_round_0 rfl rfl ?_
  refine xs_iconst (n := 2) (v := (1 : Int32)) dX12_round_1 rfl rfl ?_
  refine xs_icmp_lt (n := 5) (tgt := 11) dX12_round_2 rfl rfl (fun hc1 => ?_) (fun hc1 => ?_)
  · refine xs_iconst (n := 12) (v := (-1 : Int32)) dX12_round_11 rfl rfl ?_
    exact xs_iret dX12_round_12 rfl rfl
  · refine xs_iload_n (n := 6) dX12_round_5 rfl rfl ?_
    refine xs_bipush (n := 8) (v := (20 : Int32)) dX12_round_6 rfl rfl ?_
    refine xs_icmp_le (n := 11) (tgt := 13) dX12_round_8 rfl rfl (fun hc2 => ?_) (fun hc2 => ?_)
    · refine xs_iconst (n := 14) (v := (0 : Int32)) dX12_round_13 rfl rfl ?_
      refine xs_istore_n (n := 15) (lv' := [some (.ref 150), some (.int x0), some (.int (0 : Int32)), none, none]) dX12_round_14 rfl (Nat.le_of_ble_eq_true rfl) rfl ?_
      refine xs_reg ?_
      refine xs_fg (lv' := [some (.ref 150), some (.int x0), some (.int (0 : Int32)), none, none]) (And.intro rfl (And.intro rfl (And.intro rfl trivial))) ?_
      refine el_X12_round_15 m x0 u0 _ (fun _ => rfl) (fun q10 => ?_) m (0 : Int32)
      refine xs_inr ?_
      refine xs_iconst (n := 78) (v := (0 : Int32)) dX12_round_77 rfl rfl ?_
      refine xs_istore_n (n := 79) (lv' := [some (.ref 150), some (.int x0), some (.int (0 : Int32)), none, none]) dX12_round_78 rfl (Nat.le_of_ble_eq_true rfl) rfl ?_
      refine xs_reg ?_
      refine xs_fg (lv' := [some (.ref 150), some (.int x0), some (.int (0 : Int32)), none, none]) (And.intro rfl (And.intro rfl (And.intro rfl trivial))) ?_
      refine el_X12_round_79 m x0 _ (fun q18 => ?_) m (0 : Int32) u0
      refine xs_iconst (n := 129) (v := (1 : Int32)) dX12_round_128 rfl rfl ?_
      refine xs_istore_n (n := 130) (lv' := [some (.ref 150), some (.int x0), some (.int (1 : Int32)), none, none]) dX12_round_129 rfl (Nat.le_of_ble_eq_true rfl) rfl ?_
      refine xs_reg ?_
      refine xs_fg (lv' := [some (.ref 150), some (.int x0), some (.int (1 : Int32)), none, none]) (And.intro rfl (And.intro rfl (And.intro rfl trivial))) ?_
      refine el_X12_round_130 m x0 _ (fun _ => rfl) (fun q43 => ?_) m (1 : Int32) q18.2
      refine xs_inr ?_
      refine xs_aload_n (n := 270) dX12_round_269 rfl rfl ?_
      refine xs_iconst (n := 271) (v := (0 : Int32)) dX12_round_270 rfl rfl ?_
      refine ys_putzc (n := 274) dX12_round_271 rfl fl_X12_131 rfl sh_150 (Or.inl rfl) (fun u44 => ?_)
      refine xs_iconst (n := 275) (v := (0 : Int32)) dX12_round_274 rfl rfl ?_
      refine xs_istore_n (n := 276) (lv' := [some (.ref 150), none, some (.int q43.1), some (.int (0 : Int32)), none]) dX12_round_275 rfl (Nat.le_of_ble_eq_true rfl) rfl ?_
      refine xs_reg ?_
      refine xs_fg (lv' := [some (.ref 150), none, some (.int q43.1), some (.int (0 : Int32)), none]) (And.intro rfl (And.intro rfl (And.intro rfl trivial))) ?_
      refine el_X12_round_276 m q43.1 _ (fun q53 => ?_) m (0 : Int32) u44
      refine xs_iload_n (n := 331) dX12_round_330 rfl rfl ?_
      exact xs_iret dX12_round_331 rfl rfl
    · refine xs_iconst (n := 12) (v := (-1 : Int32)) dX12_round_11 rfl rfl ?_
      exact xs_iret dX12_round_12 rfl rfl
