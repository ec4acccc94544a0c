def fn_X3_toOf (m : Nat) (x0 : Int64) (u0 : xm_Y) : Option (Int32 × xm_Y) :=
  some (((Int64.toInt32 ((Int64.toUInt64 x0 >>> (Int64.toUInt64 (Int32.toInt64 (35 : Int32)) &&& Int64.toUInt64 63)).toInt64)) &&& (7 : Int32)), u0)
theorem en_X3_toOf (m : Nat) (x0 : Int64) (u0 : xm_Y) : xs_ (fun x : Int32 => some (.int x)) sg_0 mt_X3_toOf 0 [some (.long x0), none] [] u0 0 0 (fn_X3_toOf m x0 u0) := by
  refine xs_top ?_
  rw [fn_X3_toOf]
  refine xs_lload_n (n := 1) dX3_toOf_0 rfl rfl ?_
  refine xs_bipush (n := 3) (v := (35 : Int32)) dX3_toOf_1 rfl rfl ?_
  refine xs_lushr (n := 4) dX3_toOf_3 rfl ?_
  refine xs_l2i (n := 5) dX3_toOf_4 rfl ?_
  refine xs_bipush (n := 7) (v := (7 : Int32)) dX3_toOf_5 rfl rfl ?_
  refine xs_iand (n := 8) dX3_toOf_7 rfl ?_
  exact xs_iret dX3_toOf_8 rfl rfl
def fn_X3_fromOf (m : Nat) (x0 : Int64) (u0 : xm_Y) : Option (Int32 × xm_Y) :=
  some (((Int64.toInt32 ((Int64.toUInt64 x0 >>> (Int64.toUInt64 (Int32.toInt64 (32 : Int32)) &&& Int64.toUInt64 63)).toInt64)) &&& (7 : Int32)), u0)
theorem en_X3_fromOf (m : Nat) (x0 : Int64) (u0 : xm_Y) : xs_ (fun x : Int32 => some (.int x)) sg_0 mt_X3_fromOf 0 [some (.long x0), none] [] u0 0 0 (fn_X3_fromOf m x0 u0) := by
  refine xs_top ?_
  rw [fn_X3_fromOf]
  refine xs_lload_n (n := 1) dX3_fromOf_0 rfl rfl ?_
  refine xs_bipush (n := 3) (v := (32 : Int32)) dX3_fromOf_1 rfl rfl ?_
  refine xs_lushr (n := 4) dX3_fromOf_3 rfl ?_
  refine xs_l2i (n := 5) dX3_fromOf_4 rfl ?_
  refine xs_bipush (n := 7) (v := (7 : Int32)) dX3_fromOf_5 rfl rfl ?_
  refine xs_iand (n := 8) dX3_fromOf_7 rfl ?_
  exact xs_iret dX3_fromOf_8 rfl rfl
def fn_X3_toldOf (m : Nat) (x0 : Int64) (u0 : xm_Y) : Option (Int32 × xm_Y) :=
  some (((Int64.toInt32 x0) &&& (65535 : Int32)), u0)
theorem en_X3_toldOf (m : Nat) (x0 : Int64) (u0 : xm_Y) : xs_ (fun x : Int32 => some (.int x)) sg_0 mt_X3_toldOf 0 [some (.long x0), none] [] u0 0 0 (fn_X3_toldOf m x0 u0) := by
  refine xs_top ?_
  rw [fn_X3_toldOf]
  refine xs_lload_n (n := 1) dX3_toldOf_0 rfl rfl ?_
  refine xs_l2i (n := 2) dX3_toldOf_1 rfl ?_
  refine xs_ldc (n := 4) (v := (65535 : Int32)) dX3_toldOf_2 rfl tw_831 ?_
  refine xs_iand (n := 5) dX3_toldOf_4 rfl ?_
  exact xs_iret dX3_toldOf_5 rfl rfl
def fn_X3_lessOf (m : Nat) (x0 : Int64) (u0 : xm_Y) : Option (Int32 × xm_Y) :=
  some (((Int64.toInt32 ((Int64.toUInt64 x0 >>> (Int64.toUInt64 (Int32.toInt64 (16 : Int32)) &&& Int64.toUInt64 63)).toInt64)) &&& (65535 : Int32)), u0)
theorem en_X3_lessOf (m : Nat) (x0 : Int64) (u0 : xm_Y) : xs_ (fun x : Int32 => some (.int x)) sg_0 mt_X3_lessOf 0 [some (.long x0), none] [] u0 0 0 (fn_X3_lessOf m x0 u0) := by
  refine xs_top ?_
  rw [fn_X3_lessOf]
  refine xs_lload_n (n := 1) dX3_lessOf_0 rfl rfl ?_
  refine xs_bipush (n := 3) (v := (16 : Int32)) dX3_lessOf_1 rfl rfl ?_
  refine xs_lushr (n := 4) dX3_lessOf_3 rfl ?_
  refine xs_l2i (n := 5) dX3_lessOf_4 rfl ?_
  refine xs_ldc (n := 7) (v := (65535 : Int32)) dX3_lessOf_5 rfl tw_831 ?_
  refine xs_iand (n := 8) dX3_lessOf_7 rfl ?_
  exact xs_iret dX3_lessOf_8 rfl rfl
def lp_X3_together_21 (m : Nat) (c0 : Int64) (c2 : Int64) (c5 : Int32) : Nat → Int32 → Int32 → Int32 → xm_Y → Option (Int32 × Int32 × Int32 × xm_Y)
  | 0, _, _, _, _ => none
  | n + 1, l6, l7, l8, u0 =>
  if (4 : Int32) ≤ l8 then (
  some (l6, l7, l8, u0)) else (
  xm_let (α := Int32) ((((4 : Int32) * c5) + l8)) fun v3 =>
  ((fn_X3_toldOf m c0 u0).bind fun q4 =>
  ((if ((q4.1 >>> (v3 &&& 31)) &&& (1 : Int32)) = 0 then (
  some (l6, l7, q4.2)) else (
  ((fn_X3_toldOf m c2 q4.2).bind fun q8 =>
  xm_let (α := Int32) (((q8.1 >>> (((4 : Int32) * l8) &&& 31)) &&& (15 : Int32))) fun v9 =>
  xm_let (α := Int32) ((l6 ||| v9)) fun v10 =>
  ((fn_X3_lessOf m c0 q8.2).bind fun q11 =>
  ((if ((q11.1 >>> (v3 &&& 31)) &&& (1 : Int32)) = 0 then (
  ((fn_X3_lessOf m c2 q11.2).bind fun q15 =>
  some (((q15.1 >>> (((4 : Int32) * l8) &&& 31)) &&& (15 : Int32)), q15.2))) else (
  some (v9, q11.2)) : Option (Int32 × xm_Y)).bind fun q12 =>
  xm_let (α := Int32) ((l7 ||| q12.1)) fun v16 =>
  some (v10, v16, q12.2))))) : Option (Int32 × Int32 × xm_Y)).bind fun q5 =>
  xm_let (α := Int32) (l8 + (1 : Int32)) fun v17 =>
  lp_X3_together_21 m c0 c2 c5 n q5.1 q5.2.1 v17 q5.2.2)))
def lp_X3_together_6 (m : Nat) (c0 : Int64) (c2 : Int64) : Nat → Int32 → Int32 → xm_Y → Option (Int32 × Int32 × xm_Y)
  | 0, _, _, _ => none
  | n + 1, l4, l5, u0 =>
  if (4 : Int32) ≤ l5 then (
  some (l4, l5, u0)) else (
  ((lp_X3_together_21 m c0 c2 l5 m (0 : Int32) (0 : Int32) (0 : Int32) u0).bind fun q18 =>
  xm_let (α := Int32) ((l4 ||| ((q18.1 <<< (((4 : Int32) * l5) &&& 31)) ||| (q18.2.1 <<< ((((4 : Int32) * l5) + (16 : Int32)) &&& 31))))) fun v19 =>
  xm_let (α := Int32) (l5 + (1 : Int32)) fun v20 =>
  lp_X3_together_6 m c0 c2 n v19 v20 q18.2.2.2))
def fn_X3_together (m : Nat) (x0 : Int64) (x1 : Int64) (u0 : xm_Y) : Option (Int64 × xm_Y) :=
  ((lp_X3_together_6 m x0 x1 m (0 : Int32) (0 : Int32) u0).bind fun q21 =>
  ((fn_X3_fromOf m x0 q21.2.2).bind fun q22 =>
  ((fn_X3_toOf m x1 q22.2).bind fun q23 =>
  ((fn_X3_packed m q22.1 q23.1 q21.1 q23.2).bind fun q24 =>
  some (q24.1, q24.2)))))
theorem el_X3_together_21 (m : Nat) (c0 : Int64) (c2 : Int64) (c5 : Int32) (c4 : Int32) (K : Int32 × Int32 × Int32 × xm_Y → Option (Int64 × xm_Y)) (kE : ∀ q : Int32 × Int32 × Int32 × xm_Y, xs_ (fun x : Int64 => some (.long x)) sg_0 mt_X3_together 109 [some (.long c0), none, some (.long c2), none, some (.int c4), some (.int c5), some (.int q.1), some (.int q.2.1), none, none, none] [] q.2.2.2 0 0 (K q)) : ∀ (n : Nat) (l6 : Int32) (l7 : Int32) (l8 : Int32) (u0 : xm_Y), xs_ (fun x : Int64 => some (.long x)) sg_0 mt_X3_together 21 [some (.long c0), none, some (.long c2), none, some (.int c4), some (.int c5), some (.int l6), some (.int l7), some (.int l8), none, none] [] u0 0 0 ((lp_X3_together_21 m c0 c2 c5 n l6 l7 l8 u0).bind K) := by
  intro n
  induction n with
  | zero =>
    intro l6 l7 l8 u0
    exact xs_none
  | succ n ih =>
    intro l6 l7 l8 u0
    rw [lp_X3_together_21]
    refine xs_iload (n := 23) dX3_together_21 rfl rfl ?_
    refine xs_iconst (n := 24) (v := (4 : Int32)) dX3_together_23 rfl rfl ?_
    refine xs_icmp_ge (n := 27) (tgt := 109) dX3_together_24 rfl rfl (fun hc2 => ?_) (fun hc2 => ?_)
    · exact xs_gf (xs_end (kE (l6, l7, l8, u0))) (And.intro rfl (And.intro rfl (And.intro rfl (And.intro rfl (And.intro rfl (And.intro rfl trivial))))))
    · refine xs_iconst (n := 28) (v := (4 : Int32)) dX3_together_27 rfl rfl ?_
      refine xs_iload (n := 30) dX3_together_28 rfl rfl ?_
      refine xs_imul (n := 31) dX3_together_30 rfl ?_
      refine xs_iload (n := 33) dX3_together_31 rfl rfl ?_
      refine xs_iadd (n := 34) dX3_together_33 rfl ?_
      refine xs_leti (fun v3 => ?_)
      refine xs_istore (n := 36) (lv' := [some (.long c0), none, some (.long c2), none, some (.int c4), some (.int c5), some (.int l6), some (.int l7), some (.int l8), some (.int v3), none]) dX3_together_34 rfl (Nat.le_of_ble_eq_true rfl) rfl ?_
      refine xs_lload_n (n := 37) dX3_together_36 rfl rfl ?_
      refine ys_callsi (n := 40) (N := mt_X3_toldOf) dX3_together_37 rfl ok_X3_toldOf tw_828 st_X3_toldOf ⟨Nat.le_of_ble_eq_true rfl, Nat.le_of_ble_eq_true rfl⟩ [.long c0] [] rfl rfl (Nat.le_of_ble_eq_true rfl) rfl (Nat.le_of_ble_eq_true rfl) (en_X3_toldOf m c0 u0) (fun q4 => ?_)
      refine xs_iload (n := 42) dX3_together_40 rfl rfl ?_
      refine xs_ishr (n := 43) dX3_together_42 rfl ?_
      refine xs_iconst (n := 44) (v := (1 : Int32)) dX3_together_43 rfl rfl ?_
      refine xs_iand (n := 45) dX3_together_44 rfl ?_
      refine xs_join 103 (fun q5 => [some (.long c0), none, some (.long c2), none, some (.int c4), some (.int c5), some (.int q5.1), some (.int q5.2.1), some (.int l8), none, none]) (fun q5 => []) (fun q5 => q5.2.2) (fun q5 => ?_) (fun kj6 => ?_)
      · refine xs_iincl (n := 106) (dv := (1 : Int32)) (fun v17 => [some (.long c0), none, some (.long c2), none, some (.int c4), some (.int c5), some (.int q5.1), some (.int q5.2.1), some (.int v17), none, none]) dX3_together_103 rfl rfl rfl (Nat.le_of_ble_eq_true rfl) (fun _ => rfl) (fun v17 => ?_)
        refine xs_goto (n := 21) dX3_together_106 rfl ?_
        exact xs_gf (ih q5.1 q5.2.1 v17 q5.2.2) (And.intro rfl (And.intro rfl (And.intro rfl (And.intro rfl (And.intro rfl (And.intro rfl (And.intro rfl trivial)))))))
      · refine xs_if_eq (n := 48) (tgt := 103) dX3_together_45 rfl rfl (fun hc7 => ?_) (fun hc7 => ?_)
        · exact xs_gf (xs_end (kj6 (l6, l7, q4.2))) (And.intro rfl (And.intro rfl (And.intro rfl (And.intro rfl (And.intro rfl (And.intro rfl (And.intro rfl trivial)))))))
        · refine xs_lload_n (n := 49) dX3_together_48 rfl rfl ?_
          refine ys_callsi (n := 52) (N := mt_X3_toldOf) dX3_together_49 rfl ok_X3_toldOf tw_828 st_X3_toldOf ⟨Nat.le_of_ble_eq_true rfl, Nat.le_of_ble_eq_true rfl⟩ [.long c2] [] rfl rfl (Nat.le_of_ble_eq_true rfl) rfl (Nat.le_of_ble_eq_true rfl) (en_X3_toldOf m c2 q4.2) (fun q8 => ?_)
          refine xs_iconst (n := 53) (v := (4 : Int32)) dX3_together_52 rfl rfl ?_
          refine xs_iload (n := 55) dX3_together_53 rfl rfl ?_
          refine xs_imul (n := 56) dX3_together_55 rfl ?_
          refine xs_ishr (n := 57) dX3_together_56 rfl ?_
          refine xs_bipush (n := 59) (v := (15 : Int32)) dX3_together_57 rfl rfl ?_
          refine xs_iand (n := 60) dX3_together_59 rfl ?_
          refine xs_leti (fun v9 => ?_)
          refine xs_istore (n := 62) (lv' := [some (.long c0), none, some (.long c2), none, some (.int c4), some (.int c5), some (.int l6), some (.int l7), some (.int l8), some (.int v3), some (.int v9)]) dX3_together_60 rfl (Nat.le_of_ble_eq_true rfl) rfl ?_
          refine xs_iload (n := 64) dX3_together_62 rfl rfl ?_
          refine xs_iload (n := 66) dX3_together_64 rfl rfl ?_
          refine xs_ior (n := 67) dX3_together_66 rfl ?_
          refine xs_leti (fun v10 => ?_)
          refine xs_istore (n := 69) (lv' := [some (.long c0), none, some (.long c2), none, some (.int c4), some (.int c5), some (.int v10), some (.int l7), some (.int l8), some (.int v3), some (.int v9)]) dX3_together_67 rfl (Nat.le_of_ble_eq_true rfl) rfl ?_
          refine xs_iload (n := 71) dX3_together_69 rfl rfl ?_
          refine xs_lload_n (n := 72) dX3_together_71 rfl rfl ?_
          refine ys_callsi (n := 75) (N := mt_X3_lessOf) dX3_together_72 rfl ok_X3_lessOf tw_832 st_X3_lessOf ⟨Nat.le_of_ble_eq_true rfl, Nat.le_of_ble_eq_true rfl⟩ [.long c0] [.int l7] rfl rfl (Nat.le_of_ble_eq_true rfl) rfl (Nat.le_of_ble_eq_true rfl) (en_X3_lessOf m c0 q8.2) (fun q11 => ?_)
          refine xs_iload (n := 77) dX3_together_75 rfl rfl ?_
          refine xs_ishr (n := 78) dX3_together_77 rfl ?_
          refine xs_iconst (n := 79) (v := (1 : Int32)) dX3_together_78 rfl rfl ?_
          refine xs_iand (n := 80) dX3_together_79 rfl ?_
          refine xs_join 100 (fun q12 => [some (.long c0), none, some (.long c2), none, some (.int c4), some (.int c5), some (.int v10), none, some (.int l8), none, none]) (fun q12 => [.int q12.1, .int l7]) (fun q12 => q12.2) (fun q12 => ?_) (fun kj13 => ?_)
          · refine xs_ior (n := 101) dX3_together_100 rfl ?_
            refine xs_leti (fun v16 => ?_)
            refine xs_istore (n := 103) (lv' := [some (.long c0), none, some (.long c2), none, some (.int c4), some (.int c5), some (.int v10), some (.int v16), some (.int l8), none, none]) dX3_together_101 rfl (Nat.le_of_ble_eq_true rfl) rfl ?_
            exact xs_gf (xs_end (kj6 (v10, v16, q12.2))) (And.intro rfl (And.intro rfl (And.intro rfl (And.intro rfl (And.intro rfl (And.intro rfl (And.intro rfl trivial)))))))
          · refine xs_if_eq (n := 83) (tgt := 88) dX3_together_80 rfl rfl (fun hc14 => ?_) (fun hc14 => ?_)
            · refine xs_lload_n (n := 89) dX3_together_88 rfl rfl ?_
              refine ys_callsi (n := 92) (N := mt_X3_lessOf) dX3_together_89 rfl ok_X3_lessOf tw_832 st_X3_lessOf ⟨Nat.le_of_ble_eq_true rfl, Nat.le_of_ble_eq_true rfl⟩ [.long c2] [.int l7] rfl rfl (Nat.le_of_ble_eq_true rfl) rfl (Nat.le_of_ble_eq_true rfl) (en_X3_lessOf m c2 q11.2) (fun q15 => ?_)
              refine xs_iconst (n := 93) (v := (4 : Int32)) dX3_together_92 rfl rfl ?_
              refine xs_iload (n := 95) dX3_together_93 rfl rfl ?_
              refine xs_imul (n := 96) dX3_together_95 rfl ?_
              refine xs_ishr (n := 97) dX3_together_96 rfl ?_
              refine xs_bipush (n := 99) (v := (15 : Int32)) dX3_together_97 rfl rfl ?_
              refine xs_iand (n := 100) dX3_together_99 rfl ?_
              exact xs_gf (xs_end (kj13 (((q15.1 >>> (((4 : Int32) * l8) &&& 31)) &&& (15 : Int32)), q15.2))) (And.intro rfl (And.intro rfl (And.intro rfl (And.intro rfl (And.intro rfl (And.intro rfl trivial))))))
            · refine xs_iload (n := 85) dX3_together_83 rfl rfl ?_
              refine xs_goto (n := 100) dX3_together_85 rfl ?_
              exact xs_gf (xs_end (kj13 (v9, q11.2))) (And.intro rfl (And.intro rfl (And.intro rfl (And.intro rfl (And.intro rfl (And.intro rfl trivial))))))
theorem el_X3_together_6 (m : Nat) (c0 : Int64) (c2 : Int64) (K : Int32 × Int32 × xm_Y → Option (Int64 × xm_Y)) (kE : ∀ q : Int32 × Int32 × xm_Y, xs_ (fun x : Int64 => some (.long x)) sg_0 mt_X3_together 138 [some (.long c0), none, some (.long c2), none, some (.int q.1), none, none, none, none, none, none] [] q.2.2 0 0 (K q)) : ∀ (n : Nat) (l4 : Int32) (l5 : Int32) (u0 : xm_Y), xs_ (fun x : Int64 => some (.long x)) sg_0 mt_X3_together 6 [some (.long c0), none, some (.long c2), none, some (.int l4), some (.int l5), none, none, none, none, none] [] u0 0 0 ((lp_X3_together_6 m c0 c2 n l4 l5 u0).bind K) := by
  intro n
  induction n with
  | zero =>
    intro l4 l5 u0
    exact xs_none
  | succ n ih =>
    intro l4 l5 u0
    rw [lp_X3_together_6]
    refine xs_iload (n := 8) dX3_together_6 rfl rfl ?_
    refine xs_iconst (n := 9) (v := (4 : Int32)) dX3_together_8 rfl rfl ?_
    refine xs_icmp_ge (n := 12) (tgt := 138) dX3_together_9 rfl rfl (fun hc1 => ?_) (fun hc1 => ?_)
    · exact xs_gf (xs_end (kE (l4, l5, u0))) (And.intro rfl (And.intro rfl (And.intro rfl trivial)))
    · refine xs_iconst (n := 13) (v := (0 : Int32)) dX3_together_12 rfl rfl ?_
      refine xs_istore (n := 15) (lv' := [some (.long c0), none, some (.long c2), none, some (.int l4), some (.int l5), some (.int (0 : Int32)), none, none, none, none]) dX3_together_13 rfl (Nat.le_of_ble_eq_true rfl) rfl ?_
      refine xs_iconst (n := 16) (v := (0 : Int32)) dX3_together_15 rfl rfl ?_
      refine xs_istore (n := 18) (lv' := [some (.long c0), none, some (.long c2), none, some (.int l4), some (.int l5), some (.int (0 : Int32)), some (.int (0 : Int32)), none, none, none]) dX3_together_16 rfl (Nat.le_of_ble_eq_true rfl) rfl ?_
      refine xs_iconst (n := 19) (v := (0 : Int32)) dX3_together_18 rfl rfl ?_
      refine xs_istore (n := 21) (lv' := [some (.long c0), none, some (.long c2), none, some (.int l4), some (.int l5), some (.int (0 : Int32)), some (.int (0 : Int32)), some (.int (0 : Int32)), none, none]) dX3_together_19 rfl (Nat.le_of_ble_eq_true rfl) rfl ?_
      refine xs_reg ?_
      refine xs_fg (lv' := [some (.long c0), none, some (.long c2), none, some (.int l4), some (.int l5), some (.int (0 : Int32)), some (.int (0 : Int32)), some (.int (0 : Int32)), none, none]) (And.intro rfl (And.intro rfl (And.intro rfl (And.intro rfl (And.intro rfl (And.intro rfl (And.intro rfl trivial))))))) ?_
      refine el_X3_together_21 m c0 c2 l5 l4 _ (fun q18 => ?_) m (0 : Int32) (0 : Int32) (0 : Int32) u0
      refine xs_iload (n := 111) dX3_together_109 rfl rfl ?_
      refine xs_iload (n := 113) dX3_together_111 rfl rfl ?_
      refine xs_iconst (n := 114) (v := (4 : Int32)) dX3_together_113 rfl rfl ?_
      refine xs_iload (n := 116) dX3_together_114 rfl rfl ?_
      refine xs_imul (n := 117) dX3_together_116 rfl ?_
      refine xs_ishl (n := 118) dX3_together_117 rfl ?_
      refine xs_iload (n := 120) dX3_together_118 rfl rfl ?_
      refine xs_iconst (n := 121) (v := (4 : Int32)) dX3_together_120 rfl rfl ?_
      refine xs_iload (n := 123) dX3_together_121 rfl rfl ?_
      refine xs_imul (n := 124) dX3_together_123 rfl ?_
      refine xs_bipush (n := 126) (v := (16 : Int32)) dX3_together_124 rfl rfl ?_
      refine xs_iadd (n := 127) dX3_together_126 rfl ?_
      refine xs_ishl (n := 128) dX3_together_127 rfl ?_
      refine xs_ior (n := 129) dX3_together_128 rfl ?_
      refine xs_ior (n := 130) dX3_together_129 rfl ?_
      refine xs_leti (fun v19 => ?_)
      refine xs_istore (n := 132) (lv' := [some (.long c0), none, some (.long c2), none, some (.int v19), some (.int l5), some (.int q18.1), some (.int q18.2.1), none, none, none]) dX3_together_130 rfl (Nat.le_of_ble_eq_true rfl) rfl ?_
      refine xs_iincl (n := 135) (dv := (1 : Int32)) (fun v20 => [some (.long c0), none, some (.long c2), none, some (.int v19), some (.int v20), some (.int q18.1), some (.int q18.2.1), none, none, none]) dX3_together_132 rfl rfl rfl (Nat.le_of_ble_eq_true rfl) (fun _ => rfl) (fun v20 => ?_)
      refine xs_goto (n := 6) dX3_together_135 rfl ?_
      exact xs_gf (ih v19 v20 q18.2.2.2) (And.intro rfl (And.intro rfl (And.intro rfl (And.intro rfl trivial))))
theorem en_X3_together (m : Nat) (x0 : Int64) (x1 : Int64) (u0 : xm_Y) : xs_ (fun x : Int64 => some (.long x)) sg_0 mt_X3_together 0 [some (.long x0), none, some (.long x1), none, none, none, none, none, none, none, none] [] u0 0 0 (fn_X3_together m x0 x1 u0) := by
  refine xs_top ?_
  rw [fn_X3_together]
  refine xs_iconst (n := 1) (v := (0 : Int32)) dX3_together_0 rfl rfl ?_
  refine xs_istore (n := 3) (lv' := [some (.long x0), none, some (.long x1), none, some (.int (0 : Int32)), none, none, none, none, none, none]) dX3_together_1 rfl (Nat.le_of_ble_eq_true rfl) rfl ?_
  refine xs_iconst (n := 4) (v := (0 : Int32)) dX3_together_3 rfl rfl ?_
  refine xs_istore (n := 6) (lv' := [some (.long x0), none, some (.long x1), none, some (.int (0 : Int32)), some (.int (0 : Int32)), none, none, none, none, none]) dX3_together_4 rfl (Nat.le_of_ble_eq_true rfl) rfl ?_
  refine xs_reg ?_
  refine xs_fg (lv' := [some (.long x0), none, some (.long x1), none, some (.int (0 : Int32)), some (.int (0 : Int32)), none, none, none, none, none]) (And.intro rfl (And.intro rfl (And.intro rfl (And.intro rfl trivial)))) ?_
  refine el_X3_together_6 m x0 x1 _ (fun q21 => ?_) m (0 : Int32) (0 : Int32) u0
  refine xs_lload_n (n := 139) dX3_together_138 rfl rfl ?_
  refine ys_callsi (n := 142) (N := mt_X3_fromOf) dX3_together_139 rfl ok_X3_fromOf tw_822 st_X3_fromOf ⟨Nat.le_of_ble_eq_true rfl, Nat.le_of_ble_eq_true rfl⟩ [.long x0] [] rfl rfl (Nat.le_of_ble_eq_true rfl) rfl (Nat.le_of_ble_eq_true rfl) (en_X3_fromOf m x0 q21.2.2) (fun q22 => ?_)
  refine xs_lload_n (n := 143) dX3_together_142 rfl rfl ?_
  refine ys_callsi (n := 146) (N := mt_X3_toOf) dX3_together_143 rfl ok_X3_toOf tw_819 st_X3_toOf ⟨Nat.le_of_ble_eq_true rfl, Nat.le_of_ble_eq_true rfl⟩ [.long x1] [.int q22.1] rfl rfl (Nat.le_of_ble_eq_true rfl) rfl (Nat.le_of_ble_eq_true rfl) (en_X3_toOf m x1 q22.2) (fun q23 => ?_)
  refine xs_iload (n := 148) dX3_together_146 rfl rfl ?_
  refine ys_callsl (n := 151) (N := mt_X3_packed) dX3_together_148 rfl ok_X3_packed tw_789 st_X3_packed ⟨Nat.le_of_ble_eq_true rfl, Nat.le_of_ble_eq_true rfl⟩ [.int q22.1, .int q23.1, .int q21.1] [] rfl rfl (Nat.le_of_ble_eq_true rfl) rfl (Nat.le_of_ble_eq_true rfl) (en_X3_packed m q22.1 q23.1 q21.1 q23.2) (fun q24 => ?_)
  exact xs_lret dX3_together_151 rfl rfl
def lp_X3_makeAll_15 (m : Nat) : Nat → Int32 → xm_Y → Option (Int32 × xm_Y)
  | 0, _, _ => none
  | n + 1, l1, u0 =>
  if (u0.1 146 1) ≤ l1 then (
  some (l1, u0)) else (
  xm_chk (xm_in l1 40) (
  ((fn_X3_keep m (u0.2 147 (Int32.toNatClampNeg l1)) u0).bind fun q4 =>
  xm_let (α := Int32) (l1 + (1 : Int32)) fun v5 =>
  lp_X3_makeAll_15 m n v5 q4.2)))
def lp_X3_makeAll_64 (m : Nat) (c1 : Int32) (c2 : Int32) : Nat → Int32 → xm_Y → Option ((Int32 × xm_Y) ⊕ (Int32 × xm_Y))
  | 0, _, _ => none
  | n + 1, l3, u0 =>
  if c1 ≤ l3 then (
  some (.inr (l3, u0))) else (
  xm_chk (xm_in c2 1000) (
  ((fn_X3_toOf m (u0.2 148 (Int32.toNatClampNeg c2)) u0).bind fun q11 =>
  xm_chk (xm_in l3 1000) (
  ((fn_X3_fromOf m (q11.2.2 148 (Int32.toNatClampNeg l3)) q11.2).bind fun q12 =>
  if q11.1 = q12.1 then (
  xm_chk (xm_in c2 1000) (
  xm_chk (xm_in l3 1000) (
  ((fn_X3_together m (q12.2.2 148 (Int32.toNatClampNeg c2)) (q12.2.2 148 (Int32.toNatClampNeg l3)) q12.2).bind fun q14 =>
  ((fn_X3_keep m q14.1 q14.2).bind fun q15 =>
  if q15.1 = 0 then (
  some (.inl ((0 : Int32), q15.2))) else (
  xm_let (α := Int32) (l3 + (1 : Int32)) fun v17 =>
  lp_X3_makeAll_64 m c1 c2 n v17 q15.2)))))) else (
  xm_let (α := Int32) (l3 + (1 : Int32)) fun v18 =>
  lp_X3_makeAll_64 m c1 c2 n v18 q12.2))))))
def lp_X3_makeAll_47 (m : Nat) (c1 : Int32) : Nat → Int32 → xm_Y → Option ((Int32 × xm_Y) ⊕ (Int32 × xm_Y))
  | 0, _, _ => none
  | n + 1, l2, u0 =>
  if (1000 : Int32) ≤ l2 then (
  some (.inr (l2, u0))) else (
  if (u0.1 146 3) ≤ l2 then (
  some (.inr (l2, u0))) else (
  ((lp_X3_makeAll_64 m c1 l2 m (0 : Int32) u0).bind (Sum.elim (fun r => some (.inl r)) (fun q19 =>
  xm_let (α := Int32) (l2 + (1 : Int32)) fun v20 =>
  lp_X3_makeAll_47 m c1 n v20 q19.2)))))
def fn_X3_makeAll (m : Nat) (u0 : xm_Y) : Option (Int32 × xm_Y) :=
  ((fn_J7_fill_53178 m 149 2048 (0 : Int32) u0).bind fun q1 =>
  xm_let (w_I q1.2 146 3 (0 : Int32)) fun u2 =>
  ((lp_X3_makeAll_15 m m (0 : Int32) u2).bind fun q6 =>
  xm_let (α := Int32) ((q6.2.1 146 3)) fun v7 =>
  ((lp_X3_makeAll_47 m v7 m (0 : Int32) q6.2).bind (Sum.elim (fun r => some r) (fun q21 =>
  some ((1 : Int32), q21.2))))))
theorem el_X3_makeAll_15 (m : Nat) (K : Int32 × xm_Y → Option (Int32 × xm_Y)) (kE : ∀ q : Int32 × xm_Y, xs_ (fun x : Int32 => some (.int x)) sg_0 mt_X3_makeAll 40 [some (.ref 146), none, none, none] [] q.2 0 0 (K q)) : ∀ (n : Nat) (l1 : Int32) (u0 : xm_Y), xs_ (fun x : Int32 => some (.int x)) sg_0 mt_X3_makeAll 15 [some (.ref 146), some (.int l1), none, none] [] u0 0 0 ((lp_X3_makeAll_15 m n l1 u0).bind K) := by
  intro n
  induction n with
  | zero =>
    intro l1 u0
    exact xs_none
  | succ n ih =>
    intro l1 u0
    rw [lp_X3_makeAll_15]
    refine xs_iload_n (n := 16) dX3_makeAll_15 rfl rfl ?_
    refine xs_aload_n (n := 17) dX3_makeAll_16 rfl rfl ?_
    refine ys_geti (n := 20) dX3_makeAll_17 rfl fl_X3_32 (Or.inl rfl) sh_146 ?_
    refine xs_icmp_ge (n := 23) (tgt := 40) dX3_makeAll_20 rfl rfl (fun hc3 => ?_) (fun hc3 => ?_)
    · exact xs_gf (xs_end (kE (l1, u0))) (And.intro rfl trivial)
    · refine xs_aload_n (n := 24) dX3_makeAll_23 rfl rfl ?_
      refine xs_aload_n (n := 25) dX3_makeAll_24 rfl rfl ?_
      refine ys_getr (n := 28) dX3_makeAll_25 rfl fl_X3_9 sh_146 rfl ?_
      refine xs_iload_n (n := 29) dX3_makeAll_28 rfl rfl ?_
      refine ys_laload (n := 30) dX3_makeAll_29 rfl sh_147 ?_
      refine ys_callvi (n := 33) (N := mt_X3_keep) dX3_makeAll_30 rfl ok_X3_keep tw_814 im_X3_keep se_X3_keep ⟨Nat.le_of_ble_eq_true rfl, Nat.le_of_ble_eq_true rfl⟩ [.long (u0.2 147 (Int32.toNatClampNeg l1))] [] rfl rfl (Nat.le_of_ble_eq_true rfl) rfl (Nat.le_of_ble_eq_true rfl) (en_X3_keep m (u0.2 147 (Int32.toNatClampNeg l1)) u0) sh_146 (by decide) rfl (fun q4 => ?_)
      refine xs_pop (n := 34) dX3_makeAll_33 rfl rfl ?_
      refine xs_iincl (n := 37) (dv := (1 : Int32)) (fun v5 => [some (.ref 146), some (.int v5), none, none]) dX3_makeAll_34 rfl rfl rfl (Nat.le_of_ble_eq_true rfl) (fun _ => rfl) (fun v5 => ?_)
      refine xs_goto (n := 15) dX3_makeAll_37 rfl ?_
      exact xs_gf (ih v5 q4.2) (And.intro rfl (And.intro rfl trivial))
theorem el_X3_makeAll_64 (m : Nat) (c1 : Int32) (c2 : Int32) (K : (Int32 × xm_Y) ⊕ (Int32 × xm_Y) → Option (Int32 × xm_Y)) (hK : ∀ r, K (.inl r) = some r) (kE : ∀ q : Int32 × xm_Y, xs_ (fun x : Int32 => some (.int x)) sg_0 mt_X3_makeAll 120 [some (.ref 146), some (.int c1), some (.int c2), none] [] q.2 0 0 (K (.inr q))) : ∀ (n : Nat) (l3 : Int32) (u0 : xm_Y), xs_ (fun x : Int32 => some (.int x)) sg_0 mt_X3_makeAll 64 [some (.ref 146), some (.int c1), some (.int c2), some (.int l3)] [] u0 0 0 ((lp_X3_makeAll_64 m c1 c2 n l3 u0).bind K) := by
  intro n
  induction n with
  | zero =>
    intro l3 u0
    exact xs_none
  | succ n ih =>
    intro l3 u0
    rw [lp_X3_makeAll_64]
    refine xs_iload_n (n := 65) dX3_makeAll_64 rfl rfl ?_
    refine xs_iload_n (n := 66) dX3_makeAll_65 rfl rfl ?_
    refine xs_icmp_ge (n := 69) (tgt := 120) dX3_makeAll_66 rfl rfl (fun hc10 => ?_) (fun hc10 => ?_)
    · exact xs_gf (xs_end (kE (l3, u0))) (And.intro rfl (And.intro rfl (And.intro rfl trivial)))
    · refine xs_aload_n (n := 70) dX3_makeAll_69 rfl rfl ?_
      refine ys_getr (n := 73) dX3_makeAll_70 rfl fl_X3_15 sh_146 rfl ?_
      refine xs_iload_n (n := 74) dX3_makeAll_73 rfl rfl ?_
      refine ys_laload (n := 75) dX3_makeAll_74 rfl sh_148 ?_
      refine ys_callsi (n := 78) (N := mt_X3_toOf) dX3_makeAll_75 rfl ok_X3_toOf tw_819 st_X3_toOf ⟨Nat.le_of_ble_eq_true rfl, Nat.le_of_ble_eq_true rfl⟩ [.long (u0.2 148 (Int32.toNatClampNeg c2))] [] rfl rfl (Nat.le_of_ble_eq_true rfl) rfl (Nat.le_of_ble_eq_true rfl) (en_X3_toOf m (u0.2 148 (Int32.toNatClampNeg c2)) u0) (fun q11 => ?_)
      refine xs_aload_n (n := 79) dX3_makeAll_78 rfl rfl ?_
      refine ys_getr (n := 82) dX3_makeAll_79 rfl fl_X3_15 sh_146 rfl ?_
      refine xs_iload_n (n := 83) dX3_makeAll_82 rfl rfl ?_
      refine ys_laload (n := 84) dX3_makeAll_83 rfl sh_148 ?_
      refine ys_callsi (n := 87) (N := mt_X3_fromOf) dX3_makeAll_84 rfl ok_X3_fromOf tw_822 st_X3_fromOf ⟨Nat.le_of_ble_eq_true rfl, Nat.le_of_ble_eq_true rfl⟩ [.long (q11.2.2 148 (Int32.toNatClampNeg l3))] [.int q11.1] rfl rfl (Nat.le_of_ble_eq_true rfl) rfl (Nat.le_of_ble_eq_true rfl) (en_X3_fromOf m (q11.2.2 148 (Int32.toNatClampNeg l3)) q11.2) (fun q12 => ?_)
      refine xs_icmp_ne (n := 90) (tgt := 114) dX3_makeAll_87 rfl rfl (fun hc13 => ?_) (fun hc13 => ?_)
      · refine xs_aload_n (n := 91) dX3_makeAll_90 rfl rfl ?_
        refine xs_aload_n (n := 92) dX3_makeAll_91 rfl rfl ?_
        refine ys_getr (n := 95) dX3_makeAll_92 rfl fl_X3_15 sh_146 rfl ?_
        refine xs_iload_n (n := 96) dX3_makeAll_95 rfl rfl ?_
        refine ys_laload (n := 97) dX3_makeAll_96 rfl sh_148 ?_
        refine xs_aload_n (n := 98) dX3_makeAll_97 rfl rfl ?_
        refine ys_getr (n := 101) dX3_makeAll_98 rfl fl_X3_15 sh_146 rfl ?_
        refine xs_iload_n (n := 102) dX3_makeAll_101 rfl rfl ?_
        refine ys_laload (n := 103) dX3_makeAll_102 rfl sh_148 ?_
        refine ys_callsl (n := 106) (N := mt_X3_together) dX3_makeAll_103 rfl ok_X3_together tw_825 st_X3_together ⟨Nat.le_of_ble_eq_true rfl, Nat.le_of_ble_eq_true rfl⟩ [.long (q12.2.2 148 (Int32.toNatClampNeg c2)), .long (q12.2.2 148 (Int32.toNatClampNeg l3))] [.ref 146] rfl rfl (Nat.le_of_ble_eq_true rfl) rfl (Nat.le_of_ble_eq_true rfl) (en_X3_together m (q12.2.2 148 (Int32.toNatClampNeg c2)) (q12.2.2 148 (Int32.toNatClampNeg l3)) q12.2) (fun q14 => ?_)
        refine ys_callvi (n := 109) (N := mt_X3_keep) dX3_makeAll_106 rfl ok_X3_keep tw_814 im_X3_keep se_X3_keep ⟨Nat.le_of_ble_eq_true rfl, Nat.le_of_ble_eq_true rfl⟩ [.long q14.1] [] rfl rfl (Nat.le_of_ble_eq_true rfl) rfl (Nat.le_of_ble_eq_true rfl) (en_X3_keep m q14.1 q14.2) sh_146 (by decide) rfl (fun q15 => ?_)
        refine xs_if_ne (n := 112) (tgt := 114) dX3_makeAll_109 rfl rfl (fun hc16 => ?_) (fun hc16 => ?_)
        · refine xs_iconst (n := 113) (v := (0 : Int32)) dX3_makeAll_112 rfl rfl ?_
          exact xs_zretc dX3_makeAll_113 rfl (Or.inl rfl) (hK _)
        · refine xs_iincl (n := 117) (dv := (1 : Int32)) (fun v17 => [some (.ref 146), some (.int c1), some (.int c2), some (.int v17)]) dX3_makeAll_114 rfl rfl rfl (Nat.le_of_ble_eq_true rfl) (fun _ => rfl) (fun v17 => ?_)
          refine xs_goto (n := 64) dX3_makeAll_117 rfl ?_
          exact xs_gf (ih v17 q15.2) (And.intro rfl (And.intro rfl (And.intro rfl (And.intro rfl trivial))))
      · refine xs_iincl (n := 117) (dv := (1 : Int32)) (fun v18 => [some (.ref 146), some (.int c1), some (.int c2), some (.int v18)]) dX3_makeAll_114 rfl rfl rfl (Nat.le_of_ble_eq_true rfl) (fun _ => rfl) (fun v18 => ?_)
        refine xs_goto (n := 64) dX3_makeAll_117 rfl ?_
        exact xs_gf (ih v18 q12.2) (And.intro rfl (And.intro rfl (And.intro rfl (And.intro rfl trivial))))
theorem el_X3_makeAll_47 (m : Nat) (c1 : Int32) (K : (Int32 × xm_Y) ⊕ (Int32 × xm_Y) → Option (Int32 × xm_Y)) (hK : ∀ r, K (.inl r) = some r) (kE : ∀ q : Int32 × xm_Y, xs_ (fun x : Int32 => some (.int x)) sg_0 mt_X3_makeAll 126 [none, none, none, none] [] q.2 0 0 (K (.inr q))) : ∀ (n : Nat) (l2 : Int32) (u0 : xm_Y), xs_ (fun x : Int32 => some (.int x)) sg_0 mt_X3_makeAll 47 [some (.ref 146), some (.int c1), some (.int l2), none] [] u0 0 0 ((lp_X3_makeAll_47 m c1 n l2 u0).bind K) := by
  intro n
  induction n with
  | zero =>
    intro l2 u0
    exact xs_none
  | succ n ih =>
    intro l2 u0
    rw [lp_X3_makeAll_47]
    refine xs_iload_n (n := 48) dX3_makeAll_47 rfl rfl ?_
    refine xs_sipush (n := 51) (v := (1000 : Int32)) dX3_makeAll_48 rfl rfl ?_
    refine xs_icmp_ge (n := 54) (tgt := 126) dX3_makeAll_51 rfl rfl (fun hc8 => ?_) (fun hc8 => ?_)
    · exact xs_gf (xs_end (kE (l2, u0))) trivial
    · refine xs_iload_n (n := 55) dX3_makeAll_54 rfl rfl ?_
      refine xs_aload_n (n := 56) dX3_makeAll_55 rfl rfl ?_
      refine ys_geti (n := 59) dX3_makeAll_56 rfl fl_X3_47 (Or.inl rfl) sh_146 ?_
      refine xs_icmp_ge (n := 62) (tgt := 126) dX3_makeAll_59 rfl rfl (fun hc9 => ?_) (fun hc9 => ?_)
      · exact xs_gf (xs_end (kE (l2, u0))) trivial
      · refine xs_iconst (n := 63) (v := (0 : Int32)) dX3_makeAll_62 rfl rfl ?_
        refine xs_istore_n (n := 64) (lv' := [some (.ref 146), some (.int c1), some (.int l2), some (.int (0 : Int32))]) dX3_makeAll_63 rfl (Nat.le_of_ble_eq_true rfl) rfl ?_
        refine xs_reg ?_
        refine xs_fg (lv' := [some (.ref 146), some (.int c1), some (.int l2), some (.int (0 : Int32))]) (And.intro rfl (And.intro rfl (And.intro rfl (And.intro rfl trivial)))) ?_
        refine el_X3_makeAll_64 m c1 l2 _ (by exact fun r => hK r) (fun q19 => ?_) m (0 : Int32) u0
        refine xs_inr ?_
        refine xs_iincl (n := 123) (dv := (1 : Int32)) (fun v20 => [some (.ref 146), some (.int c1), some (.int v20), none]) dX3_makeAll_120 rfl rfl rfl (Nat.le_of_ble_eq_true rfl) (fun _ => rfl) (fun v20 => ?_)
        refine xs_goto (n := 47) dX3_makeAll_123 rfl ?_
        exact xs_gf (ih v20 q19.2) (And.intro rfl (And.intro rfl (And.intro rfl trivial)))
theorem en_X3_makeAll (m : Nat) (u0 : xm_Y) : xs_ (fun x : Int32 => some (.int x)) sg_0 mt_X3_makeAll 0 [some (.ref 146), none, none, none] [] u0 0 0 (fn_X3_makeAll m u0) := by
  refine xs_top ?_
  rw [fn_X3_makeAll]
  refine xs_aload_n (n := 1) dX3_makeAll_0 rfl rfl ?_
  refine ys_getr (n := 4) dX3_makeAll_1 rfl fl_X3_18 sh_146 rfl ?_
  refine xs_iconst (n := 5) (v := (0 : Int32)) dX3_makeAll_4 rfl rfl ?_
  refine ys_callsv (n := 8) (N := mt_J7_fill_53178) dX3_makeAll_5 rfl ok_J7_fill_53178 tw_813 st_J7_fill_53178 ⟨Nat.le_of_ble_eq_true rfl, Nat.le_of_ble_eq_true rfl⟩ [.ref 149, .int (0 : Int32)] [] rfl rfl (Nat.le_of_ble_eq_true rfl) rfl (Nat.le_of_ble_eq_true rfl) (en_J7_fill_53178 m 149 2048 (0 : Int32) sh_149 u0) (fun q1 => ?_)
  refine xs_aload_n (n := 9) dX3_makeAll_8 rfl rfl ?_
  refine xs_iconst (n := 10) (v := (0 : Int32)) dX3_makeAll_9 rfl rfl ?_
  refine ys_puti (n := 13) dX3_makeAll_10 rfl fl_X3_47 rfl sh_146 (fun u2 => ?_)
  refine xs_iconst (n := 14) (v := (0 : Int32)) dX3_makeAll_13 rfl rfl ?_
  refine xs_istore_n (n := 15) (lv' := [some (.ref 146), some (.int (0 : Int32)), none, none]) dX3_makeAll_14 rfl (Nat.le_of_ble_eq_true rfl) rfl ?_
  refine xs_reg ?_
  refine xs_fg (lv' := [some (.ref 146), some (.int (0 : Int32)), none, none]) (And.intro rfl (And.intro rfl trivial)) ?_
  refine el_X3_makeAll_15 m _ (fun q6 => ?_) m (0 : Int32) u2
  refine xs_aload_n (n := 41) dX3_makeAll_40 rfl rfl ?_
  refine ys_geti (n := 44) dX3_makeAll_41 rfl fl_X3_47 (Or.inl rfl) sh_146 ?_
  refine xs_leti (fun v7 => ?_)
  refine xs_istore_n (n := 45) (lv' := [some (.ref 146), some (.int v7), none, none]) dX3_makeAll_44 rfl (Nat.le_of_ble_eq_true rfl) rfl ?_
  refine xs_iconst (n := 46) (v := (0 : Int32)) dX3_makeAll_45 rfl rfl ?_
  refine xs_istore_n (n := 47) (lv' := [some (.ref 146), some (.int v7), some (.int (0 : Int32)), none]) dX3_makeAll_46 rfl (Nat.le_of_ble_eq_true rfl) rfl ?_
  refine xs_reg ?_
  refine xs_fg (lv' := [some (.ref 146), some (.int v7), some (.int (0 : Int32)), none]) (And.intro rfl (And.intro rfl (And.intro rfl trivial))) ?_
  refine el_X3_makeAll_47 m v7 _ (fun _ => rfl) (fun q21 => ?_) m (0 : Int32) q6.2
  refine xs_inr ?_
  refine xs_iconst (n := 127) (v := (1 : Int32)) dX3_makeAll_126 rfl rfl ?_
  exact xs_zretc dX3_makeAll_127 rfl (Or.inr rfl) rfl
def lp_X3_isFault_15 (m : Nat) (c0 : Int64) : Nat → Int32 → xm_Y → Option ((Int32 × xm_Y) ⊕ (Int32 × xm_Y))
  | 0, _, _ => none
  | n + 1, l2, u0 =>
  if (4 : Int32) ≤ l2 then (
  some (.inr (l2, u0))) else (
  ((fn_X3_lessOf m c0 u0).bind fun q5 =>
  if ((q5.1 >>> ((((4 : Int32) * l2) + l2) &&& 31)) &&& (1 : Int32)) = 0 then (
  xm_let (α := Int32) (l2 + (1 : Int32)) fun v7 =>
  lp_X3_isFault_15 m c0 n v7 q5.2) else (
  some (.inl ((0 : Int32), q5.2)))))
def fn_X3_isFault (m : Nat) (x0 : Int64) (u0 : xm_Y) : Option (Int32 × xm_Y) :=
  ((fn_X3_fromOf m x0 u0).bind fun q1 =>
  ((fn_X3_toOf m x0 q1.2).bind fun q2 =>
  if q1.1 = q2.1 then (
  ((lp_X3_isFault_15 m x0 m (0 : Int32) q2.2).bind (Sum.elim (fun r => some r) (fun q8 =>
  ((fn_X3_together m x0 x0 q8.2).bind fun q9 =>
  ((if q9.1 = x0 then (
  some ((1 : Int32))) else (
  some ((0 : Int32))) : Option (Int32)).bind fun q10 =>
  xm_chk (q10 = 0 ∨ q10 = 1) (some (q10, q9.2)))))))) else (
  some ((0 : Int32), q2.2))))
theorem el_X3_isFault_15 (m : Nat) (c0 : Int64) (K : (Int32 × xm_Y) ⊕ (Int32 × xm_Y) → Option (Int32 × xm_Y)) (hK : ∀ r, K (.inl r) = some r) (kE : ∀ q : Int32 × xm_Y, xs_ (fun x : Int32 => some (.int x)) sg_0 mt_X3_isFault 43 [some (.long c0), none, none] [] q.2 0 0 (K (.inr q))) : ∀ (n : Nat) (l2 : Int32) (u0 : xm_Y), xs_ (fun x : Int32 => some (.int x)) sg_0 mt_X3_isFault 15 [some (.long c0), none, some (.int l2)] [] u0 0 0 ((lp_X3_isFault_15 m c0 n l2 u0).bind K) := by
  intro n
  induction n with
  | zero =>
    intro l2 u0
    exact xs_none
  | succ n ih =>
    intro l2 u0
    rw [lp_X3_isFault_15]
    refine xs_iload_n (n := 16) dX3_isFault_15 rfl rfl ?_
    refine xs_iconst (n := 17) (v := (4 : Int32)) dX3_isFault_16 rfl rfl ?_
    refine xs_icmp_ge (n := 20) (tgt := 43) dX3_isFault_17 rfl rfl (fun hc4 => ?_) (fun hc4 => ?_)
    · exact xs_gf (xs_end (kE (l2, u0))) (And.intro rfl trivial)
    · refine xs_lload_n (n := 21) dX3_isFault_20 rfl rfl ?_
      refine ys_callsi (n := 24) (N := mt_X3_lessOf) dX3_isFault_21 rfl ok_X3_lessOf tw_832 st_X3_lessOf ⟨Nat.le_of_ble_eq_true rfl, Nat.le_of_ble_eq_true rfl⟩ [.long c0] [] rfl rfl (Nat.le_of_ble_eq_true rfl) rfl (Nat.le_of_ble_eq_true rfl) (en_X3_lessOf m c0 u0) (fun q5 => ?_)
      refine xs_iconst (n := 25) (v := (4 : Int32)) dX3_isFault_24 rfl rfl ?_
      refine xs_iload_n (n := 26) dX3_isFault_25 rfl rfl ?_
      refine xs_imul (n := 27) dX3_isFault_26 rfl ?_
      refine xs_iload_n (n := 28) dX3_isFault_27 rfl rfl ?_
      refine xs_iadd (n := 29) dX3_isFault_28 rfl ?_
      refine xs_ishr (n := 30) dX3_isFault_29 rfl ?_
      refine xs_iconst (n := 31) (v := (1 : Int32)) dX3_isFault_30 rfl rfl ?_
      refine xs_iand (n := 32) dX3_isFault_31 rfl ?_
      refine xs_if_eq (n := 35) (tgt := 37) dX3_isFault_32 rfl rfl (fun hc6 => ?_) (fun hc6 => ?_)
      · refine xs_iincl (n := 40) (dv := (1 : Int32)) (fun v7 => [some (.long c0), none, some (.int v7)]) dX3_isFault_37 rfl rfl rfl (Nat.le_of_ble_eq_true rfl) (fun _ => rfl) (fun v7 => ?_)
        refine xs_goto (n := 15) dX3_isFault_40 rfl ?_
        exact xs_gf (ih v7 q5.2) (And.intro rfl (And.intro rfl trivial))
      · refine xs_iconst (n := 36) (v := (0 : Int32)) dX3_isFault_35 rfl rfl ?_
        exact xs_zretc dX3_isFault_36 rfl (Or.inl rfl) (hK _)
theorem en_X3_isFault (m : Nat) (x0 : Int64) (u0 : xm_Y) : xs_ (fun x : Int32 => some (.int x)) sg_0 mt_X3_isFault 0 [some (.long x0), none, none] [] u0 0 0 (fn_X3_isFault m x0 u0) := by
  refine xs_top ?_
  rw [fn_X3_isFault]
  refine xs_lload_n (n := 1) dX3_isFault_0 rfl rfl ?_
  refine ys_callsi (n := 4) (N := mt_X3_fromOf) dX3_isFault_1 rfl ok_X3_fromOf tw_822 st_X3_fromOf ⟨Nat.le_of_ble_eq_true rfl, Nat.le_of_ble_eq_true rfl⟩ [.long x0] [] rfl rfl (Nat.le_of_ble_eq_true rfl) rfl (Nat.le_of_ble_eq_true rfl) (en_X3_fromOf m x0 u0) (fun q1 => ?_)
  refine xs_lload_n (n := 5) dX3_isFault_4 rfl rfl ?_
  refine ys_callsi (n := 8) (N := mt_X3_toOf) dX3_isFault_5 rfl ok_X3_toOf tw_819 st_X3_toOf ⟨Nat.le_of_ble_eq_true rfl, Nat.le_of_ble_eq_true rfl⟩ [.long x0] [.int q1.1] rfl rfl (Nat.le_of_ble_eq_true rfl) rfl (Nat.le_of_ble_eq_true rfl) (en_X3_toOf m x0 q1.2) (fun q2 => ?_)
  refine xs_icmp_eq (n := 11) (tgt := 13) dX3_isFault_8 rfl rfl (fun hc3 => ?_) (fun hc3 => ?_)
  · refine xs_iconst (n := 14) (v := (0 : Int32)) dX3_isFault_13 rfl rfl ?_
    refine xs_istore_n (n := 15) (lv' := [some (.long x0), none, some (.int (0 : Int32))]) dX3_isFault_14 rfl (Nat.le_of_ble_eq_true rfl) rfl ?_
    refine xs_reg ?_
    refine xs_fg (lv' := [some (.long x0), none, some (.int (0 : Int32))]) (And.intro rfl (And.intro rfl trivial)) ?_
    refine el_X3_isFault_15 m x0 _ (fun _ => rfl) (fun q8 => ?_) m (0 : Int32) q2.2
    refine xs_inr ?_
    refine xs_lload_n (n := 44) dX3_isFault_43 rfl rfl ?_
    refine xs_lload_n (n := 45) dX3_isFault_44 rfl rfl ?_
    refine ys_callsl (n := 48) (N := mt_X3_together) dX3_isFault_45 rfl ok_X3_together tw_825 st_X3_together ⟨Nat.le_of_ble_eq_true rfl, Nat.le_of_ble_eq_true rfl⟩ [.long x0, .long x0] [] rfl rfl (Nat.le_of_ble_eq_true rfl) rfl (Nat.le_of_ble_eq_true rfl) (en_X3_together m x0 x0 q8.2) (fun q9 => ?_)
    refine xs_lload_n (n := 49) dX3_isFault_48 rfl rfl ?_
    refine xs_join 58 (fun q10 => [none, none, none]) (fun q10 => [.int q10]) (fun q10 => q9.2) (fun q10 => ?_) (fun kj11 => ?_)
    · exact xs_zret dX3_isFault_58 rfl rfl
    · refine xs_lif_ne (n := 53) (pc1 := 50) (tgt := 57) dX3_isFault_49 rfl dX3_isFault_50 rfl rfl (fun hc12 => ?_) (fun hc12 => ?_)
      · refine xs_iconst (n := 54) (v := (1 : Int32)) dX3_isFault_53 rfl rfl ?_
        refine xs_goto (n := 58) dX3_isFault_54 rfl ?_
        exact xs_gf (xs_end (kj11 ((1 : Int32)))) trivial
      · refine xs_iconst (n := 58) (v := (0 : Int32)) dX3_isFault_57 rfl rfl ?_
        exact xs_gf (xs_end (kj11 ((0 : Int32)))) trivial
  · refine xs_iconst (n := 12) (v := (0 : Int32)) dX3_isFault_11 rfl rfl ?_
    exact xs_zretc dX3_isFault_12 rfl (Or.inl rfl) rfl
def lp_X3_numberOf_4 (m : Nat) (c0 : Int64) : Nat → Int32 → Int32 → xm_Y → Option (Int32 × Int32 × xm_Y)
  | 0, _, _, _ => none
  | n + 1, l2, l3, u0 =>
  if (16 : Int32) ≤ l3 then (
  some (l2, l3, u0)) else (
  ((fn_X3_toldOf m c0 u0).bind fun q2 =>
  ((fn_X3_lessOf m c0 q2.2).bind fun q3 =>
  xm_let (α := Int32) (((((3 : Int32) * l2) + ((q2.1 >>> (l3 &&& 31)) &&& (1 : Int32))) + ((q3.1 >>> (l3 &&& 31)) &&& (1 : Int32)))) fun v4 =>
  xm_let (α := Int32) (l3 + (1 : Int32)) fun v5 =>
  lp_X3_numberOf_4 m c0 n v4 v5 q3.2)))
def fn_X3_numberOf (m : Nat) (x0 : Int64) (u0 : xm_Y) : Option (Int32 × xm_Y) :=
  ((lp_X3_numberOf_4 m x0 m (0 : Int32) (0 : Int32) u0).bind fun q6 =>
  some (q6.1, q6.2.2))
theorem el_X3_numberOf_4 (m : Nat) (c0 : Int64) (K : Int32 × Int32 × xm_Y → Option (Int32 × xm_Y)) (kE : ∀ q : Int32 × Int32 × xm_Y, xs_ (fun x : Int32 => some (.int x)) sg_0 mt_X3_numberOf 38 [none, none, some (.int q.1), none] [] q.2.2 0 0 (K q)) : ∀ (n : Nat) (l2 : Int32) (l3 : Int32) (u0 : xm_Y), xs_ (fun x : Int32 => some (.int x)) sg_0 mt_X3_numberOf 4 [some (.long c0), none, some (.int l2), some (.int l3)] [] u0 0 0 ((lp_X3_numberOf_4 m c0 n l2 l3 u0).bind K) := by
  intro n
  induction n with
  | zero =>
    intro l2 l3 u0
    exact xs_none
  | succ n ih =>
    intro l2 l3 u0
    rw [lp_X3_numberOf_4]
    refine xs_iload_n (n := 5) dX3_numberOf_4 rfl rfl ?_
    refine xs_bipush (n := 7) (v := (16 : Int32)) dX3_numberOf_5 rfl rfl ?_
    refine xs_icmp_ge (n := 10) (tgt := 38) dX3_numberOf_7 rfl rfl (fun hc1 => ?_) (fun hc1 => ?_)
    · exact xs_gf (xs_end (kE (l2, l3, u0))) (And.intro rfl trivial)
    · refine xs_iconst (n := 11) (v := (3 : Int32)) dX3_numberOf_10 rfl rfl ?_
      refine xs_iload_n (n := 12) dX3_numberOf_11 rfl rfl ?_
      refine xs_imul (n := 13) dX3_numberOf_12 rfl ?_
      refine xs_lload_n (n := 14) dX3_numberOf_13 rfl rfl ?_
      refine ys_callsi (n := 17) (N := mt_X3_toldOf) dX3_numberOf_14 rfl ok_X3_toldOf tw_828 st_X3_toldOf ⟨Nat.le_of_ble_eq_true rfl, Nat.le_of_ble_eq_true rfl⟩ [.long c0] [.int ((3 : Int32) * l2)] rfl rfl (Nat.le_of_ble_eq_true rfl) rfl (Nat.le_of_ble_eq_true rfl) (en_X3_toldOf m c0 u0) (fun q2 => ?_)
      refine xs_iload_n (n := 18) dX3_numberOf_17 rfl rfl ?_
      refine xs_ishr (n := 19) dX3_numberOf_18 rfl ?_
      refine xs_iconst (n := 20) (v := (1 : Int32)) dX3_numberOf_19 rfl rfl ?_
      refine xs_iand (n := 21) dX3_numberOf_20 rfl ?_
      refine xs_iadd (n := 22) dX3_numberOf_21 rfl ?_
      refine xs_lload_n (n := 23) dX3_numberOf_22 rfl rfl ?_
      refine ys_callsi (n := 26) (N := mt_X3_lessOf) dX3_numberOf_23 rfl ok_X3_lessOf tw_832 st_X3_lessOf ⟨Nat.le_of_ble_eq_true rfl, Nat.le_of_ble_eq_true rfl⟩ [.long c0] [.int (((3 : Int32) * l2) + ((q2.1 >>> (l3 &&& 31)) &&& (1 : Int32)))] rfl rfl (Nat.le_of_ble_eq_true rfl) rfl (Nat.le_of_ble_eq_true rfl) (en_X3_lessOf m c0 q2.2) (fun q3 => ?_)
      refine xs_iload_n (n := 27) dX3_numberOf_26 rfl rfl ?_
      refine xs_ishr (n := 28) dX3_numberOf_27 rfl ?_
      refine xs_iconst (n := 29) (v := (1 : Int32)) dX3_numberOf_28 rfl rfl ?_
      refine xs_iand (n := 30) dX3_numberOf_29 rfl ?_
      refine xs_iadd (n := 31) dX3_numberOf_30 rfl ?_
      refine xs_leti (fun v4 => ?_)
      refine xs_istore_n (n := 32) (lv' := [some (.long c0), none, some (.int v4), some (.int l3)]) dX3_numberOf_31 rfl (Nat.le_of_ble_eq_true rfl) rfl ?_
      refine xs_iincl (n := 35) (dv := (1 : Int32)) (fun v5 => [some (.long c0), none, some (.int v4), some (.int v5)]) dX3_numberOf_32 rfl rfl rfl (Nat.le_of_ble_eq_true rfl) (fun _ => rfl) (fun v5 => ?_)
      refine xs_goto (n := 4) dX3_numberOf_35 rfl ?_
      exact xs_gf (ih v4 v5 q3.2) (And.intro rfl (And.intro rfl (And.intro rfl trivial)))
theorem en_X3_numberOf (m : Nat) (x0 : Int64) (u0 : xm_Y) : xs_ (fun x : Int32 => some (.int x)) sg_0 mt_X3_numberOf 0 [some (.long x0), none, none, none] [] u0 0 0 (fn_X3_numberOf m x0 u0) := by
  refine xs_top ?_
  rw [fn_X3_numberOf]
  refine xs_iconst (n := 1) (v := (0 : Int32)) dX3_numberOf_0 rfl rfl ?_
  refine xs_istore_n (n := 2) (lv' := [some (.long x0), none, some (.int (0 : Int32)), none]) dX3_numberOf_1 rfl (Nat.le_of_ble_eq_true rfl) rfl ?_
  refine xs_iconst (n := 3) (v := (0 : Int32)) dX3_numberOf_2 rfl rfl ?_
  refine xs_istore_n (n := 4) (lv' := [some (.long x0), none, some (.int (0 : Int32)), some (.int (0 : Int32))]) dX3_numberOf_3 rfl (Nat.le_of_ble_eq_true rfl) rfl ?_
  refine xs_reg ?_
  refine xs_fg (lv' := [some (.long x0), none, some (.int (0 : Int32)), some (.int (0 : Int32))]) (And.intro rfl (And.intro rfl (And.intro rfl trivial))) ?_
  refine el_X3_numberOf_4 m x0 _ (fun q6 => ?_) m (0 : Int32) (0 : Int32) u0
  refine xs_iload_n (n := 39) dX3_numberOf_38 rfl rfl ?_
  exact xs_iret dX3_numberOf_39 rfl rfl
def fn_X3_isAhead (m : Nat) (x0 : Int64) (x1 : Int64) (u0 : xm_Y) : Option (Int32 × xm_Y) :=
  ((fn_X3_fromOf m x0 u0).bind fun q1 =>
  ((fn_X3_fromOf m x1 q1.2).bind fun q2 =>
  if q1.1 = q2.1 then (
  ((fn_X3_numberOf m x0 q2.2).bind fun q4 =>
  ((fn_X3_numberOf m x1 q4.2).bind fun q5 =>
  ((if q5.1 ≤ q4.1 then (
  some ((0 : Int32))) else (
  some ((1 : Int32))) : Option (Int32)).bind fun q6 =>
  xm_chk (q6 = 0 ∨ q6 = 1) (some (q6, q5.2)))))) else (
  ((fn_X3_fromOf m x0 q2.2).bind fun q9 =>
  ((fn_X3_fromOf m x1 q9.2).bind fun q10 =>
  ((if q10.1 ≤ q9.1 then (
  some ((0 : Int32))) else (
  some ((1 : Int32))) : Option (Int32)).bind fun q11 =>
  xm_chk (q11 = 0 ∨ q11 = 1) (some (q11, q10.2))))))))
theorem en_X3_isAhead (m : Nat) (x0 : Int64) (x1 : Int64) (u0 : xm_Y) : xs_ (fun x : Int32 => some (.int x)) sg_0 mt_X3_isAhead 0 [some (.long x0), none, some (.long x1), none] [] u0 0 0 (fn_X3_isAhead m x0 x1 u0) := by
  refine xs_top ?_
  rw [fn_X3_isAhead]
  refine xs_lload_n (n := 1) dX3_isAhead_0 rfl rfl ?_
  refine ys_callsi (n := 4) (N := mt_X3_fromOf) dX3_isAhead_1 rfl ok_X3_fromOf tw_822 st_X3_fromOf ⟨Nat.le_of_ble_eq_true rfl, Nat.le_of_ble_eq_true rfl⟩ [.long x0] [] rfl rfl (Nat.le_of_ble_eq_true rfl) rfl (Nat.le_of_ble_eq_true rfl) (en_X3_fromOf m x0 u0) (fun q1 => ?_)
  refine xs_lload_n (n := 5) dX3_isAhead_4 rfl rfl ?_
  refine ys_callsi (n := 8) (N := mt_X3_fromOf) dX3_isAhead_5 rfl ok_X3_fromOf tw_822 st_X3_fromOf ⟨Nat.le_of_ble_eq_true rfl, Nat.le_of_ble_eq_true rfl⟩ [.long x1] [.int q1.1] rfl rfl (Nat.le_of_ble_eq_true rfl) rfl (Nat.le_of_ble_eq_true rfl) (en_X3_fromOf m x1 q1.2) (fun q2 => ?_)
  refine xs_icmp_eq (n := 11) (tgt := 28) dX3_isAhead_8 rfl rfl (fun hc3 => ?_) (fun hc3 => ?_)
  · refine xs_lload_n (n := 29) dX3_isAhead_28 rfl rfl ?_
    refine ys_callsi (n := 32) (N := mt_X3_numberOf) dX3_isAhead_29 rfl ok_X3_numberOf tw_845 st_X3_numberOf ⟨Nat.le_of_ble_eq_true rfl, Nat.le_of_ble_eq_true rfl⟩ [.long x0] [] rfl rfl (Nat.le_of_ble_eq_true rfl) rfl (Nat.le_of_ble_eq_true rfl) (en_X3_numberOf m x0 q2.2) (fun q4 => ?_)
    refine xs_lload_n (n := 33) dX3_isAhead_32 rfl rfl ?_
    refine ys_callsi (n := 36) (N := mt_X3_numberOf) dX3_isAhead_33 rfl ok_X3_numberOf tw_845 st_X3_numberOf ⟨Nat.le_of_ble_eq_true rfl, Nat.le_of_ble_eq_true rfl⟩ [.long x1] [.int q4.1] rfl rfl (Nat.le_of_ble_eq_true rfl) rfl (Nat.le_of_ble_eq_true rfl) (en_X3_numberOf m x1 q4.2) (fun q5 => ?_)
    refine xs_join 44 (fun q6 => [none, none, none, none]) (fun q6 => [.int q6]) (fun q6 => q5.2) (fun q6 => ?_) (fun kj7 => ?_)
    · exact xs_zret dX3_isAhead_44 rfl rfl
    · refine xs_icmp_ge (n := 39) (tgt := 43) dX3_isAhead_36 rfl rfl (fun hc8 => ?_) (fun hc8 => ?_)
      · refine xs_iconst (n := 44) (v := (0 : Int32)) dX3_isAhead_43 rfl rfl ?_
        exact xs_gf (xs_end (kj7 ((0 : Int32)))) trivial
      · refine xs_iconst (n := 40) (v := (1 : Int32)) dX3_isAhead_39 rfl rfl ?_
        refine xs_goto (n := 44) dX3_isAhead_40 rfl ?_
        exact xs_gf (xs_end (kj7 ((1 : Int32)))) trivial
  · refine xs_lload_n (n := 12) dX3_isAhead_11 rfl rfl ?_
    refine ys_callsi (n := 15) (N := mt_X3_fromOf) dX3_isAhead_12 rfl ok_X3_fromOf tw_822 st_X3_fromOf ⟨Nat.le_of_ble_eq_true rfl, Nat.le_of_ble_eq_true rfl⟩ [.long x0] [] rfl rfl (Nat.le_of_ble_eq_true rfl) rfl (Nat.le_of_ble_eq_true rfl) (en_X3_fromOf m x0 q2.2) (fun q9 => ?_)
    refine xs_lload_n (n := 16) dX3_isAhead_15 rfl rfl ?_
    refine ys_callsi (n := 19) (N := mt_X3_fromOf) dX3_isAhead_16 rfl ok_X3_fromOf tw_822 st_X3_fromOf ⟨Nat.le_of_ble_eq_true rfl, Nat.le_of_ble_eq_true rfl⟩ [.long x1] [.int q9.1] rfl rfl (Nat.le_of_ble_eq_true rfl) rfl (Nat.le_of_ble_eq_true rfl) (en_X3_fromOf m x1 q9.2) (fun q10 => ?_)
    refine xs_join 27 (fun q11 => [none, none, none, none]) (fun q11 => [.int q11]) (fun q11 => q10.2) (fun q11 => ?_) (fun kj12 => ?_)
    · exact xs_zret dX3_isAhead_27 rfl rfl
    · refine xs_icmp_ge (n := 22) (tgt := 26) dX3_isAhead_19 rfl rfl (fun hc13 => ?_) (fun hc13 => ?_)
      · refine xs_iconst (n := 27) (v := (0 : Int32)) dX3_isAhead_26 rfl rfl ?_
        exact xs_gf (xs_end (kj12 ((0 : Int32)))) trivial
      · refine xs_iconst (n := 23) (v := (1 : Int32)) dX3_isAhead_22 rfl rfl ?_
        refine xs_goto (n := 27) dX3_isAhead_23 rfl ?_
        exact xs_gf (xs_end (kj12 ((1 : Int32)))) trivial
def lp_X3_firstFault_4 (m : Nat) : Nat → Int32 → Int32 → xm_Y → Option (Int32 × Int32 × xm_Y)
  | 0, _, _, _ => none
  | n + 1, l1, l2, u0 =>
  if (u0.1 146 3) ≤ l2 then (
  some (l1, l2, u0)) else (
  xm_chk (xm_in l2 1000) (
  ((fn_X3_isFault m (u0.2 148 (Int32.toNatClampNeg l2)) u0).bind fun q2 =>
  ((if q2.1 = 0 then (
  some (l1, q2.2)) else (
  if l1 < 0 then (
  some (l2, q2.2)) else (
  xm_chk (xm_in l2 1000) (
  xm_chk (xm_in l1 1000) (
  ((fn_X3_isAhead m (q2.2.2 148 (Int32.toNatClampNeg l2)) (q2.2.2 148 (Int32.toNatClampNeg l1)) q2.2).bind fun q7 =>
  if q7.1 = 0 then (
  some (l1, q7.2)) else (
  some (l2, q7.2))))))) : Option (Int32 × xm_Y)).bind fun q3 =>
  xm_let (α := Int32) (l2 + (1 : Int32)) fun v9 =>
  lp_X3_firstFault_4 m n q3.1 v9 q3.2))))
def fn_X3_firstFault (m : Nat) (u0 : xm_Y) : Option (Int32 × xm_Y) :=
  ((lp_X3_firstFault_4 m m (-1 : Int32) (0 : Int32) u0).bind fun q10 =>
  some (q10.1, q10.2.2))
theorem el_X3_firstFault_4 (m : Nat) (K : Int32 × Int32 × xm_Y → Option (Int32 × xm_Y)) (kE : ∀ q : Int32 × Int32 × xm_Y, xs_ (fun x : Int32 => some (.int x)) sg_0 mt_X3_firstFault 54 [none, some (.int q.1), none] [] q.2.2 0 0 (K q)) : ∀ (n : Nat) (l1 : Int32) (l2 : Int32) (u0 : xm_Y), xs_ (fun x : Int32 => some (.int x)) sg_0 mt_X3_firstFault 4 [some (.ref 146), some (.int l1), some (.int l2)] [] u0 0 0 ((lp_X3_firstFault_4 m n l1 l2 u0).bind K) := by
  intro n
  induction n with
  | zero =>
    intro l1 l2 u0
    exact xs_none
  | succ n ih =>
    intro l1 l2 u0
    rw [lp_X3_firstFault_4]
    refine xs_iload_n (n := 5) dX3_firstFault_4 rfl rfl ?_
    refine xs_aload_n (n := 6) dX3_firstFault_5 rfl rfl ?_
    refine ys_geti (n := 9) dX3_firstFault_6 rfl fl_X3_47 (Or.inl rfl) sh_146 ?_
    refine xs_icmp_ge (n := 12) (tgt := 54) dX3_firstFault_9 rfl rfl (fun hc1 => ?_) (fun hc1 => ?_)
    · exact xs_gf (xs_end (kE (l1, l2, u0))) (And.intro rfl trivial)
    · refine xs_aload_n (n := 13) dX3_firstFault_12 rfl rfl ?_
      refine ys_getr (n := 16) dX3_firstFault_13 rfl fl_X3_15 sh_146 rfl ?_
      refine xs_iload_n (n := 17) dX3_firstFault_16 rfl rfl ?_
      refine ys_laload (n := 18) dX3_firstFault_17 rfl sh_148 ?_
      refine ys_callsi (n := 21) (N := mt_X3_isFault) dX3_firstFault_18 rfl ok_X3_isFault tw_839 st_X3_isFault ⟨Nat.le_of_ble_eq_true rfl, Nat.le_of_ble_eq_true rfl⟩ [.long (u0.2 148 (Int32.toNatClampNeg l2))] [] rfl rfl (Nat.le_of_ble_eq_true rfl) rfl (Nat.le_of_ble_eq_true rfl) (en_X3_isFault m (u0.2 148 (Int32.toNatClampNeg l2)) u0) (fun q2 => ?_)
      refine xs_join 48 (fun q3 => [some (.ref 146), some (.int q3.1), some (.int l2)]) (fun q3 => []) (fun q3 => q3.2) (fun q3 => ?_) (fun kj4 => ?_)
      · refine xs_iincl (n := 51) (dv := (1 : Int32)) (fun v9 => [some (.ref 146), some (.int q3.1), some (.int v9)]) dX3_firstFault_48 rfl rfl rfl (Nat.le_of_ble_eq_true rfl) (fun _ => rfl) (fun v9 => ?_)
        refine xs_goto (n := 4) dX3_firstFault_51 rfl ?_
        exact xs_gf (ih q3.1 v9 q3.2) (And.intro rfl (And.intro rfl (And.intro rfl trivial)))
      · refine xs_if_eq (n := 24) (tgt := 48) dX3_firstFault_21 rfl rfl (fun hc5 => ?_) (fun hc5 => ?_)
        · exact xs_gf (xs_end (kj4 (l1, q2.2))) (And.intro rfl (And.intro rfl (And.intro rfl trivial)))
        · refine xs_iload_n (n := 25) dX3_firstFault_24 rfl rfl ?_
          refine xs_if_lt (n := 28) (tgt := 46) dX3_firstFault_25 rfl rfl (fun hc6 => ?_) (fun hc6 => ?_)
          · refine xs_iload_n (n := 47) dX3_firstFault_46 rfl rfl ?_
            refine xs_istore_n (n := 48) (lv' := [some (.ref 146), some (.int l2), some (.int l2)]) dX3_firstFault_47 rfl (Nat.le_of_ble_eq_true rfl) rfl ?_
            exact xs_gf (xs_end (kj4 (l2, q2.2))) (And.intro rfl (And.intro rfl (And.intro rfl trivial)))
          · refine xs_aload_n (n := 29) dX3_firstFault_28 rfl rfl ?_
            refine ys_getr (n := 32) dX3_firstFault_29 rfl fl_X3_15 sh_146 rfl ?_
            refine xs_iload_n (n := 33) dX3_firstFault_32 rfl rfl ?_
            refine ys_laload (n := 34) dX3_firstFault_33 rfl sh_148 ?_
            refine xs_aload_n (n := 35) dX3_firstFault_34 rfl rfl ?_
            refine ys_getr (n := 38) dX3_firstFault_35 rfl fl_X3_15 sh_146 rfl ?_
            refine xs_iload_n (n := 39) dX3_firstFault_38 rfl rfl ?_
            refine ys_laload (n := 40) dX3_firstFault_39 rfl sh_148 ?_
            refine ys_callsi (n := 43) (N := mt_X3_isAhead) dX3_firstFault_40 rfl ok_X3_isAhead tw_842 st_X3_isAhead ⟨Nat.le_of_ble_eq_true rfl, Nat.le_of_ble_eq_true rfl⟩ [.long (q2.2.2 148 (Int32.toNatClampNeg l2)), .long (q2.2.2 148 (Int32.toNatClampNeg l1))] [] rfl rfl (Nat.le_of_ble_eq_true rfl) rfl (Nat.le_of_ble_eq_true rfl) (en_X3_isAhead m (q2.2.2 148 (Int32.toNatClampNeg l2)) (q2.2.2 148 (Int32.toNatClampNeg l1)) q2.2) (fun q7 => ?_)
            refine xs_if_eq (n := 46) (tgt := 48) dX3_firstFault_43 rfl rfl (fun hc8 => ?_) (fun hc8 => ?_)
            · exact xs_gf (xs_end (kj4 (l1, q7.2))) (And.intro rfl (And.intro rfl (And.intro rfl trivial)))
            · refine xs_iload_n (n := 47) dX3_firstFault_46 rfl rfl ?_
              refine xs_istore_n (n := 48) (lv' := [some (.ref 146), some (.int l2), some (.int l2)]) dX3_firstFault_47 rfl (Nat.le_of_ble_eq_true rfl) rfl ?_
              exact xs_gf (xs_end (kj4 (l2, q7.2))) (And.intro rfl (And.intro rfl (And.intro rfl trivial)))
theorem en_X3_firstFault (m : Nat) (u0 : xm_Y) : xs_ (fun x : Int32 => some (.int x)) sg_0 mt_X3_firstFault 0 [some (.ref 146), none, none] [] u0 0 0 (fn_X3_firstFault m u0) := by
  refine xs_top ?_
  rw [fn_X3_firstFault]
  refine xs_iconst (n := 1) (v := (-1 : Int32)) dX3_firstFault_0 rfl rfl ?_
  refine xs_istore_n (n := 2) (lv' := [some (.ref 146), some (.int (-1 : Int32)), none]) dX3_firstFault_1 rfl (Nat.le_of_ble_eq_true rfl) rfl ?_
  refine xs_iconst (n := 3) (v := (0 : Int32)) dX3_firstFault_2 rfl rfl ?_
  refine xs_istore_n (n := 4) (lv' := [some (.ref 146), some (.int (-1 : Int32)), some (.int (0 : Int32))]) dX3_firstFault_3 rfl (Nat.le_of_ble_eq_true rfl) rfl ?_
  refine xs_reg ?_
  refine xs_fg (lv' := [some (.ref 146), some (.int (-1 : Int32)), some (.int (0 : Int32))]) (And.intro rfl (And.intro rfl (And.intro rfl trivial))) ?_
  refine el_X3_firstFault_4 m _ (fun q10 => ?_) m (-1 : Int32) (0 : Int32) u0
  refine xs_iload_n (n := 55) dX3_firstFault_54 rfl rfl ?_
  exact xs_iret dX3_firstFault_55 rfl rfl
def fn_X3_judge (m : Nat) (u0 : xm_Y) : Option (Int32 × xm_Y) :=
  ((fn_X3_makeAll m u0).bind fun q1 =>
  if q1.1 = 0 then (
  xm_let (w_I q1.2 146 5 (1000 : Int32)) fun u3 =>
  some ((-3 : Int32), u3)) else (
  xm_let (w_I q1.2 146 5 (q1.2.1 146 3)) fun u4 =>
  ((fn_X3_firstFault m u4).bind fun q5 =>
  if 0 ≤ q5.1 then (
  xm_chk (xm_in q5.1 1000) (
  ((fn_X3_fromOf m (q5.2.2 148 (Int32.toNatClampNeg q5.1)) q5.2).bind fun q7 =>
  xm_let (w_I q7.2 146 6 q7.1) fun u8 =>
  xm_chk (xm_in q5.1 1000) (
  ((fn_X3_numberOf m (u8.2 148 (Int32.toNatClampNeg q5.1)) u8).bind fun q9 =>
  xm_let (w_I q9.2 146 7 q9.1) fun u10 =>
  some ((0 : Int32), u10)))))) else (
  some ((1 : Int32), q5.2)))))
theorem en_X3_judge (m : Nat) (u0 : xm_Y) : xs_ (fun x : Int32 => some (.int x)) sg_0 mt_X3_judge 0 [some (.ref 146), none] [] u0 0 0 (fn_X3_judge m u0) := by
  refine xs_top ?_
  rw [fn_X3_judge]
  refine xs_aload_n (n := 1) dX3_judge_0 rfl rfl ?_
  refine ys_callvi (n := 4) (N := mt_X3_makeAll) dX3_judge_1 rfl ok_X3_makeAll tw_809 im_X3_makeAll se_X3_makeAll ⟨Nat.le_of_ble_eq_true rfl, Nat.le_of_ble_eq_true rfl⟩ [] [] rfl rfl (Nat.le_of_ble_eq_true rfl) rfl (Nat.le_of_ble_eq_true rfl) (en_X3_makeAll m u0) sh_146 (by decide) rfl (fun q1 => ?_)
  refine xs_if_ne (n := 7) (tgt := 17) dX3_judge_4 rfl rfl (fun hc2 => ?_) (fun hc2 => ?_)
  · refine xs_aload_n (n := 8) dX3_judge_7 rfl rfl ?_
    refine xs_sipush (n := 11) (v := (1000 : Int32)) dX3_judge_8 rfl rfl ?_
    refine ys_puti (n := 14) dX3_judge_11 rfl fl_X3_22 rfl sh_146 (fun u3 => ?_)
    refine xs_bipush (n := 16) (v := (-3 : Int32)) dX3_judge_14 rfl rfl ?_
    exact xs_iret dX3_judge_16 rfl rfl
  · refine xs_aload_n (n := 18) dX3_judge_17 rfl rfl ?_
    refine xs_aload_n (n := 19) dX3_judge_18 rfl rfl ?_
    refine ys_geti (n := 22) dX3_judge_19 rfl fl_X3_47 (Or.inl rfl) sh_146 ?_
    refine ys_puti (n := 25) dX3_judge_22 rfl fl_X3_22 rfl sh_146 (fun u4 => ?_)
    refine xs_aload_n (n := 26) dX3_judge_25 rfl rfl ?_
    refine ys_callvi (n := 29) (N := mt_X3_firstFault) dX3_judge_26 rfl ok_X3_firstFault tw_835 im_X3_firstFault se_X3_firstFault ⟨Nat.le_of_ble_eq_true rfl, Nat.le_of_ble_eq_true rfl⟩ [] [] rfl rfl (Nat.le_of_ble_eq_true rfl) rfl (Nat.le_of_ble_eq_true rfl) (en_X3_firstFault m u4) sh_146 (by decide) rfl (fun q5 => ?_)
    refine xs_istore_n (n := 30) (lv' := [some (.ref 146), some (.int q5.1)]) dX3_judge_29 rfl (Nat.le_of_ble_eq_true rfl) rfl ?_
    refine xs_iload_n (n := 31) dX3_judge_30 rfl rfl ?_
    refine xs_if_ge (n := 34) (tgt := 36) dX3_judge_31 rfl rfl (fun hc6 => ?_) (fun hc6 => ?_)
    · refine xs_aload_n (n := 37) dX3_judge_36 rfl rfl ?_
      refine xs_aload_n (n := 38) dX3_judge_37 rfl rfl ?_
      refine ys_getr (n := 41) dX3_judge_38 rfl fl_X3_15 sh_146 rfl ?_
      refine xs_iload_n (n := 42) dX3_judge_41 rfl rfl ?_
      refine ys_laload (n := 43) dX3_judge_42 rfl sh_148 ?_
      refine ys_callsi (n := 46) (N := mt_X3_fromOf) dX3_judge_43 rfl ok_X3_fromOf tw_822 st_X3_fromOf ⟨Nat.le_of_ble_eq_true rfl, Nat.le_of_ble_eq_true rfl⟩ [.long (q5.2.2 148 (Int32.toNatClampNeg q5.1))] [.ref 146] rfl rfl (Nat.le_of_ble_eq_true rfl) rfl (Nat.le_of_ble_eq_true rfl) (en_X3_fromOf m (q5.2.2 148 (Int32.toNatClampNeg q5.1)) q5.2) (fun q7 => ?_)
      refine ys_puti (n := 49) dX3_judge_46 rfl fl_X3_26 rfl sh_146 (fun u8 => ?_)
      refine xs_aload_n (n := 50) dX3_judge_49 rfl rfl ?_
      refine xs_aload_n (n := 51) dX3_judge_50 rfl rfl ?_
      refine ys_getr (n := 54) dX3_judge_51 rfl fl_X3_15 sh_146 rfl ?_
      refine xs_iload_n (n := 55) dX3_judge_54 rfl rfl ?_
      refine ys_laload (n := 56) dX3_judge_55 rfl sh_148 ?_
      refine ys_callsi (n := 59) (N := mt_X3_numberOf) dX3_judge_56 rfl ok_X3_numberOf tw_845 st_X3_numberOf ⟨Nat.le_of_ble_eq_true rfl, Nat.le_of_ble_eq_true rfl⟩ [.long (u8.2 148 (Int32.toNatClampNeg q5.1))] [.ref 146] rfl rfl (Nat.le_of_ble_eq_true rfl) rfl (Nat.le_of_ble_eq_true rfl) (en_X3_numberOf m (u8.2 148 (Int32.toNatClampNeg q5.1)) u8) (fun q9 => ?_)
      refine ys_puti (n := 62) dX3_judge_59 rfl fl_X3_29 rfl sh_146 (fun u10 => ?_)
      refine xs_iconst (n := 63) (v := (0 : Int32)) dX3_judge_62 rfl rfl ?_
      exact xs_iret dX3_judge_63 rfl rfl
    · refine xs_iconst (n := 35) (v := (1 : Int32)) dX3_judge_34 rfl rfl ?_
      exact xs_iret dX3_judge_35 rfl rfl
def fn_X11_ending (m : Nat) (u0 : xm_Y) : Option (Int32 × xm_Y) :=
  ((fn_X3_judge m u0).bind fun q1 =>
  some (q1.1, q1.2))
theorem en_X11_ending (m : Nat) (u0 : xm_Y) : xs_ (fun x : Int32 => some (.int x)) sg_0 mt_X11_ending 0 [some (.ref 0)] [] u0 0 0 (fn_X11_ending m u0) := by
  refine xs_top ?_
  rw [fn_X11_ending]
  refine xs_aload_n (n := 1) dX11_ending_0 rfl rfl ?_
  refine ys_getr (n := 4) dX11_ending_1 rfl fl_X11_65 sh_0 rfl ?_
  refine ys_callvi (n := 7) (N := mt_X3_judge) dX11_ending_4 rfl ok_X3_judge tw_805 im_X3_judge se_X3_judge ⟨Nat.le_of_ble_eq_true rfl, Nat.le_of_ble_eq_true rfl⟩ [] [] rfl rfl (Nat.le_of_ble_eq_true rfl) rfl (Nat.le_of_ble_eq_true rfl) (en_X3_judge m u0) sh_146 (by decide) rfl (fun q1 => ?_)
  exact xs_iret dX11_ending_7 rfl rfl
def fn_X11_made (m : Nat) (u0 : xm_Y) : Option (Int32 × xm_Y) :=
  some ((u0.1 146 5), u0)
theorem en_X11_made (m : Nat) (u0 : xm_Y) : xs_ (fun x : Int32 => some (.int x)) sg_0 mt_X11_made 0 [some (.ref 0)] [] u0 0 0 (fn_X11_made m u0) := by
  refine xs_top ?_
  rw [fn_X11_made]
  refine xs_aload_n (n := 1) dX11_made_0 rfl rfl ?_
  refine ys_getr (n := 4) dX11_made_1 rfl fl_X11_65 sh_0 rfl ?_
  refine ys_geti (n := 7) dX11_made_4 rfl fl_X11_280 (Or.inl rfl) sh_146 ?_
  exact xs_iret dX11_made_7 rfl rfl
def fn_X11_witness (m : Nat) (x0 : Int32) (u0 : xm_Y) : Option (Int32 × xm_Y) :=
  if x0 = 0 then (
  some ((u0.1 146 6), u0)) else (
  ((if x0 = (1 : Int32) then (
  some ((u0.1 146 7))) else (
  some ((-1 : Int32))) : Option (Int32)).bind fun q2 =>
  some (q2, u0)))
theorem en_X11_witness (m : Nat) (x0 : Int32) (u0 : xm_Y) : xs_ (fun x : Int32 => some (.int x)) sg_0 mt_X11_witness 0 [some (.ref 0), some (.int x0)] [] u0 0 0 (fn_X11_witness m x0 u0) := by
  refine xs_top ?_
  rw [fn_X11_witness]
  refine xs_iload_n (n := 1) dX11_witness_0 rfl rfl ?_
  refine xs_if_ne (n := 4) (tgt := 12) dX11_witness_1 rfl rfl (fun hc1 => ?_) (fun hc1 => ?_)
  · refine xs_aload_n (n := 5) dX11_witness_4 rfl rfl ?_
    refine ys_getr (n := 8) dX11_witness_5 rfl fl_X11_65 sh_0 rfl ?_
    refine ys_geti (n := 11) dX11_witness_8 rfl fl_X11_283 (Or.inl rfl) sh_146 ?_
    exact xs_iret dX11_witness_11 rfl rfl
  · refine xs_iload_n (n := 13) dX11_witness_12 rfl rfl ?_
    refine xs_iconst (n := 14) (v := (1 : Int32)) dX11_witness_13 rfl rfl ?_
    refine xs_join 28 (fun q2 => [none, none]) (fun q2 => [.int q2]) (fun q2 => u0) (fun q2 => ?_) (fun kj3 => ?_)
    · exact xs_iret dX11_witness_28 rfl rfl
    · refine xs_icmp_ne (n := 17) (tgt := 27) dX11_witness_14 rfl rfl (fun hc4 => ?_) (fun hc4 => ?_)
      · refine xs_aload_n (n := 18) dX11_witness_17 rfl rfl ?_
        refine ys_getr (n := 21) dX11_witness_18 rfl fl_X11_65 sh_0 rfl ?_
        refine ys_geti (n := 24) dX11_witness_21 rfl fl_X11_286 (Or.inl rfl) sh_146 ?_
        refine xs_goto (n := 28) dX11_witness_24 rfl ?_
        exact xs_gf (xs_end (kj3 ((u0.1 146 7)))) trivial
      · refine xs_iconst (n := 28) (v := (-1 : Int32)) dX11_witness_27 rfl rfl ?_
        exact xs_gf (xs_end (kj3 ((-1 : Int32)))) trivial
