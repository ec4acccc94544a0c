def lp_X8_lookAtBodies_42 (m : Nat) (b3 : Nat) : Nat → Int32 → xm_Y → Option (Int32 × xm_Y)
  | 0, _, _ => none
  | n + 1, l4, u0 =>
  if (u0.1 1 1) ≤ l4 then (
  some (l4, u0)) else (
  xm_chk (xm_in l4 3) (
  ((fn_X0_farthest m (21 + 24 * b3 + 2 * (Int32.toNatClampNeg l4)) 132 (0 : Int32) u0).bind fun q10 =>
  ((fn_X2_widen m 134 l4 (0 : Int32) q10.1 q10.2).bind fun q11 =>
  xm_chk (xm_in l4 3) (
  ((fn_X0_farthest m (21 + 24 * b3 + 2 * (Int32.toNatClampNeg l4)) 132 (1 : Int32) q11.2).bind fun q13 =>
  ((fn_X2_widen m 134 l4 (1 : Int32) q13.1 q13.2).bind fun q14 =>
  xm_let (α := Int32) (l4 + (1 : Int32)) fun v15 =>
  lp_X8_lookAtBodies_42 m b3 n v15 q14.2)))))))
def lp_X8_lookAtBodies_13 (m : Nat) : Nat → Int32 → xm_Y → Option (Int32 × xm_Y)
  | 0, _, _ => none
  | n + 1, l2, u0 =>
  if (u0.1 1 2) ≤ l2 then (
  some (l2, u0)) else (
  xm_chk (xm_in l2 5) (
  ((fn_X1_isPassedOver m (Int32.toNatClampNeg l2) 132 u0).bind fun q4 =>
  ((if q4.1 = 0 then (
  ((lp_X8_lookAtBodies_42 m (Int32.toNatClampNeg l2) m (0 : Int32) q4.2).bind fun q16 =>
  some (q16.2))) else (
  some (q4.2)) : Option (xm_Y)).bind fun q5 =>
  xm_let (α := Int32) (l2 + (1 : Int32)) fun v17 =>
  lp_X8_lookAtBodies_13 m n v17 q5))))
def fn_X8_lookAtBodies (m : Nat) (u0 : xm_Y) : Option (Unit × xm_Y) :=
  ((fn_X2_copyFrom m 134 132 u0).bind fun q1 =>
  ((lp_X8_lookAtBodies_13 m m (0 : Int32) q1.2).bind fun q18 =>
  some ((), q18.2)))
theorem el_X8_lookAtBodies_42 (m : Nat) (b3 : Nat) (c2 : Int32) (hb3 : b3 < 5) (K : Int32 × xm_Y → Option (Unit × xm_Y)) (kE : ∀ q : Int32 × xm_Y, xs_ (fun _ : Unit => none) sg_0 mt_X8_lookAtBodies 107 [some (.ref 131), some (.ref 1), some (.int c2), none, none] [] q.2 0 0 (K q)) : ∀ (n : Nat) (l4 : Int32) (u0 : xm_Y), xs_ (fun _ : Unit => none) sg_0 mt_X8_lookAtBodies 42 [some (.ref 131), some (.ref 1), some (.int c2), some (.ref (3 + 24 * b3)), some (.int l4)] [] u0 0 0 ((lp_X8_lookAtBodies_42 m b3 n l4 u0).bind K) := by
  intro n
  induction n with
  | zero =>
    intro l4 u0
    exact xs_none
  | succ n ih =>
    intro l4 u0
    rw [lp_X8_lookAtBodies_42]
    refine xs_iload (n := 44) dX8_lookAtBodies_42 rfl rfl ?_
    refine xs_aload_n (n := 45) dX8_lookAtBodies_44 rfl rfl ?_
    refine ys_geti (n := 48) dX8_lookAtBodies_45 rfl fl_X8_53 (Or.inl rfl) sh_1 ?_
    refine xs_icmp_ge (n := 51) (tgt := 107) dX8_lookAtBodies_48 rfl rfl (fun hc8 => ?_) (fun hc8 => ?_)
    · exact xs_gf (xs_end (kE (l4, u0))) (And.intro rfl (And.intro rfl (And.intro rfl trivial)))
    · refine xs_aload_n (n := 52) dX8_lookAtBodies_51 rfl rfl ?_
      refine ys_getr (n := 55) dX8_lookAtBodies_52 rfl fl_X8_18 sh_131 rfl ?_
      refine xs_iload (n := 57) dX8_lookAtBodies_55 rfl rfl ?_
      refine xs_iconst (n := 58) (v := (0 : Int32)) dX8_lookAtBodies_57 rfl rfl ?_
      refine xs_aload_n (n := 59) dX8_lookAtBodies_58 rfl rfl ?_
      refine ys_getr (n := 62) dX8_lookAtBodies_59 rfl fl_X8_56 (bd_s hb3) (bd_r1 hb3) ?_
      refine xs_iload (n := 64) dX8_lookAtBodies_62 rfl rfl ?_
      refine ys_aaload16 (n := 65) dX8_lookAtBodies_64 rfl (br_s hb3) (fun hi9 => br_r hb3 (xin_n hi9)) (fun hi9 => ?_)
      refine xs_aload_n (n := 66) dX8_lookAtBodies_65 rfl rfl ?_
      refine ys_getr (n := 69) dX8_lookAtBodies_66 rfl fl_X8_12 sh_131 rfl ?_
      refine xs_iconst (n := 70) (v := (0 : Int32)) dX8_lookAtBodies_69 rfl rfl ?_
      refine ys_callvl (n := 73) (N := mt_X0_farthest) dX8_lookAtBodies_70 rfl ok_X0_farthest tw_745 im_X0_farthest se_X0_farthest ⟨Nat.le_of_ble_eq_true rfl, Nat.le_of_ble_eq_true rfl⟩ [.ref 132, .int (0 : Int32)] [.int (0 : Int32), .int l4, .ref 134] rfl rfl (Nat.le_of_ble_eq_true rfl) rfl (Nat.le_of_ble_eq_true rfl) (en_X0_farthest m (21 + 24 * b3 + 2 * (Int32.toNatClampNeg l4)) 132 (0 : Int32) (br_a hb3 (xin_n hi9)) bx_132 u0) (br_a hb3 (xin_n hi9)).1 (by decide) rfl (fun q10 => ?_)
      refine ys_callvv (n := 76) (N := mt_X2_widen) dX8_lookAtBodies_73 rfl ok_X2_widen tw_746 im_X2_widen se_X2_widen ⟨Nat.le_of_ble_eq_true rfl, Nat.le_of_ble_eq_true rfl⟩ [.int l4, .int (0 : Int32), .long q10.1] [] rfl rfl (Nat.le_of_ble_eq_true rfl) rfl (Nat.le_of_ble_eq_true rfl) (en_X2_widen m 134 l4 (0 : Int32) q10.1 bx_134 q10.2) bx_134.1 (by decide) rfl (fun q11 => ?_)
      refine xs_aload_n (n := 77) dX8_lookAtBodies_76 rfl rfl ?_
      refine ys_getr (n := 80) dX8_lookAtBodies_77 rfl fl_X8_18 sh_131 rfl ?_
      refine xs_iload (n := 82) dX8_lookAtBodies_80 rfl rfl ?_
      refine xs_iconst (n := 83) (v := (1 : Int32)) dX8_lookAtBodies_82 rfl rfl ?_
      refine xs_aload_n (n := 84) dX8_lookAtBodies_83 rfl rfl ?_
      refine ys_getr (n := 87) dX8_lookAtBodies_84 rfl fl_X8_56 (bd_s hb3) (bd_r1 hb3) ?_
      refine xs_iload (n := 89) dX8_lookAtBodies_87 rfl rfl ?_
      refine ys_aaload16 (n := 90) dX8_lookAtBodies_89 rfl (br_s hb3) (fun hi12 => br_r hb3 (xin_n hi12)) (fun hi12 => ?_)
      refine xs_aload_n (n := 91) dX8_lookAtBodies_90 rfl rfl ?_
      refine ys_getr (n := 94) dX8_lookAtBodies_91 rfl fl_X8_12 sh_131 rfl ?_
      refine xs_iconst (n := 95) (v := (1 : Int32)) dX8_lookAtBodies_94 rfl rfl ?_
      refine ys_callvl (n := 98) (N := mt_X0_farthest) dX8_lookAtBodies_95 rfl ok_X0_farthest tw_745 im_X0_farthest se_X0_farthest ⟨Nat.le_of_ble_eq_true rfl, Nat.le_of_ble_eq_true rfl⟩ [.ref 132, .int (1 : Int32)] [.int (1 : Int32), .int l4, .ref 134] rfl rfl (Nat.le_of_ble_eq_true rfl) rfl (Nat.le_of_ble_eq_true rfl) (en_X0_farthest m (21 + 24 * b3 + 2 * (Int32.toNatClampNeg l4)) 132 (1 : Int32) (br_a hb3 (xin_n hi12)) bx_132 q11.2) (br_a hb3 (xin_n hi12)).1 (by decide) rfl (fun q13 => ?_)
      refine ys_callvv (n := 101) (N := mt_X2_widen) dX8_lookAtBodies_98 rfl ok_X2_widen tw_746 im_X2_widen se_X2_widen ⟨Nat.le_of_ble_eq_true rfl, Nat.le_of_ble_eq_true rfl⟩ [.int l4, .int (1 : Int32), .long q13.1] [] rfl rfl (Nat.le_of_ble_eq_true rfl) rfl (Nat.le_of_ble_eq_true rfl) (en_X2_widen m 134 l4 (1 : Int32) q13.1 bx_134 q13.2) bx_134.1 (by decide) rfl (fun q14 => ?_)
      refine xs_iincl (n := 104) (dv := (1 : Int32)) (fun v15 => [some (.ref 131), some (.ref 1), some (.int c2), some (.ref (3 + 24 * b3)), some (.int v15)]) dX8_lookAtBodies_101 rfl rfl rfl (Nat.le_of_ble_eq_true rfl) (fun _ => rfl) (fun v15 => ?_)
      refine xs_goto (n := 42) dX8_lookAtBodies_104 rfl ?_
      exact xs_gf (ih v15 q14.2) (And.intro rfl (And.intro rfl (And.intro rfl (And.intro rfl (And.intro rfl trivial)))))
theorem el_X8_lookAtBodies_13 (m : Nat) (K : Int32 × xm_Y → Option (Unit × xm_Y)) (kE : ∀ q : Int32 × xm_Y, xs_ (fun _ : Unit => none) sg_0 mt_X8_lookAtBodies 113 [none, none, none, none, none] [] q.2 0 0 (K q)) : ∀ (n : Nat) (l2 : Int32) (u0 : xm_Y), xs_ (fun _ : Unit => none) sg_0 mt_X8_lookAtBodies 13 [some (.ref 131), some (.ref 1), some (.int l2), none, none] [] u0 0 0 ((lp_X8_lookAtBodies_13 m n l2 u0).bind K) := by
  intro n
  induction n with
  | zero =>
    intro l2 u0
    exact xs_none
  | succ n ih =>
    intro l2 u0
    rw [lp_X8_lookAtBodies_13]
    refine xs_iload_n (n := 14) dX8_lookAtBodies_13 rfl rfl ?_
    refine xs_aload_n (n := 15) dX8_lookAtBodies_14 rfl rfl ?_
    refine ys_geti (n := 18) dX8_lookAtBodies_15 rfl fl_X8_37 (Or.inl rfl) sh_1 ?_
    refine xs_icmp_ge (n := 21) (tgt := 113) dX8_lookAtBodies_18 rfl rfl (fun hc2 => ?_) (fun hc2 => ?_)
    · exact xs_gf (xs_end (kE (l2, u0))) trivial
    · refine xs_aload_n (n := 22) dX8_lookAtBodies_21 rfl rfl ?_
      refine ys_getr (n := 25) dX8_lookAtBodies_22 rfl fl_X8_43 sh_1 rfl ?_
      refine xs_iload_n (n := 26) dX8_lookAtBodies_25 rfl rfl ?_
      refine ys_aaload17 (n := 27) dX8_lookAtBodies_26 rfl sh_2 (fun hi3 => pb_r (xin_n hi3)) (fun hi3 => ?_)
      refine xs_astore_n (n := 28) (lv' := [some (.ref 131), some (.ref 1), some (.int l2), some (.ref (3 + 24 * (Int32.toNatClampNeg l2))), none]) dX8_lookAtBodies_27 rfl (Nat.le_of_ble_eq_true rfl) rfl ?_
      refine xs_aload_n (n := 29) dX8_lookAtBodies_28 rfl rfl ?_
      refine xs_aload_n (n := 30) dX8_lookAtBodies_29 rfl rfl ?_
      refine ys_getr (n := 33) dX8_lookAtBodies_30 rfl fl_X8_12 sh_131 rfl ?_
      refine ys_callvi (n := 36) (N := mt_X1_isPassedOver) dX8_lookAtBodies_33 rfl ok_X1_isPassedOver tw_734 im_X1_isPassedOver se_X1_isPassedOver ⟨Nat.le_of_ble_eq_true rfl, Nat.le_of_ble_eq_true rfl⟩ [.ref 132] [] rfl rfl (Nat.le_of_ble_eq_true rfl) rfl (Nat.le_of_ble_eq_true rfl) (en_X1_isPassedOver m (Int32.toNatClampNeg l2) 132 (xin_n hi3) bx_132 u0) (bd_s (xin_n hi3)) (by decide) rfl (fun q4 => ?_)
      refine xs_join 107 (fun q5 => [some (.ref 131), some (.ref 1), some (.int l2), none, none]) (fun q5 => []) (fun q5 => q5) (fun q5 => ?_) (fun kj6 => ?_)
      · refine xs_iincl (n := 110) (dv := (1 : Int32)) (fun v17 => [some (.ref 131), some (.ref 1), some (.int v17), none, none]) dX8_lookAtBodies_107 rfl rfl rfl (Nat.le_of_ble_eq_true rfl) (fun _ => rfl) (fun v17 => ?_)
        refine xs_goto (n := 13) dX8_lookAtBodies_110 rfl ?_
        exact xs_gf (ih v17 q5) (And.intro rfl (And.intro rfl (And.intro rfl trivial)))
      · refine xs_if_ne (n := 39) (tgt := 107) dX8_lookAtBodies_36 rfl rfl (fun hc7 => ?_) (fun hc7 => ?_)
        · refine xs_iconst (n := 40) (v := (0 : Int32)) dX8_lookAtBodies_39 rfl rfl ?_
          refine xs_istore (n := 42) (lv' := [some (.ref 131), some (.ref 1), some (.int l2), some (.ref (3 + 24 * (Int32.toNatClampNeg l2))), some (.int (0 : Int32))]) dX8_lookAtBodies_40 rfl (Nat.le_of_ble_eq_true rfl) rfl ?_
          refine xs_reg ?_
          refine xs_fg (lv' := [some (.ref 131), some (.ref 1), some (.int l2), some (.ref (3 + 24 * (Int32.toNatClampNeg l2))), some (.int (0 : Int32))]) (And.intro rfl (And.intro rfl (And.intro rfl (And.intro rfl (And.intro rfl trivial))))) ?_
          refine el_X8_lookAtBodies_42 m (Int32.toNatClampNeg l2) l2 (xin_n hi3) _ (fun q16 => ?_) m (0 : Int32) q4.2
          exact xs_gf (xs_end (kj6 (q16.2))) (And.intro rfl (And.intro rfl (And.intro rfl trivial)))
        · exact xs_gf (xs_end (kj6 (q4.2))) (And.intro rfl (And.intro rfl (And.intro rfl trivial)))
theorem en_X8_lookAtBodies (m : Nat) (u0 : xm_Y) : xs_ (fun _ : Unit => none) sg_0 mt_X8_lookAtBodies 0 [some (.ref 131), some (.ref 1), none, none, none] [] u0 0 0 (fn_X8_lookAtBodies m u0) := by
  refine xs_top ?_
  rw [fn_X8_lookAtBodies]
  refine xs_aload_n (n := 1) dX8_lookAtBodies_0 rfl rfl ?_
  refine ys_getr (n := 4) dX8_lookAtBodies_1 rfl fl_X8_18 sh_131 rfl ?_
  refine xs_aload_n (n := 5) dX8_lookAtBodies_4 rfl rfl ?_
  refine ys_getr (n := 8) dX8_lookAtBodies_5 rfl fl_X8_12 sh_131 rfl ?_
  refine ys_callvv (n := 11) (N := mt_X2_copyFrom) dX8_lookAtBodies_8 rfl ok_X2_copyFrom tw_725 im_X2_copyFrom se_X2_copyFrom ⟨Nat.le_of_ble_eq_true rfl, Nat.le_of_ble_eq_true rfl⟩ [.ref 132] [] rfl rfl (Nat.le_of_ble_eq_true rfl) rfl (Nat.le_of_ble_eq_true rfl) (en_X2_copyFrom m 134 132 bx_134 bx_132 u0) bx_134.1 (by decide) rfl (fun q1 => ?_)
  refine xs_iconst (n := 12) (v := (0 : Int32)) dX8_lookAtBodies_11 rfl rfl ?_
  refine xs_istore_n (n := 13) (lv' := [some (.ref 131), some (.ref 1), some (.int (0 : Int32)), none, none]) dX8_lookAtBodies_12 rfl (Nat.le_of_ble_eq_true rfl) rfl ?_
  refine xs_reg ?_
  refine xs_fg (lv' := [some (.ref 131), some (.ref 1), some (.int (0 : Int32)), none, none]) (And.intro rfl (And.intro rfl (And.intro rfl trivial))) ?_
  refine el_X8_lookAtBodies_13 m _ (fun q18 => ?_) m (0 : Int32) q1.2
  exact xs_vret dX8_lookAtBodies_113 rfl rfl
def lp_X8_settle_4 (m : Nat) (c1 : Int32) : Nat → Int32 → Int32 → xm_Y → Option (Int32 × Int32 × xm_Y)
  | 0, _, _, _ => none
  | n + 1, l2, l3, u0 =>
  if (6 : Int32) ≤ l3 then (
  some (l2, l3, u0)) else (
  xm_chk (xm_in l3 6) (
  xm_chk (xm_in l3 6) (
  ((if (u0.2 (134 + 1) (Int32.toNatClampNeg l3)) = (u0.2 (132 + 1) (Int32.toNatClampNeg l3)) then (
  some (l2, u0)) else (
  if c1 = 0 then (
  some ((1 : Int32), u0)) else (
  xm_chk (xm_in l3 6) (xm_let (w_J u0 (134 + 1) (Int32.toNatClampNeg l3) (-3000000000000 : Int64)) fun u6 =>
  some ((1 : Int32), u6)))) : Option (Int32 × xm_Y)).bind fun q2 =>
  xm_let (α := Int32) (l3 + (1 : Int32)) fun v7 =>
  lp_X8_settle_4 m c1 n q2.1 v7 q2.2))))
def fn_X8_settle (m : Nat) (x0 : Int32) (u0 : xm_Y) : Option (Int32 × xm_Y) :=
  ((lp_X8_settle_4 m x0 m (0 : Int32) (0 : Int32) u0).bind fun q8 =>
  xm_chk (q8.1 = 0 ∨ q8.1 = 1) (some (q8.1, q8.2.2)))
theorem el_X8_settle_4 (m : Nat) (c1 : Int32) (K : Int32 × Int32 × xm_Y → Option (Int32 × xm_Y)) (kE : ∀ q : Int32 × Int32 × xm_Y, xs_ (fun x : Int32 => some (.int x)) sg_0 mt_X8_settle 56 [none, none, some (.int q.1), none] [] q.2.2 0 0 (K q)) : ∀ (n : Nat) (l2 : Int32) (l3 : Int32) (u0 : xm_Y), xs_ (fun x : Int32 => some (.int x)) sg_0 mt_X8_settle 4 [some (.ref 131), some (.int c1), some (.int l2), some (.int l3)] [] u0 0 0 ((lp_X8_settle_4 m c1 n l2 l3 u0).bind K) := by
  intro n
  induction n with
  | zero =>
    intro l2 l3 u0
    exact xs_none
  | succ n ih =>
    intro l2 l3 u0
    rw [lp_X8_settle_4]
    refine xs_iload_n (n := 5) dX8_settle_4 rfl rfl ?_
    refine xs_bipush (n := 7) (v := (6 : Int32)) dX8_settle_5 rfl rfl ?_
    refine xs_icmp_ge (n := 10) (tgt := 56) dX8_settle_7 rfl rfl (fun hc1 => ?_) (fun hc1 => ?_)
    · exact xs_gf (xs_end (kE (l2, l3, u0))) (And.intro rfl trivial)
    · refine xs_aload_n (n := 11) dX8_settle_10 rfl rfl ?_
      refine ys_getr (n := 14) dX8_settle_11 rfl fl_X8_18 sh_131 rfl ?_
      refine ys_getr (n := 17) dX8_settle_14 rfl fl_X8_70 bx_134.1 bx_134.2.1 ?_
      refine xs_iload_n (n := 18) dX8_settle_17 rfl rfl ?_
      refine ys_laload (n := 19) dX8_settle_18 rfl bx_134.2.2 ?_
      refine xs_aload_n (n := 20) dX8_settle_19 rfl rfl ?_
      refine ys_getr (n := 23) dX8_settle_20 rfl fl_X8_12 sh_131 rfl ?_
      refine ys_getr (n := 26) dX8_settle_23 rfl fl_X8_70 bx_132.1 bx_132.2.1 ?_
      refine xs_iload_n (n := 27) dX8_settle_26 rfl rfl ?_
      refine ys_laload (n := 28) dX8_settle_27 rfl bx_132.2.2 ?_
      refine xs_join 50 (fun q2 => [some (.ref 131), some (.int c1), some (.int q2.1), some (.int l3)]) (fun q2 => []) (fun q2 => q2.2) (fun q2 => ?_) (fun kj3 => ?_)
      · refine xs_iincl (n := 53) (dv := (1 : Int32)) (fun v7 => [some (.ref 131), some (.int c1), some (.int q2.1), some (.int v7)]) dX8_settle_50 rfl rfl rfl (Nat.le_of_ble_eq_true rfl) (fun _ => rfl) (fun v7 => ?_)
        refine xs_goto (n := 4) dX8_settle_53 rfl ?_
        exact xs_gf (ih q2.1 v7 q2.2) (And.intro rfl (And.intro rfl (And.intro rfl (And.intro rfl trivial))))
      · refine xs_lif_eq (n := 32) (pc1 := 29) (tgt := 50) dX8_settle_28 rfl dX8_settle_29 rfl rfl (fun hc4 => ?_) (fun hc4 => ?_)
        · exact xs_gf (xs_end (kj3 (l2, u0))) (And.intro rfl (And.intro rfl (And.intro rfl (And.intro rfl trivial))))
        · refine xs_iconst (n := 33) (v := (1 : Int32)) dX8_settle_32 rfl rfl ?_
          refine xs_istore_n (n := 34) (lv' := [some (.ref 131), some (.int c1), some (.int (1 : Int32)), some (.int l3)]) dX8_settle_33 rfl (Nat.le_of_ble_eq_true rfl) rfl ?_
          refine xs_iload_n (n := 35) dX8_settle_34 rfl rfl ?_
          refine xs_if_eq (n := 38) (tgt := 50) dX8_settle_35 rfl rfl (fun hc5 => ?_) (fun hc5 => ?_)
          · exact xs_gf (xs_end (kj3 ((1 : Int32), u0))) (And.intro rfl (And.intro rfl (And.intro rfl (And.intro rfl trivial))))
          · refine xs_aload_n (n := 39) dX8_settle_38 rfl rfl ?_
            refine ys_getr (n := 42) dX8_settle_39 rfl fl_X8_18 sh_131 rfl ?_
            refine ys_getr (n := 45) dX8_settle_42 rfl fl_X8_70 bx_134.1 bx_134.2.1 ?_
            refine xs_iload_n (n := 46) dX8_settle_45 rfl rfl ?_
            refine xs_ldc2 (n := 49) (v := (-3000000000000 : Int64)) dX8_settle_46 rfl tw_757 ?_
            refine ys_lastore (n := 50) dX8_settle_49 rfl bx_134.2.2 (fun u6 => ?_)
            exact xs_gf (xs_end (kj3 ((1 : Int32), u6))) (And.intro rfl (And.intro rfl (And.intro rfl (And.intro rfl trivial))))
theorem en_X8_settle (m : Nat) (x0 : Int32) (u0 : xm_Y) : xs_ (fun x : Int32 => some (.int x)) sg_0 mt_X8_settle 0 [some (.ref 131), some (.int x0), none, none] [] u0 0 0 (fn_X8_settle m x0 u0) := by
  refine xs_top ?_
  rw [fn_X8_settle]
  refine xs_iconst (n := 1) (v := (0 : Int32)) dX8_settle_0 rfl rfl ?_
  refine xs_istore_n (n := 2) (lv' := [some (.ref 131), some (.int x0), some (.int (0 : Int32)), none]) dX8_settle_1 rfl (Nat.le_of_ble_eq_true rfl) rfl ?_
  refine xs_iconst (n := 3) (v := (0 : Int32)) dX8_settle_2 rfl rfl ?_
  refine xs_istore_n (n := 4) (lv' := [some (.ref 131), some (.int x0), some (.int (0 : Int32)), some (.int (0 : Int32))]) dX8_settle_3 rfl (Nat.le_of_ble_eq_true rfl) rfl ?_
  refine xs_reg ?_
  refine xs_fg (lv' := [some (.ref 131), some (.int x0), some (.int (0 : Int32)), some (.int (0 : Int32))]) (And.intro rfl (And.intro rfl (And.intro rfl (And.intro rfl trivial)))) ?_
  refine el_X8_settle_4 m x0 _ (fun q8 => ?_) m (0 : Int32) (0 : Int32) u0
  refine xs_iload_n (n := 57) dX8_settle_56 rfl rfl ?_
  exact xs_zret dX8_settle_57 rfl rfl
def lp_X2_isOut_2 (m : Nat) (a0 : Nat) : Nat → Int32 → xm_Y → Option ((Int32 × xm_Y) ⊕ (Int32 × xm_Y))
  | 0, _, _ => none
  | n + 1, l1, u0 =>
  if (6 : Int32) ≤ l1 then (
  some (.inr (l1, u0))) else (
  xm_chk (xm_in l1 6) (
  if (u0.2 (a0 + 1) (Int32.toNatClampNeg l1)) = (-3000000000000 : Int64) then (
  xm_let (α := Int32) (l1 + (1 : Int32)) fun v3 =>
  lp_X2_isOut_2 m a0 n v3 u0) else (
  xm_chk (xm_in l1 6) (
  ((fn_X11_isBeyond m (u0.2 (a0 + 1) (Int32.toNatClampNeg l1)) (1000000000 : Int64) u0).bind fun q4 =>
  if q4.1 = 0 then (
  xm_let (α := Int32) (l1 + (1 : Int32)) fun v6 =>
  lp_X2_isOut_2 m a0 n v6 q4.2) else (
  some (.inl ((1 : Int32), q4.2))))))))
def fn_X2_isOut (m : Nat) (o : Nat) (u0 : xm_Y) : Option (Int32 × xm_Y) :=
  ((lp_X2_isOut_2 m o m (0 : Int32) u0).bind (Sum.elim (fun r => some r) (fun q7 =>
  some ((0 : Int32), q7.2))))
theorem el_X2_isOut_2 (m : Nat) (a0 : Nat) (ha0 : bx_ok a0) (K : (Int32 × xm_Y) ⊕ (Int32 × xm_Y) → Option (Int32 × xm_Y)) (hK : ∀ r, K (.inl r) = some r) (kE : ∀ q : Int32 × xm_Y, xs_ (fun x : Int32 => some (.int x)) sg_0 mt_X2_isOut 44 [none, none] [] q.2 0 0 (K (.inr q))) : ∀ (n : Nat) (l1 : Int32) (u0 : xm_Y), xs_ (fun x : Int32 => some (.int x)) sg_0 mt_X2_isOut 2 [some (.ref a0), some (.int l1)] [] u0 0 0 ((lp_X2_isOut_2 m a0 n l1 u0).bind K) := by
  intro n
  induction n with
  | zero =>
    intro l1 u0
    exact xs_none
  | succ n ih =>
    intro l1 u0
    rw [lp_X2_isOut_2]
    refine xs_iload_n (n := 3) dX2_isOut_2 rfl rfl ?_
    refine xs_bipush (n := 5) (v := (6 : Int32)) dX2_isOut_3 rfl rfl ?_
    refine xs_icmp_ge (n := 8) (tgt := 44) dX2_isOut_5 rfl rfl (fun hc1 => ?_) (fun hc1 => ?_)
    · exact xs_gf (xs_end (kE (l1, u0))) trivial
    · refine xs_aload_n (n := 9) dX2_isOut_8 rfl rfl ?_
      refine ys_getr (n := 12) dX2_isOut_9 rfl fl_X2_9 ha0.1 ha0.2.1 ?_
      refine xs_iload_n (n := 13) dX2_isOut_12 rfl rfl ?_
      refine ys_laload (n := 14) dX2_isOut_13 rfl ha0.2.2 ?_
      refine xs_ldc2 (n := 17) (v := (-3000000000000 : Int64)) dX2_isOut_14 rfl tw_283 ?_
      refine xs_lif_eq (n := 21) (pc1 := 18) (tgt := 38) dX2_isOut_17 rfl dX2_isOut_18 rfl rfl (fun hc2 => ?_) (fun hc2 => ?_)
      · refine xs_iincl (n := 41) (dv := (1 : Int32)) (fun v3 => [some (.ref a0), some (.int v3)]) dX2_isOut_38 rfl rfl rfl (Nat.le_of_ble_eq_true rfl) (fun _ => rfl) (fun v3 => ?_)
        refine xs_goto (n := 2) dX2_isOut_41 rfl ?_
        exact xs_gf (ih v3 u0) (And.intro rfl (And.intro rfl trivial))
      · refine xs_aload_n (n := 22) dX2_isOut_21 rfl rfl ?_
        refine ys_getr (n := 25) dX2_isOut_22 rfl fl_X2_9 ha0.1 ha0.2.1 ?_
        refine xs_iload_n (n := 26) dX2_isOut_25 rfl rfl ?_
        refine ys_laload (n := 27) dX2_isOut_26 rfl ha0.2.2 ?_
        refine xs_ldc2 (n := 30) (v := (1000000000 : Int64)) dX2_isOut_27 rfl tw_762 ?_
        refine ys_callsni (n := 33) (N := mt_X11_isBeyond) dX2_isOut_30 rfl ok_X11_isBeyond tn_763 st_X11_isBeyond ⟨Nat.le_of_ble_eq_true rfl, Nat.le_of_ble_eq_true rfl⟩ [.long (u0.2 (a0 + 1) (Int32.toNatClampNeg l1)), .long (1000000000 : Int64)] [] rfl rfl (Nat.le_of_ble_eq_true rfl) rfl (Nat.le_of_ble_eq_true rfl) (en_X11_isBeyond m (u0.2 (a0 + 1) (Int32.toNatClampNeg l1)) (1000000000 : Int64) u0) (fun q4 => ?_)
        refine xs_if_eq (n := 36) (tgt := 38) dX2_isOut_33 rfl rfl (fun hc5 => ?_) (fun hc5 => ?_)
        · refine xs_iincl (n := 41) (dv := (1 : Int32)) (fun v6 => [some (.ref a0), some (.int v6)]) dX2_isOut_38 rfl rfl rfl (Nat.le_of_ble_eq_true rfl) (fun _ => rfl) (fun v6 => ?_)
          refine xs_goto (n := 2) dX2_isOut_41 rfl ?_
          exact xs_gf (ih v6 q4.2) (And.intro rfl (And.intro rfl trivial))
        · refine xs_iconst (n := 37) (v := (1 : Int32)) dX2_isOut_36 rfl rfl ?_
          exact xs_zretc dX2_isOut_37 rfl (Or.inr rfl) (hK _)
theorem en_X2_isOut (m : Nat) (o : Nat) (ho : bx_ok o) (u0 : xm_Y) : xs_ (fun x : Int32 => some (.int x)) sg_0 mt_X2_isOut 0 [some (.ref o), none] [] u0 0 0 (fn_X2_isOut m o u0) := by
  refine xs_top ?_
  rw [fn_X2_isOut]
  refine xs_iconst (n := 1) (v := (0 : Int32)) dX2_isOut_0 rfl rfl ?_
  refine xs_istore_n (n := 2) (lv' := [some (.ref o), some (.int (0 : Int32))]) dX2_isOut_1 rfl (Nat.le_of_ble_eq_true rfl) rfl ?_
  refine xs_reg ?_
  refine xs_fg (lv' := [some (.ref o), some (.int (0 : Int32))]) (And.intro rfl (And.intro rfl trivial)) ?_
  refine el_X2_isOut_2 m o ho _ (fun _ => rfl) (fun q7 => ?_) m (0 : Int32) u0
  refine xs_inr ?_
  refine xs_iconst (n := 45) (v := (0 : Int32)) dX2_isOut_44 rfl rfl ?_
  exact xs_zretc dX2_isOut_45 rfl (Or.inl rfl) rfl
def lp_X8_goRound_11 (m : Nat) (c3 : Int32) : Nat → Int32 → xm_Y → Option ((Int32 × xm_Y) ⊕ (Int32 × xm_Y))
  | 0, _, _ => none
  | n + 1, l4, u0 =>
  if (27 : Int32) < l4 then (
  some (.inr (l4, u0))) else (
  ((fn_X8_lookAtBodies m u0).bind fun q3 =>
  ((if l4 < c3 then (
  some ((0 : Int32))) else (
  some ((1 : Int32))) : Option (Int32)).bind fun q4 =>
  ((fn_X8_settle m q4 q3.2).bind fun q7 =>
  if q7.1 = 0 then (
  some (.inl (l4, q7.2))) else (
  ((fn_X2_isOut m 134 q7.2).bind fun q9 =>
  if q9.1 = 0 then (
  ((fn_X2_copyFrom m 132 134 q9.2).bind fun q11 =>
  xm_let (α := Int32) (l4 + (1 : Int32)) fun v12 =>
  lp_X8_goRound_11 m c3 n v12 q11.2)) else (
  some (.inl ((-4 : Int32), q9.2)))))))))
def fn_X8_goRound (m : Nat) (o : Nat) (x0 : Int32) (u0 : xm_Y) : Option (Int32 × xm_Y) :=
  ((fn_X2_copyFrom m 132 o u0).bind fun q1 =>
  ((lp_X8_goRound_11 m x0 m (1 : Int32) q1.2).bind (Sum.elim (fun r => some r) (fun q13 =>
  some ((-4 : Int32), q13.2)))))
theorem el_X8_goRound_11 (m : Nat) (c3 : Int32) (K : (Int32 × xm_Y) ⊕ (Int32 × xm_Y) → Option (Int32 × xm_Y)) (hK : ∀ r, K (.inl r) = some r) (kE : ∀ q : Int32 × xm_Y, xs_ (fun x : Int32 => some (.int x)) sg_0 mt_X8_goRound 78 [none, none, none, none, none, none] [] q.2 0 0 (K (.inr q))) : ∀ (n : Nat) (l4 : Int32) (u0 : xm_Y), xs_ (fun x : Int32 => some (.int x)) sg_0 mt_X8_goRound 11 [some (.ref 131), some (.ref 1), none, some (.int c3), some (.int l4), none] [] u0 0 0 ((lp_X8_goRound_11 m c3 n l4 u0).bind K) := by
  intro n
  induction n with
  | zero =>
    intro l4 u0
    exact xs_none
  | succ n ih =>
    intro l4 u0
    rw [lp_X8_goRound_11]
    refine xs_iload (n := 13) dX8_goRound_11 rfl rfl ?_
    refine xs_bipush (n := 15) (v := (27 : Int32)) dX8_goRound_13 rfl rfl ?_
    refine xs_icmp_gt (n := 18) (tgt := 78) dX8_goRound_15 rfl rfl (fun hc2 => ?_) (fun hc2 => ?_)
    · exact xs_gf (xs_end (kE (l4, u0))) trivial
    · refine xs_aload_n (n := 19) dX8_goRound_18 rfl rfl ?_
      refine xs_aload_n (n := 20) dX8_goRound_19 rfl rfl ?_
      refine ys_callvv (n := 23) (N := mt_X8_lookAtBodies) dX8_goRound_20 rfl ok_X8_lookAtBodies tw_730 im_X8_lookAtBodies se_X8_lookAtBodies ⟨Nat.le_of_ble_eq_true rfl, Nat.le_of_ble_eq_true rfl⟩ [.ref 1] [] rfl rfl (Nat.le_of_ble_eq_true rfl) rfl (Nat.le_of_ble_eq_true rfl) (en_X8_lookAtBodies m u0) sh_131 (by decide) rfl (fun q3 => ?_)
      refine xs_aload_n (n := 24) dX8_goRound_23 rfl rfl ?_
      refine xs_iload (n := 26) dX8_goRound_24 rfl rfl ?_
      refine xs_iload_n (n := 27) dX8_goRound_26 rfl rfl ?_
      refine xs_join 35 (fun q4 => [some (.ref 131), some (.ref 1), none, some (.int c3), some (.int l4), none]) (fun q4 => [.int q4, .ref 131]) (fun q4 => q3.2) (fun q4 => ?_) (fun kj5 => ?_)
      · refine ys_callvi (n := 38) (N := mt_X8_settle) dX8_goRound_35 rfl ok_X8_settle tw_753 im_X8_settle se_X8_settle ⟨Nat.le_of_ble_eq_true rfl, Nat.le_of_ble_eq_true rfl⟩ [.int q4] [] rfl rfl (Nat.le_of_ble_eq_true rfl) rfl (Nat.le_of_ble_eq_true rfl) (en_X8_settle m q4 q3.2) sh_131 (by decide) rfl (fun q7 => ?_)
        refine xs_istore (n := 40) (lv' := [some (.ref 131), some (.ref 1), none, some (.int c3), some (.int l4), some (.int q7.1)]) dX8_goRound_38 rfl (Nat.le_of_ble_eq_true rfl) rfl ?_
        refine xs_iload (n := 42) dX8_goRound_40 rfl rfl ?_
        refine xs_if_ne (n := 45) (tgt := 48) dX8_goRound_42 rfl rfl (fun hc8 => ?_) (fun hc8 => ?_)
        · refine xs_iload (n := 47) dX8_goRound_45 rfl rfl ?_
          exact xs_iret dX8_goRound_47 rfl (hK _)
        · refine xs_aload_n (n := 49) dX8_goRound_48 rfl rfl ?_
          refine ys_getr (n := 52) dX8_goRound_49 rfl fl_X8_18 sh_131 rfl ?_
          refine ys_callvi (n := 55) (N := mt_X2_isOut) dX8_goRound_52 rfl ok_X2_isOut tw_758 im_X2_isOut se_X2_isOut ⟨Nat.le_of_ble_eq_true rfl, Nat.le_of_ble_eq_true rfl⟩ [] [] rfl rfl (Nat.le_of_ble_eq_true rfl) rfl (Nat.le_of_ble_eq_true rfl) (en_X2_isOut m 134 bx_134 q7.2) bx_134.1 (by decide) rfl (fun q9 => ?_)
          refine xs_if_eq (n := 58) (tgt := 61) dX8_goRound_55 rfl rfl (fun hc10 => ?_) (fun hc10 => ?_)
          · refine xs_aload_n (n := 62) dX8_goRound_61 rfl rfl ?_
            refine ys_getr (n := 65) dX8_goRound_62 rfl fl_X8_12 sh_131 rfl ?_
            refine xs_aload_n (n := 66) dX8_goRound_65 rfl rfl ?_
            refine ys_getr (n := 69) dX8_goRound_66 rfl fl_X8_18 sh_131 rfl ?_
            refine ys_callvv (n := 72) (N := mt_X2_copyFrom) dX8_goRound_69 rfl ok_X2_copyFrom tw_725 im_X2_copyFrom se_X2_copyFrom ⟨Nat.le_of_ble_eq_true rfl, Nat.le_of_ble_eq_true rfl⟩ [.ref 134] [] rfl rfl (Nat.le_of_ble_eq_true rfl) rfl (Nat.le_of_ble_eq_true rfl) (en_X2_copyFrom m 132 134 bx_132 bx_134 q9.2) bx_132.1 (by decide) rfl (fun q11 => ?_)
            refine xs_iincl (n := 75) (dv := (1 : Int32)) (fun v12 => [some (.ref 131), some (.ref 1), none, some (.int c3), some (.int v12), some (.int q7.1)]) dX8_goRound_72 rfl rfl rfl (Nat.le_of_ble_eq_true rfl) (fun _ => rfl) (fun v12 => ?_)
            refine xs_goto (n := 11) dX8_goRound_75 rfl ?_
            exact xs_gf (ih v12 q11.2) (And.intro rfl (And.intro rfl (And.intro rfl (And.intro rfl trivial))))
          · refine xs_bipush (n := 60) (v := (-4 : Int32)) dX8_goRound_58 rfl rfl ?_
            exact xs_iret dX8_goRound_60 rfl (hK _)
      · refine xs_icmp_lt (n := 30) (tgt := 34) dX8_goRound_27 rfl rfl (fun hc6 => ?_) (fun hc6 => ?_)
        · refine xs_iconst (n := 35) (v := (0 : Int32)) dX8_goRound_34 rfl rfl ?_
          exact xs_gf (xs_end (kj5 ((0 : Int32)))) (And.intro rfl (And.intro rfl (And.intro rfl (And.intro rfl trivial))))
        · refine xs_iconst (n := 31) (v := (1 : Int32)) dX8_goRound_30 rfl rfl ?_
          refine xs_goto (n := 35) dX8_goRound_31 rfl ?_
          exact xs_gf (xs_end (kj5 ((1 : Int32)))) (And.intro rfl (And.intro rfl (And.intro rfl (And.intro rfl trivial))))
theorem en_X8_goRound (m : Nat) (o : Nat) (x0 : Int32) (ho_ : bx_ok o) (u0 : xm_Y) : xs_ (fun x : Int32 => some (.int x)) sg_0 mt_X8_goRound 0 [some (.ref 131), some (.ref 1), some (.ref o), some (.int x0), none, none] [] u0 0 0 (fn_X8_goRound m o x0 u0) := by
  refine xs_top ?_
  rw [fn_X8_goRound]
  refine xs_aload_n (n := 1) dX8_goRound_0 rfl rfl ?_
  refine ys_getr (n := 4) dX8_goRound_1 rfl fl_X8_12 sh_131 rfl ?_
  refine xs_aload_n (n := 5) dX8_goRound_4 rfl rfl ?_
  refine ys_callvv (n := 8) (N := mt_X2_copyFrom) dX8_goRound_5 rfl ok_X2_copyFrom tw_725 im_X2_copyFrom se_X2_copyFrom ⟨Nat.le_of_ble_eq_true rfl, Nat.le_of_ble_eq_true rfl⟩ [.ref o] [] rfl rfl (Nat.le_of_ble_eq_true rfl) rfl (Nat.le_of_ble_eq_true rfl) (en_X2_copyFrom m 132 o bx_132 ho_ u0) bx_132.1 (by decide) rfl (fun q1 => ?_)
  refine xs_iconst (n := 9) (v := (1 : Int32)) dX8_goRound_8 rfl rfl ?_
  refine xs_istore (n := 11) (lv' := [some (.ref 131), some (.ref 1), some (.ref o), some (.int x0), some (.int (1 : Int32)), none]) dX8_goRound_9 rfl (Nat.le_of_ble_eq_true rfl) rfl ?_
  refine xs_reg ?_
  refine xs_fg (lv' := [some (.ref 131), some (.ref 1), none, some (.int x0), some (.int (1 : Int32)), none]) (And.intro rfl (And.intro rfl (And.intro rfl (And.intro rfl trivial)))) ?_
  refine el_X8_goRound_11 m x0 _ (fun _ => rfl) (fun q13 => ?_) m (1 : Int32) q1.2
  refine xs_inr ?_
  refine xs_bipush (n := 80) (v := (-4 : Int32)) dX8_goRound_78 rfl rfl ?_
  exact xs_iret dX8_goRound_80 rfl rfl
def fn_X11_round (m : Nat) (x0 : Int32) (u0 : xm_Y) : Option (Int32 × xm_Y) :=
  if x0 < (1 : Int32) then (
  some ((-1 : Int32), u0)) else (
  if (20 : Int32) < x0 then (
  some ((-1 : Int32), u0)) else (
  ((fn_X2_isCrossed m 129 u0).bind fun q3 =>
  if q3.1 = 0 then (
  ((fn_X8_goRound m 129 x0 q3.2).bind fun q5 =>
  ((if q5.1 ≤ 0 then (
  some (q5.2)) else (
  ((fn_X2_copyFrom m 127 132 q5.2).bind fun q9 =>
  ((fn_X11_forgetPlaces m q9.2).bind fun q10 =>
  some (q10.2)))) : Option (xm_Y)).bind fun q6 =>
  some (q5.1, q6)))) else (
  some ((-1 : Int32), q3.2)))))
theorem en_X11_round (m : Nat) (x0 : Int32) (u0 : xm_Y) : xs_ (fun x : Int32 => some (.int x)) sg_0 mt_X11_round 0 [some (.ref 0), some (.int x0), none] [] u0 0 0 (fn_X11_round m x0 u0) := by
  refine xs_top ?_
  rw [fn_X11_round]
  refine xs_iload_n (n := 1) dX11_round_0 rfl rfl ?_
  refine xs_iconst (n := 2) (v := (1 : Int32)) dX11_round_1 rfl rfl ?_
  refine xs_icmp_lt (n := 5) (tgt := 21) dX11_round_2 rfl rfl (fun hc1 => ?_) (fun hc1 => ?_)
  · refine xs_iconst (n := 22) (v := (-1 : Int32)) dX11_round_21 rfl rfl ?_
    exact xs_iret dX11_round_22 rfl rfl
  · refine xs_iload_n (n := 6) dX11_round_5 rfl rfl ?_
    refine xs_bipush (n := 8) (v := (20 : Int32)) dX11_round_6 rfl rfl ?_
    refine xs_icmp_gt (n := 11) (tgt := 21) dX11_round_8 rfl rfl (fun hc2 => ?_) (fun hc2 => ?_)
    · refine xs_iconst (n := 22) (v := (-1 : Int32)) dX11_round_21 rfl rfl ?_
      exact xs_iret dX11_round_22 rfl rfl
    · refine xs_aload_n (n := 12) dX11_round_11 rfl rfl ?_
      refine ys_getr (n := 15) dX11_round_12 rfl fl_X11_34 sh_0 rfl ?_
      refine ys_callvi (n := 18) (N := mt_X2_isCrossed) dX11_round_15 rfl ok_X2_isCrossed tw_717 im_X2_isCrossed se_X2_isCrossed ⟨Nat.le_of_ble_eq_true rfl, Nat.le_of_ble_eq_true rfl⟩ [] [] rfl rfl (Nat.le_of_ble_eq_true rfl) rfl (Nat.le_of_ble_eq_true rfl) (en_X2_isCrossed m 129 bx_129 u0) bx_129.1 (by decide) rfl (fun q3 => ?_)
      refine xs_if_eq (n := 21) (tgt := 23) dX11_round_18 rfl rfl (fun hc4 => ?_) (fun hc4 => ?_)
      · refine xs_aload_n (n := 24) dX11_round_23 rfl rfl ?_
        refine ys_getr (n := 27) dX11_round_24 rfl fl_X11_40 sh_0 rfl ?_
        refine xs_aload_n (n := 28) dX11_round_27 rfl rfl ?_
        refine ys_getr (n := 31) dX11_round_28 rfl fl_X11_10 sh_0 rfl ?_
        refine xs_aload_n (n := 32) dX11_round_31 rfl rfl ?_
        refine ys_getr (n := 35) dX11_round_32 rfl fl_X11_34 sh_0 rfl ?_
        refine xs_iload_n (n := 36) dX11_round_35 rfl rfl ?_
        refine ys_callvi (n := 39) (N := mt_X8_goRound) dX11_round_36 rfl ok_X8_goRound tw_721 im_X8_goRound se_X8_goRound ⟨Nat.le_of_ble_eq_true rfl, Nat.le_of_ble_eq_true rfl⟩ [.ref 1, .ref 129, .int x0] [] rfl rfl (Nat.le_of_ble_eq_true rfl) rfl (Nat.le_of_ble_eq_true rfl) (en_X8_goRound m 129 x0 bx_129 q3.2) sh_131 (by decide) rfl (fun q5 => ?_)
        refine xs_istore_n (n := 40) (lv' := [some (.ref 0), some (.int x0), some (.int q5.1)]) dX11_round_39 rfl (Nat.le_of_ble_eq_true rfl) rfl ?_
        refine xs_iload_n (n := 41) dX11_round_40 rfl rfl ?_
        refine xs_join 62 (fun q6 => [none, none, some (.int q5.1)]) (fun q6 => []) (fun q6 => q6) (fun q6 => ?_) (fun kj7 => ?_)
        · refine xs_iload_n (n := 63) dX11_round_62 rfl rfl ?_
          exact xs_iret dX11_round_63 rfl rfl
        · refine xs_if_le (n := 44) (tgt := 62) dX11_round_41 rfl rfl (fun hc8 => ?_) (fun hc8 => ?_)
          · exact xs_gf (xs_end (kj7 (q5.2))) (And.intro rfl trivial)
          · refine xs_aload_n (n := 45) dX11_round_44 rfl rfl ?_
            refine ys_getr (n := 48) dX11_round_45 rfl fl_X11_30 sh_0 rfl ?_
            refine xs_aload_n (n := 49) dX11_round_48 rfl rfl ?_
            refine ys_getr (n := 52) dX11_round_49 rfl fl_X11_40 sh_0 rfl ?_
            refine ys_getr (n := 55) dX11_round_52 rfl fl_X11_251 sh_131 rfl ?_
            refine ys_callvv (n := 58) (N := mt_X2_copyFrom) dX11_round_55 rfl ok_X2_copyFrom tw_764 im_X2_copyFrom se_X2_copyFrom ⟨Nat.le_of_ble_eq_true rfl, Nat.le_of_ble_eq_true rfl⟩ [.ref 132] [] rfl rfl (Nat.le_of_ble_eq_true rfl) rfl (Nat.le_of_ble_eq_true rfl) (en_X2_copyFrom m 127 132 bx_127 bx_132 q5.2) bx_127.1 (by decide) rfl (fun q9 => ?_)
            refine xs_aload_n (n := 59) dX11_round_58 rfl rfl ?_
            refine ys_callvv (n := 62) (N := mt_X11_forgetPlaces) dX11_round_59 rfl ok_X11_forgetPlaces tw_343 im_X11_forgetPlaces se_X11_forgetPlaces ⟨Nat.le_of_ble_eq_true rfl, Nat.le_of_ble_eq_true rfl⟩ [] [] rfl rfl (Nat.le_of_ble_eq_true rfl) rfl (Nat.le_of_ble_eq_true rfl) (en_X11_forgetPlaces m q9.2) sh_0 (by decide) rfl (fun q10 => ?_)
            exact xs_gf (xs_end (kj7 (q10.2))) (And.intro rfl trivial)
      · refine xs_iconst (n := 22) (v := (-1 : Int32)) dX11_round_21 rfl rfl ?_
        exact xs_iret dX11_round_22 rfl rfl
def fn_X11_box (m : Nat) (x0 : Int32) (x1 : Int32) (u0 : xm_Y) : Option (Int64 × xm_Y) :=
  ((fn_X7_hasNumber m x0 u0).bind fun q1 =>
  ((if q1.1 = 0 then (
  some ((-3000000000000 : Int64), q1.2)) else (
  ((fn_X11_isSide m x1 q1.2).bind fun q5 =>
  if q5.1 = 0 then (
  some ((-3000000000000 : Int64), q5.2)) else (
  ((fn_X2_end m 127 x0 x1 q5.2).bind fun q7 =>
  some (q7.1, q7.2))))) : Option (Int64 × xm_Y)).bind fun q2 =>
  some (q2.1, q2.2)))
theorem en_X11_box (m : Nat) (x0 : Int32) (x1 : Int32) (u0 : xm_Y) : xs_ (fun x : Int64 => some (.long x)) sg_0 mt_X11_box 0 [some (.ref 0), some (.int x0), some (.int x1)] [] u0 0 0 (fn_X11_box m x0 x1 u0) := by
  refine xs_top ?_
  rw [fn_X11_box]
  refine xs_aload_n (n := 1) dX11_box_0 rfl rfl ?_
  refine ys_getr (n := 4) dX11_box_1 rfl fl_X11_10 sh_0 rfl ?_
  refine xs_iload_n (n := 5) dX11_box_4 rfl rfl ?_
  refine ys_callvi (n := 8) (N := mt_X7_hasNumber) dX11_box_5 rfl ok_X7_hasNumber tw_390 im_X7_hasNumber se_X7_hasNumber ⟨Nat.le_of_ble_eq_true rfl, Nat.le_of_ble_eq_true rfl⟩ [.int x0] [] rfl rfl (Nat.le_of_ble_eq_true rfl) rfl (Nat.le_of_ble_eq_true rfl) (en_X7_hasNumber m x0 u0) sh_1 (by decide) rfl (fun q1 => ?_)
  refine xs_join 33 (fun q2 => [none, none, none]) (fun q2 => [.long q2.1]) (fun q2 => q2.2) (fun q2 => ?_) (fun kj3 => ?_)
  · exact xs_lret dX11_box_33 rfl rfl
  · refine xs_if_eq (n := 11) (tgt := 30) dX11_box_8 rfl rfl (fun hc4 => ?_) (fun hc4 => ?_)
    · refine xs_ldc2 (n := 33) (v := (-3000000000000 : Int64)) dX11_box_30 rfl tw_708 ?_
      exact xs_gf (xs_end (kj3 ((-3000000000000 : Int64), q1.2))) trivial
    · refine xs_iload_n (n := 12) dX11_box_11 rfl rfl ?_
      refine ys_callsi (n := 15) (N := mt_X11_isSide) dX11_box_12 rfl ok_X11_isSide tw_704 st_X11_isSide ⟨Nat.le_of_ble_eq_true rfl, Nat.le_of_ble_eq_true rfl⟩ [.int x1] [] rfl rfl (Nat.le_of_ble_eq_true rfl) rfl (Nat.le_of_ble_eq_true rfl) (en_X11_isSide m x1 q1.2) (fun q5 => ?_)
      refine xs_if_eq (n := 18) (tgt := 30) dX11_box_15 rfl rfl (fun hc6 => ?_) (fun hc6 => ?_)
      · refine xs_ldc2 (n := 33) (v := (-3000000000000 : Int64)) dX11_box_30 rfl tw_708 ?_
        exact xs_gf (xs_end (kj3 ((-3000000000000 : Int64), q5.2))) trivial
      · refine xs_aload_n (n := 19) dX11_box_18 rfl rfl ?_
        refine ys_getr (n := 22) dX11_box_19 rfl fl_X11_30 sh_0 rfl ?_
        refine xs_iload_n (n := 23) dX11_box_22 rfl rfl ?_
        refine xs_iload_n (n := 24) dX11_box_23 rfl rfl ?_
        refine ys_callvl (n := 27) (N := mt_X2_end) dX11_box_24 rfl ok_X2_end tw_769 im_X2_end se_X2_end ⟨Nat.le_of_ble_eq_true rfl, Nat.le_of_ble_eq_true rfl⟩ [.int x0, .int x1] [] rfl rfl (Nat.le_of_ble_eq_true rfl) rfl (Nat.le_of_ble_eq_true rfl) (en_X2_end m 127 x0 x1 bx_127 q5.2) bx_127.1 (by decide) rfl (fun q7 => ?_)
        refine xs_goto (n := 33) dX11_box_27 rfl ?_
        exact xs_gf (xs_end (kj3 (q7.1, q7.2))) trivial
def fn_X11_open (m : Nat) (u0 : xm_Y) : Option (Int32 × xm_Y) :=
  ((fn_X11_openTheBox m u0).bind fun q1 =>
  some ((0 : Int32), q1.2))
theorem en_X11_open (m : Nat) (u0 : xm_Y) : xs_ (fun x : Int32 => some (.int x)) sg_0 mt_X11_open 0 [some (.ref 0)] [] u0 0 0 (fn_X11_open m u0) := by
  refine xs_top ?_
  rw [fn_X11_open]
  refine xs_aload_n (n := 1) dX11_open_0 rfl rfl ?_
  refine ys_callvv (n := 4) (N := mt_X11_openTheBox) dX11_open_1 rfl ok_X11_openTheBox tw_339 im_X11_openTheBox se_X11_openTheBox ⟨Nat.le_of_ble_eq_true rfl, Nat.le_of_ble_eq_true rfl⟩ [] [] rfl rfl (Nat.le_of_ble_eq_true rfl) rfl (Nat.le_of_ble_eq_true rfl) (en_X11_openTheBox m u0) sh_0 (by decide) rfl (fun q1 => ?_)
  refine xs_iconst (n := 5) (v := (0 : Int32)) dX11_open_4 rfl rfl ?_
  exact xs_iret dX11_open_5 rfl rfl
def fn_X11_isFunction (m : Nat) (x0 : Int32) (u0 : xm_Y) : Option (Int32 × xm_Y) :=
  ((if x0 < 0 then (
  some ((0 : Int32))) else (
  if (8 : Int32) ≤ x0 then (
  some ((0 : Int32))) else (
  some ((1 : Int32)))) : Option (Int32)).bind fun q1 =>
  xm_chk (q1 = 0 ∨ q1 = 1) (some (q1, u0)))
theorem en_X11_isFunction (m : Nat) (x0 : Int32) (u0 : xm_Y) : xs_ (fun x : Int32 => some (.int x)) sg_0 mt_X11_isFunction 0 [some (.int x0)] [] u0 0 0 (fn_X11_isFunction m x0 u0) := by
  refine xs_top ?_
  rw [fn_X11_isFunction]
  refine xs_iload_n (n := 1) dX11_isFunction_0 rfl rfl ?_
  refine xs_join 15 (fun q1 => [none]) (fun q1 => [.int q1]) (fun q1 => u0) (fun q1 => ?_) (fun kj2 => ?_)
  · exact xs_zret dX11_isFunction_15 rfl rfl
  · refine xs_if_lt (n := 4) (tgt := 14) dX11_isFunction_1 rfl rfl (fun hc3 => ?_) (fun hc3 => ?_)
    · refine xs_iconst (n := 15) (v := (0 : Int32)) dX11_isFunction_14 rfl rfl ?_
      exact xs_gf (xs_end (kj2 ((0 : Int32)))) trivial
    · refine xs_iload_n (n := 5) dX11_isFunction_4 rfl rfl ?_
      refine xs_bipush (n := 7) (v := (8 : Int32)) dX11_isFunction_5 rfl rfl ?_
      refine xs_icmp_ge (n := 10) (tgt := 14) dX11_isFunction_7 rfl rfl (fun hc4 => ?_) (fun hc4 => ?_)
      · refine xs_iconst (n := 15) (v := (0 : Int32)) dX11_isFunction_14 rfl rfl ?_
        exact xs_gf (xs_end (kj2 ((0 : Int32)))) trivial
      · refine xs_iconst (n := 11) (v := (1 : Int32)) dX11_isFunction_10 rfl rfl ?_
        refine xs_goto (n := 15) dX11_isFunction_11 rfl ?_
        exact xs_gf (xs_end (kj2 ((1 : Int32)))) trivial
def lp_X3_masksOf_7 (m : Nat) (u0 : xm_Y) : Nat → Int32 → Int32 → Int32 → Option (Int32 × Int32 × Int32)
  | 0, _, _, _ => none
  | n + 1, l1, l2, l3 =>
  if l3 < 0 then (
  some (l1, l2, l3)) else (
  xm_chk (¬ (3 : Int32) = 0) (
  xm_let (α := Int32) ((l2 - l2 / (3 : Int32) * (3 : Int32))) fun v2 =>
  xm_chk (¬ (3 : Int32) = 0) (
  xm_let (α := Int32) ((l2 / (3 : Int32))) fun v3 =>
  ((if v2 ≤ 0 then (
  some (l1)) else (
  xm_let (α := Int32) ((l1 ||| ((1 : Int32) <<< (l3 &&& 31)))) fun v7 =>
  some (v7)) : Option (Int32)).bind fun q4 =>
  ((if v2 ≤ (1 : Int32) then (
  some (q4)) else (
  xm_let (α := Int32) ((q4 ||| ((1 : Int32) <<< ((l3 + (16 : Int32)) &&& 31)))) fun v11 =>
  some (v11)) : Option (Int32)).bind fun q8 =>
  xm_let (α := Int32) (l3 + (-1 : Int32)) fun v12 =>
  lp_X3_masksOf_7 m u0 n q8 v3 v12)))))
def fn_X3_masksOf (m : Nat) (x0 : Int32) (u0 : xm_Y) : Option (Int32 × xm_Y) :=
  ((lp_X3_masksOf_7 m u0 m (0 : Int32) x0 (15 : Int32)).bind fun q13 =>
  some (q13.1, u0))
theorem el_X3_masksOf_7 (m : Nat) (u0 : xm_Y) (K : Int32 × Int32 × Int32 → Option (Int32 × xm_Y)) (kE : ∀ q : Int32 × Int32 × Int32, xs_ (fun x : Int32 => some (.int x)) sg_0 mt_X3_masksOf 52 [none, some (.int q.1), none, none, none] [] u0 0 0 (K q)) : ∀ (n : Nat) (l1 : Int32) (l2 : Int32) (l3 : Int32), xs_ (fun x : Int32 => some (.int x)) sg_0 mt_X3_masksOf 7 [none, some (.int l1), some (.int l2), some (.int l3), none] [] u0 0 0 ((lp_X3_masksOf_7 m u0 n l1 l2 l3).bind K) := by
  intro n
  induction n with
  | zero =>
    intro l1 l2 l3
    exact xs_none
  | succ n ih =>
    intro l1 l2 l3
    rw [lp_X3_masksOf_7]
    refine xs_iload_n (n := 8) dX3_masksOf_7 rfl rfl ?_
    refine xs_if_lt (n := 11) (tgt := 52) dX3_masksOf_8 rfl rfl (fun hc1 => ?_) (fun hc1 => ?_)
    · exact xs_gf (xs_end (kE (l1, l2, l3))) (And.intro rfl trivial)
    · refine xs_iload_n (n := 12) dX3_masksOf_11 rfl rfl ?_
      refine xs_iconst (n := 13) (v := (3 : Int32)) dX3_masksOf_12 rfl rfl ?_
      refine xs_irem (n := 14) dX3_masksOf_13 rfl (fun _ => ?_)
      refine xs_leti (fun v2 => ?_)
      refine xs_istore (n := 16) (lv' := [none, some (.int l1), some (.int l2), some (.int l3), some (.int v2)]) dX3_masksOf_14 rfl (Nat.le_of_ble_eq_true rfl) rfl ?_
      refine xs_iload_n (n := 17) dX3_masksOf_16 rfl rfl ?_
      refine xs_iconst (n := 18) (v := (3 : Int32)) dX3_masksOf_17 rfl rfl ?_
      refine xs_idiv (n := 19) dX3_masksOf_18 rfl (fun _ => ?_)
      refine xs_leti (fun v3 => ?_)
      refine xs_istore_n (n := 20) (lv' := [none, some (.int l1), some (.int v3), some (.int l3), some (.int v2)]) dX3_masksOf_19 rfl (Nat.le_of_ble_eq_true rfl) rfl ?_
      refine xs_iload (n := 22) dX3_masksOf_20 rfl rfl ?_
      refine xs_join 31 (fun q4 => [none, some (.int q4), some (.int v3), some (.int l3), some (.int v2)]) (fun q4 => []) (fun q4 => u0) (fun q4 => ?_) (fun kj5 => ?_)
      · refine xs_iload (n := 33) dX3_masksOf_31 rfl rfl ?_
        refine xs_iconst (n := 34) (v := (1 : Int32)) dX3_masksOf_33 rfl rfl ?_
        refine xs_join 46 (fun q8 => [none, some (.int q8), some (.int v3), some (.int l3), none]) (fun q8 => []) (fun q8 => u0) (fun q8 => ?_) (fun kj9 => ?_)
        · refine xs_iincl (n := 49) (dv := (-1 : Int32)) (fun v12 => [none, some (.int q8), some (.int v3), some (.int v12), none]) dX3_masksOf_46 rfl rfl rfl (Nat.le_of_ble_eq_true rfl) (fun _ => rfl) (fun v12 => ?_)
          refine xs_goto (n := 7) dX3_masksOf_49 rfl ?_
          exact xs_gf (ih q8 v3 v12) (And.intro rfl (And.intro rfl (And.intro rfl trivial)))
        · refine xs_icmp_le (n := 37) (tgt := 46) dX3_masksOf_34 rfl rfl (fun hc10 => ?_) (fun hc10 => ?_)
          · exact xs_gf (xs_end (kj9 (q4))) (And.intro rfl (And.intro rfl (And.intro rfl trivial)))
          · refine xs_iload_n (n := 38) dX3_masksOf_37 rfl rfl ?_
            refine xs_iconst (n := 39) (v := (1 : Int32)) dX3_masksOf_38 rfl rfl ?_
            refine xs_iload_n (n := 40) dX3_masksOf_39 rfl rfl ?_
            refine xs_bipush (n := 42) (v := (16 : Int32)) dX3_masksOf_40 rfl rfl ?_
            refine xs_iadd (n := 43) dX3_masksOf_42 rfl ?_
            refine xs_ishl (n := 44) dX3_masksOf_43 rfl ?_
            refine xs_ior (n := 45) dX3_masksOf_44 rfl ?_
            refine xs_leti (fun v11 => ?_)
            refine xs_istore_n (n := 46) (lv' := [none, some (.int v11), some (.int v3), some (.int l3), some (.int v2)]) dX3_masksOf_45 rfl (Nat.le_of_ble_eq_true rfl) rfl ?_
            exact xs_gf (xs_end (kj9 (v11))) (And.intro rfl (And.intro rfl (And.intro rfl trivial)))
      · refine xs_if_le (n := 25) (tgt := 31) dX3_masksOf_22 rfl rfl (fun hc6 => ?_) (fun hc6 => ?_)
        · exact xs_gf (xs_end (kj5 (l1))) (And.intro rfl (And.intro rfl (And.intro rfl (And.intro rfl trivial))))
        · refine xs_iload_n (n := 26) dX3_masksOf_25 rfl rfl ?_
          refine xs_iconst (n := 27) (v := (1 : Int32)) dX3_masksOf_26 rfl rfl ?_
          refine xs_iload_n (n := 28) dX3_masksOf_27 rfl rfl ?_
          refine xs_ishl (n := 29) dX3_masksOf_28 rfl ?_
          refine xs_ior (n := 30) dX3_masksOf_29 rfl ?_
          refine xs_leti (fun v7 => ?_)
          refine xs_istore_n (n := 31) (lv' := [none, some (.int v7), some (.int v3), some (.int l3), some (.int v2)]) dX3_masksOf_30 rfl (Nat.le_of_ble_eq_true rfl) rfl ?_
          exact xs_gf (xs_end (kj5 (v7))) (And.intro rfl (And.intro rfl (And.intro rfl (And.intro rfl trivial))))
theorem en_X3_masksOf (m : Nat) (x0 : Int32) (u0 : xm_Y) : xs_ (fun x : Int32 => some (.int x)) sg_0 mt_X3_masksOf 0 [some (.int x0), none, none, none, none] [] u0 0 0 (fn_X3_masksOf m x0 u0) := by
  refine xs_top ?_
  rw [fn_X3_masksOf]
  refine xs_iconst (n := 1) (v := (0 : Int32)) dX3_masksOf_0 rfl rfl ?_
  refine xs_istore_n (n := 2) (lv' := [some (.int x0), some (.int (0 : Int32)), none, none, none]) dX3_masksOf_1 rfl (Nat.le_of_ble_eq_true rfl) rfl ?_
  refine xs_iload_n (n := 3) dX3_masksOf_2 rfl rfl ?_
  refine xs_istore_n (n := 4) (lv' := [some (.int x0), some (.int (0 : Int32)), some (.int x0), none, none]) dX3_masksOf_3 rfl (Nat.le_of_ble_eq_true rfl) rfl ?_
  refine xs_bipush (n := 6) (v := (15 : Int32)) dX3_masksOf_4 rfl rfl ?_
  refine xs_istore_n (n := 7) (lv' := [some (.int x0), some (.int (0 : Int32)), some (.int x0), some (.int (15 : Int32)), none]) dX3_masksOf_6 rfl (Nat.le_of_ble_eq_true rfl) rfl ?_
  refine xs_reg ?_
  refine xs_fg (lv' := [none, some (.int (0 : Int32)), some (.int x0), some (.int (15 : Int32)), none]) (And.intro rfl (And.intro rfl (And.intro rfl trivial))) ?_
  refine el_X3_masksOf_7 m u0 _ (fun q13 => ?_) m (0 : Int32) x0 (15 : Int32)
  refine xs_iload_n (n := 53) dX3_masksOf_52 rfl rfl ?_
  exact xs_iret dX3_masksOf_53 rfl rfl
def fn_X3_packed (m : Nat) (x0 : Int32) (x1 : Int32) (x2 : Int32) (u0 : xm_Y) : Option (Int64 × xm_Y) :=
  some (((((Int32.toInt64 x2) &&& (4294967295 : Int64)) ||| ((Int32.toInt64 x0) <<< (Int32.toInt64 (32 : Int32) &&& 63))) ||| ((Int32.toInt64 x1) <<< (Int32.toInt64 (35 : Int32) &&& 63))), u0)
theorem en_X3_packed (m : Nat) (x0 : Int32) (x1 : Int32) (x2 : Int32) (u0 : xm_Y) : xs_ (fun x : Int64 => some (.long x)) sg_0 mt_X3_packed 0 [some (.int x0), some (.int x1), some (.int x2)] [] u0 0 0 (fn_X3_packed m x0 x1 x2 u0) := by
  refine xs_top ?_
  rw [fn_X3_packed]
  refine xs_iload_n (n := 1) dX3_packed_0 rfl rfl ?_
  refine xs_i2l (n := 2) dX3_packed_1 rfl ?_
  refine xs_ldc2 (n := 5) (v := (4294967295 : Int64)) dX3_packed_2 rfl tw_792 ?_
  refine xs_land (n := 6) dX3_packed_5 rfl ?_
  refine xs_iload_n (n := 7) dX3_packed_6 rfl rfl ?_
  refine xs_i2l (n := 8) dX3_packed_7 rfl ?_
  refine xs_bipush (n := 10) (v := (32 : Int32)) dX3_packed_8 rfl rfl ?_
  refine xs_lshl (n := 11) dX3_packed_10 rfl ?_
  refine xs_lor (n := 12) dX3_packed_11 rfl ?_
  refine xs_iload_n (n := 13) dX3_packed_12 rfl rfl ?_
  refine xs_i2l (n := 14) dX3_packed_13 rfl ?_
  refine xs_bipush (n := 16) (v := (35 : Int32)) dX3_packed_14 rfl rfl ?_
  refine xs_lshl (n := 17) dX3_packed_16 rfl ?_
  refine xs_lor (n := 18) dX3_packed_17 rfl ?_
  exact xs_lret dX3_packed_18 rfl rfl
def fn_X3_add (m : Nat) (x0 : Int32) (x1 : Int32) (x2 : Int32) (u0 : xm_Y) : Option (Int32 × xm_Y) :=
  if (u0.1 146 1) < (40 : Int32) then (
  ((fn_X3_masksOf m x2 u0).bind fun q2 =>
  ((fn_X3_packed m x0 x1 q2.1 q2.2).bind fun q3 =>
  xm_chk (xm_in (u0.1 146 1) 40) (xm_let (w_J q3.2 147 (Int32.toNatClampNeg (u0.1 146 1)) q3.1) fun u4 =>
  xm_let (w_I u4 146 1 ((u4.1 146 1) + (1 : Int32))) fun u5 =>
  some (((u5.1 146 1) - (1 : Int32)), u5))))) else (
  some ((-2 : Int32), u0))
theorem en_X3_add (m : Nat) (x0 : Int32) (x1 : Int32) (x2 : Int32) (u0 : xm_Y) : xs_ (fun x : Int32 => some (.int x)) sg_0 mt_X3_add 0 [some (.ref 146), some (.int x0), some (.int x1), some (.int x2)] [] u0 0 0 (fn_X3_add m x0 x1 x2 u0) := by
  refine xs_top ?_
  rw [fn_X3_add]
  refine xs_aload_n (n := 1) dX3_add_0 rfl rfl ?_
  refine ys_geti (n := 4) dX3_add_1 rfl fl_X3_32 (Or.inl rfl) sh_146 ?_
  refine xs_bipush (n := 6) (v := (40 : Int32)) dX3_add_4 rfl rfl ?_
  refine xs_icmp_lt (n := 9) (tgt := 12) dX3_add_6 rfl rfl (fun hc1 => ?_) (fun hc1 => ?_)
  · refine xs_aload_n (n := 13) dX3_add_12 rfl rfl ?_
    refine ys_getr (n := 16) dX3_add_13 rfl fl_X3_9 sh_146 rfl ?_
    refine xs_aload_n (n := 17) dX3_add_16 rfl rfl ?_
    refine ys_geti (n := 20) dX3_add_17 rfl fl_X3_32 (Or.inl rfl) sh_146 ?_
    refine xs_iload_n (n := 21) dX3_add_20 rfl rfl ?_
    refine xs_iload_n (n := 22) dX3_add_21 rfl rfl ?_
    refine xs_iload_n (n := 23) dX3_add_22 rfl rfl ?_
    refine ys_callsi (n := 26) (N := mt_X3_masksOf) dX3_add_23 rfl ok_X3_masksOf tw_786 st_X3_masksOf ⟨Nat.le_of_ble_eq_true rfl, Nat.le_of_ble_eq_true rfl⟩ [.int x2] [.int x1, .int x0, .int (u0.1 146 1), .ref 147] rfl rfl (Nat.le_of_ble_eq_true rfl) rfl (Nat.le_of_ble_eq_true rfl) (en_X3_masksOf m x2 u0) (fun q2 => ?_)
    refine ys_callsl (n := 29) (N := mt_X3_packed) dX3_add_26 rfl ok_X3_packed tw_789 st_X3_packed ⟨Nat.le_of_ble_eq_true rfl, Nat.le_of_ble_eq_true rfl⟩ [.int x0, .int x1, .int q2.1] [.int (u0.1 146 1), .ref 147] rfl rfl (Nat.le_of_ble_eq_true rfl) rfl (Nat.le_of_ble_eq_true rfl) (en_X3_packed m x0 x1 q2.1 q2.2) (fun q3 => ?_)
    refine ys_lastore (n := 30) dX3_add_29 rfl sh_147 (fun u4 => ?_)
    refine xs_aload_n (n := 31) dX3_add_30 rfl rfl ?_
    refine xs_dup (n := 32) dX3_add_31 rfl rfl ?_
    refine ys_geti (n := 35) dX3_add_32 rfl fl_X3_32 (Or.inl rfl) sh_146 ?_
    refine xs_iconst (n := 36) (v := (1 : Int32)) dX3_add_35 rfl rfl ?_
    refine xs_iadd (n := 37) dX3_add_36 rfl ?_
    refine ys_puti (n := 40) dX3_add_37 rfl fl_X3_32 rfl sh_146 (fun u5 => ?_)
    refine xs_aload_n (n := 41) dX3_add_40 rfl rfl ?_
    refine ys_geti (n := 44) dX3_add_41 rfl fl_X3_32 (Or.inl rfl) sh_146 ?_
    refine xs_iconst (n := 45) (v := (1 : Int32)) dX3_add_44 rfl rfl ?_
    refine xs_isub (n := 46) dX3_add_45 rfl ?_
    exact xs_iret dX3_add_46 rfl rfl
  · refine xs_bipush (n := 11) (v := (-2 : Int32)) dX3_add_9 rfl rfl ?_
    exact xs_iret dX3_add_11 rfl rfl
def fn_X11_call (m : Nat) (x0 : Int32) (x1 : Int32) (x2 : Int32) (u0 : xm_Y) : Option (Int32 × xm_Y) :=
  ((fn_X11_isFunction m x0 u0).bind fun q1 =>
  if q1.1 = 0 then (
  some ((-1 : Int32), q1.2)) else (
  ((fn_X11_isFunction m x1 q1.2).bind fun q3 =>
  if q3.1 = 0 then (
  some ((-1 : Int32), q3.2)) else (
  if x2 < 0 then (
  some ((-1 : Int32), q3.2)) else (
  if x2 < (43046721 : Int32) then (
  ((if (q3.2.1 146 1) < (40 : Int32) then (
  ((fn_X3_add m x0 x1 x2 q3.2).bind fun q10 =>
  some (q10.1, q10.2))) else (
  some ((-2 : Int32), q3.2)) : Option (Int32 × xm_Y)).bind fun q7 =>
  some (q7.1, q7.2))) else (
  some ((-1 : Int32), q3.2)))))))
theorem en_X11_call (m : Nat) (x0 : Int32) (x1 : Int32) (x2 : Int32) (u0 : xm_Y) : xs_ (fun x : Int32 => some (.int x)) sg_0 mt_X11_call 0 [some (.ref 0), some (.int x0), some (.int x1), some (.int x2)] [] u0 0 0 (fn_X11_call m x0 x1 x2 u0) := by
  refine xs_top ?_
  rw [fn_X11_call]
  refine xs_iload_n (n := 1) dX11_call_0 rfl rfl ?_
  refine ys_callsi (n := 4) (N := mt_X11_isFunction) dX11_call_1 rfl ok_X11_isFunction tw_778 st_X11_isFunction ⟨Nat.le_of_ble_eq_true rfl, Nat.le_of_ble_eq_true rfl⟩ [.int x0] [] rfl rfl (Nat.le_of_ble_eq_true rfl) rfl (Nat.le_of_ble_eq_true rfl) (en_X11_isFunction m x0 u0) (fun q1 => ?_)
  refine xs_if_eq (n := 7) (tgt := 25) dX11_call_4 rfl rfl (fun hc2 => ?_) (fun hc2 => ?_)
  · refine xs_iconst (n := 26) (v := (-1 : Int32)) dX11_call_25 rfl rfl ?_
    exact xs_iret dX11_call_26 rfl rfl
  · refine xs_iload_n (n := 8) dX11_call_7 rfl rfl ?_
    refine ys_callsi (n := 11) (N := mt_X11_isFunction) dX11_call_8 rfl ok_X11_isFunction tw_778 st_X11_isFunction ⟨Nat.le_of_ble_eq_true rfl, Nat.le_of_ble_eq_true rfl⟩ [.int x1] [] rfl rfl (Nat.le_of_ble_eq_true rfl) rfl (Nat.le_of_ble_eq_true rfl) (en_X11_isFunction m x1 q1.2) (fun q3 => ?_)
    refine xs_if_eq (n := 14) (tgt := 25) dX11_call_11 rfl rfl (fun hc4 => ?_) (fun hc4 => ?_)
    · refine xs_iconst (n := 26) (v := (-1 : Int32)) dX11_call_25 rfl rfl ?_
      exact xs_iret dX11_call_26 rfl rfl
    · refine xs_iload_n (n := 15) dX11_call_14 rfl rfl ?_
      refine xs_if_lt (n := 18) (tgt := 25) dX11_call_15 rfl rfl (fun hc5 => ?_) (fun hc5 => ?_)
      · refine xs_iconst (n := 26) (v := (-1 : Int32)) dX11_call_25 rfl rfl ?_
        exact xs_iret dX11_call_26 rfl rfl
      · refine xs_iload_n (n := 19) dX11_call_18 rfl rfl ?_
        refine xs_ldc_w (n := 22) (v := (43046721 : Int32)) dX11_call_19 rfl tw_781 ?_
        refine xs_icmp_lt (n := 25) (tgt := 27) dX11_call_22 rfl rfl (fun hc6 => ?_) (fun hc6 => ?_)
        · refine xs_aload_n (n := 28) dX11_call_27 rfl rfl ?_
          refine ys_getr (n := 31) dX11_call_28 rfl fl_X11_65 sh_0 rfl ?_
          refine ys_geti (n := 34) dX11_call_31 rfl fl_X11_269 (Or.inl rfl) sh_146 ?_
          refine xs_bipush (n := 36) (v := (40 : Int32)) dX11_call_34 rfl rfl ?_
          refine xs_join 54 (fun q7 => [none, none, none, none]) (fun q7 => [.int q7.1]) (fun q7 => q7.2) (fun q7 => ?_) (fun kj8 => ?_)
          · exact xs_iret dX11_call_54 rfl rfl
          · refine xs_icmp_lt (n := 39) (tgt := 44) dX11_call_36 rfl rfl (fun hc9 => ?_) (fun hc9 => ?_)
            · refine xs_aload_n (n := 45) dX11_call_44 rfl rfl ?_
              refine ys_getr (n := 48) dX11_call_45 rfl fl_X11_65 sh_0 rfl ?_
              refine xs_iload_n (n := 49) dX11_call_48 rfl rfl ?_
              refine xs_iload_n (n := 50) dX11_call_49 rfl rfl ?_
              refine xs_iload_n (n := 51) dX11_call_50 rfl rfl ?_
              refine ys_callvi (n := 54) (N := mt_X3_add) dX11_call_51 rfl ok_X3_add tw_782 im_X3_add se_X3_add ⟨Nat.le_of_ble_eq_true rfl, Nat.le_of_ble_eq_true rfl⟩ [.int x0, .int x1, .int x2] [] rfl rfl (Nat.le_of_ble_eq_true rfl) rfl (Nat.le_of_ble_eq_true rfl) (en_X3_add m x0 x1 x2 q3.2) sh_146 (by decide) rfl (fun q10 => ?_)
              exact xs_gf (xs_end (kj8 (q10.1, q10.2))) trivial
            · refine xs_bipush (n := 41) (v := (-2 : Int32)) dX11_call_39 rfl rfl ?_
              refine xs_goto (n := 54) dX11_call_41 rfl ?_
              exact xs_gf (xs_end (kj8 ((-2 : Int32), q3.2))) trivial
        · refine xs_iconst (n := 26) (v := (-1 : Int32)) dX11_call_25 rfl rfl ?_
          exact xs_iret dX11_call_26 rfl rfl
def fn_X3_removeAll (m : Nat) (u0 : xm_Y) : Option (Int32 × xm_Y) :=
  xm_let (α := Int32) ((u0.1 146 1)) fun v1 =>
  xm_let (w_I u0 146 1 (0 : Int32)) fun u2 =>
  some (v1, u2)
theorem en_X3_removeAll (m : Nat) (u0 : xm_Y) : xs_ (fun x : Int32 => some (.int x)) sg_0 mt_X3_removeAll 0 [some (.ref 146), none] [] u0 0 0 (fn_X3_removeAll m u0) := by
  refine xs_top ?_
  rw [fn_X3_removeAll]
  refine xs_aload_n (n := 1) dX3_removeAll_0 rfl rfl ?_
  refine ys_geti (n := 4) dX3_removeAll_1 rfl fl_X3_32 (Or.inl rfl) sh_146 ?_
  refine xs_leti (fun v1 => ?_)
  refine xs_istore_n (n := 5) (lv' := [some (.ref 146), some (.int v1)]) dX3_removeAll_4 rfl (Nat.le_of_ble_eq_true rfl) rfl ?_
  refine xs_aload_n (n := 6) dX3_removeAll_5 rfl rfl ?_
  refine xs_iconst (n := 7) (v := (0 : Int32)) dX3_removeAll_6 rfl rfl ?_
  refine ys_puti (n := 10) dX3_removeAll_7 rfl fl_X3_32 rfl sh_146 (fun u2 => ?_)
  refine xs_iload_n (n := 11) dX3_removeAll_10 rfl rfl ?_
  exact xs_iret dX3_removeAll_11 rfl rfl
def fn_X11_clear (m : Nat) (u0 : xm_Y) : Option (Int32 × xm_Y) :=
  ((fn_X3_removeAll m u0).bind fun q1 =>
  some (q1.1, q1.2))
theorem en_X11_clear (m : Nat) (u0 : xm_Y) : xs_ (fun x : Int32 => some (.int x)) sg_0 mt_X11_clear 0 [some (.ref 0)] [] u0 0 0 (fn_X11_clear m u0) := by
  refine xs_top ?_
  rw [fn_X11_clear]
  refine xs_aload_n (n := 1) dX11_clear_0 rfl rfl ?_
  refine ys_getr (n := 4) dX11_clear_1 rfl fl_X11_65 sh_0 rfl ?_
  refine ys_callvi (n := 7) (N := mt_X3_removeAll) dX11_clear_4 rfl ok_X3_removeAll tw_797 im_X3_removeAll se_X3_removeAll ⟨Nat.le_of_ble_eq_true rfl, Nat.le_of_ble_eq_true rfl⟩ [] [] rfl rfl (Nat.le_of_ble_eq_true rfl) rfl (Nat.le_of_ble_eq_true rfl) (en_X3_removeAll m u0) sh_146 (by decide) rfl (fun q1 => ?_)
  exact xs_iret dX11_clear_7 rfl rfl
def lp_X3_keep_13 (m : Nat) (c1 : Int64) (u0 : xm_Y) : Nat → Int32 → Int32 → Option ((Int32 × xm_Y) ⊕ (Int32 × Int32))
  | 0, _, _ => none
  | n + 1, l3, l4 =>
  if (2048 : Int32) ≤ l4 then (
  some (.inr (l3, l4))) else (
  xm_chk (xm_in l3 2048) (
  if (u0.1 149 (Int32.toNatClampNeg l3)) = 0 then (
  some (.inr (l3, l4))) else (
  xm_chk (xm_in l3 2048) (
  xm_chk (xm_in ((u0.1 149 (Int32.toNatClampNeg l3)) - (1 : Int32)) 1000) (
  if (u0.2 148 (Int32.toNatClampNeg ((u0.1 149 (Int32.toNatClampNeg l3)) - (1 : Int32)))) = c1 then (
  some (.inl ((1 : Int32), u0))) else (
  xm_let (α := Int32) (((l3 + (1 : Int32)) &&& (2047 : Int32))) fun v5 =>
  xm_let (α := Int32) (l4 + (1 : Int32)) fun v6 =>
  lp_X3_keep_13 m c1 u0 n v5 v6))))))
def fn_X3_keep (m : Nat) (x0 : Int64) (u0 : xm_Y) : Option (Int32 × xm_Y) :=
  xm_let (α := Int32) ((Int64.toInt32 ((Int64.toUInt64 (x0 * (-7046029254386353131 : Int64)) >>> (Int64.toUInt64 (Int32.toInt64 (53 : Int32)) &&& Int64.toUInt64 63)).toInt64))) fun v1 =>
  ((lp_X3_keep_13 m x0 u0 m v1 (0 : Int32)).bind (Sum.elim (fun r => some r) (fun q7 =>
  if (u0.1 146 3) < (1000 : Int32) then (
  xm_chk (xm_in (u0.1 146 3) 1000) (xm_let (w_J u0 148 (Int32.toNatClampNeg (u0.1 146 3)) x0) fun u9 =>
  xm_let (w_I u9 146 3 ((u9.1 146 3) + (1 : Int32))) fun u10 =>
  xm_chk (xm_in q7.1 2048) (xm_let (w_I u10 149 (Int32.toNatClampNeg q7.1) (u10.1 146 3)) fun u11 =>
  some ((1 : Int32), u11)))) else (
  some ((0 : Int32), u0)))))
theorem el_X3_keep_13 (m : Nat) (c1 : Int64) (u0 : xm_Y) (K : (Int32 × xm_Y) ⊕ (Int32 × Int32) → Option (Int32 × xm_Y)) (hK : ∀ r, K (.inl r) = some r) (kE : ∀ q : Int32 × Int32, xs_ (fun x : Int32 => some (.int x)) sg_0 mt_X3_keep 64 [some (.ref 146), some (.long c1), none, some (.int q.1), none] [] u0 0 0 (K (.inr q))) : ∀ (n : Nat) (l3 : Int32) (l4 : Int32), xs_ (fun x : Int32 => some (.int x)) sg_0 mt_X3_keep 13 [some (.ref 146), some (.long c1), none, some (.int l3), some (.int l4)] [] u0 0 0 ((lp_X3_keep_13 m c1 u0 n l3 l4).bind K) := by
  intro n
  induction n with
  | zero =>
    intro l3 l4
    exact xs_none
  | succ n ih =>
    intro l3 l4
    rw [lp_X3_keep_13]
    refine xs_iload (n := 15) dX3_keep_13 rfl rfl ?_
    refine xs_sipush (n := 18) (v := (2048 : Int32)) dX3_keep_15 rfl rfl ?_
    refine xs_icmp_ge (n := 21) (tgt := 64) dX3_keep_18 rfl rfl (fun hc2 => ?_) (fun hc2 => ?_)
    · exact xs_gf (xs_end (kE (l3, l4))) (And.intro rfl (And.intro rfl (And.intro rfl trivial)))
    · refine xs_aload_n (n := 22) dX3_keep_21 rfl rfl ?_
      refine ys_getr (n := 25) dX3_keep_22 rfl fl_X3_18 sh_146 rfl ?_
      refine xs_iload_n (n := 26) dX3_keep_25 rfl rfl ?_
      refine ys_iaload (n := 27) dX3_keep_26 rfl sh_149 ?_
      refine xs_if_eq (n := 30) (tgt := 64) dX3_keep_27 rfl rfl (fun hc3 => ?_) (fun hc3 => ?_)
      · exact xs_gf (xs_end (kE (l3, l4))) (And.intro rfl (And.intro rfl (And.intro rfl trivial)))
      · refine xs_aload_n (n := 31) dX3_keep_30 rfl rfl ?_
        refine ys_getr (n := 34) dX3_keep_31 rfl fl_X3_15 sh_146 rfl ?_
        refine xs_aload_n (n := 35) dX3_keep_34 rfl rfl ?_
        refine ys_getr (n := 38) dX3_keep_35 rfl fl_X3_18 sh_146 rfl ?_
        refine xs_iload_n (n := 39) dX3_keep_38 rfl rfl ?_
        refine ys_iaload (n := 40) dX3_keep_39 rfl sh_149 ?_
        refine xs_iconst (n := 41) (v := (1 : Int32)) dX3_keep_40 rfl rfl ?_
        refine xs_isub (n := 42) dX3_keep_41 rfl ?_
        refine ys_laload (n := 43) dX3_keep_42 rfl sh_148 ?_
        refine xs_lload_n (n := 44) dX3_keep_43 rfl rfl ?_
        refine xs_lif_ne (n := 48) (pc1 := 45) (tgt := 50) dX3_keep_44 rfl dX3_keep_45 rfl rfl (fun hc4 => ?_) (fun hc4 => ?_)
        · refine xs_iconst (n := 49) (v := (1 : Int32)) dX3_keep_48 rfl rfl ?_
          exact xs_zretc dX3_keep_49 rfl (Or.inr rfl) (hK _)
        · refine xs_iload_n (n := 51) dX3_keep_50 rfl rfl ?_
          refine xs_iconst (n := 52) (v := (1 : Int32)) dX3_keep_51 rfl rfl ?_
          refine xs_iadd (n := 53) dX3_keep_52 rfl ?_
          refine xs_sipush (n := 56) (v := (2047 : Int32)) dX3_keep_53 rfl rfl ?_
          refine xs_iand (n := 57) dX3_keep_56 rfl ?_
          refine xs_leti (fun v5 => ?_)
          refine xs_istore_n (n := 58) (lv' := [some (.ref 146), some (.long c1), none, some (.int v5), some (.int l4)]) dX3_keep_57 rfl (Nat.le_of_ble_eq_true rfl) rfl ?_
          refine xs_iincl (n := 61) (dv := (1 : Int32)) (fun v6 => [some (.ref 146), some (.long c1), none, some (.int v5), some (.int v6)]) dX3_keep_58 rfl rfl rfl (Nat.le_of_ble_eq_true rfl) (fun _ => rfl) (fun v6 => ?_)
          refine xs_goto (n := 13) dX3_keep_61 rfl ?_
          exact xs_gf (ih v5 v6) (And.intro rfl (And.intro rfl (And.intro rfl (And.intro rfl trivial))))
theorem en_X3_keep (m : Nat) (x0 : Int64) (u0 : xm_Y) : xs_ (fun x : Int32 => some (.int x)) sg_0 mt_X3_keep 0 [some (.ref 146), some (.long x0), none, none, none] [] u0 0 0 (fn_X3_keep m x0 u0) := by
  refine xs_top ?_
  rw [fn_X3_keep]
  refine xs_lload_n (n := 1) dX3_keep_0 rfl rfl ?_
  refine xs_ldc2 (n := 4) (v := (-7046029254386353131 : Int64)) dX3_keep_1 rfl tw_818 ?_
  refine xs_lmul (n := 5) dX3_keep_4 rfl ?_
  refine xs_bipush (n := 7) (v := (53 : Int32)) dX3_keep_5 rfl rfl ?_
  refine xs_lushr (n := 8) dX3_keep_7 rfl ?_
  refine xs_l2i (n := 9) dX3_keep_8 rfl ?_
  refine xs_leti (fun v1 => ?_)
  refine xs_istore_n (n := 10) (lv' := [some (.ref 146), some (.long x0), none, some (.int v1), none]) dX3_keep_9 rfl (Nat.le_of_ble_eq_true rfl) rfl ?_
  refine xs_iconst (n := 11) (v := (0 : Int32)) dX3_keep_10 rfl rfl ?_
  refine xs_istore (n := 13) (lv' := [some (.ref 146), some (.long x0), none, some (.int v1), some (.int (0 : Int32))]) dX3_keep_11 rfl (Nat.le_of_ble_eq_true rfl) rfl ?_
  refine xs_reg ?_
  refine xs_fg (lv' := [some (.ref 146), some (.long x0), none, some (.int v1), some (.int (0 : Int32))]) (And.intro rfl (And.intro rfl (And.intro rfl (And.intro rfl trivial)))) ?_
  refine el_X3_keep_13 m x0 u0 _ (fun _ => rfl) (fun q7 => ?_) m v1 (0 : Int32)
  refine xs_inr ?_
  refine xs_aload_n (n := 65) dX3_keep_64 rfl rfl ?_
  refine ys_geti (n := 68) dX3_keep_65 rfl fl_X3_47 (Or.inl rfl) sh_146 ?_
  refine xs_sipush (n := 71) (v := (1000 : Int32)) dX3_keep_68 rfl rfl ?_
  refine xs_icmp_lt (n := 74) (tgt := 76) dX3_keep_71 rfl rfl (fun hc8 => ?_) (fun hc8 => ?_)
  · refine xs_aload_n (n := 77) dX3_keep_76 rfl rfl ?_
    refine ys_getr (n := 80) dX3_keep_77 rfl fl_X3_15 sh_146 rfl ?_
    refine xs_aload_n (n := 81) dX3_keep_80 rfl rfl ?_
    refine ys_geti (n := 84) dX3_keep_81 rfl fl_X3_47 (Or.inl rfl) sh_146 ?_
    refine xs_lload_n (n := 85) dX3_keep_84 rfl rfl ?_
    refine ys_lastore (n := 86) dX3_keep_85 rfl sh_148 (fun u9 => ?_)
    refine xs_aload_n (n := 87) dX3_keep_86 rfl rfl ?_
    refine xs_dup (n := 88) dX3_keep_87 rfl rfl ?_
    refine ys_geti (n := 91) dX3_keep_88 rfl fl_X3_47 (Or.inl rfl) sh_146 ?_
    refine xs_iconst (n := 92) (v := (1 : Int32)) dX3_keep_91 rfl rfl ?_
    refine xs_iadd (n := 93) dX3_keep_92 rfl ?_
    refine ys_puti (n := 96) dX3_keep_93 rfl fl_X3_47 rfl sh_146 (fun u10 => ?_)
    refine xs_aload_n (n := 97) dX3_keep_96 rfl rfl ?_
    refine ys_getr (n := 100) dX3_keep_97 rfl fl_X3_18 sh_146 rfl ?_
    refine xs_iload_n (n := 101) dX3_keep_100 rfl rfl ?_
    refine xs_aload_n (n := 102) dX3_keep_101 rfl rfl ?_
    refine ys_geti (n := 105) dX3_keep_102 rfl fl_X3_47 (Or.inl rfl) sh_146 ?_
    refine ys_iastore (n := 106) dX3_keep_105 rfl sh_149 (fun u11 => ?_)
    refine xs_iconst (n := 107) (v := (1 : Int32)) dX3_keep_106 rfl rfl ?_
    exact xs_zretc dX3_keep_107 rfl (Or.inr rfl) rfl
  · refine xs_iconst (n := 75) (v := (0 : Int32)) dX3_keep_74 rfl rfl ?_
    exact xs_zretc dX3_keep_75 rfl (Or.inl rfl) rfl
