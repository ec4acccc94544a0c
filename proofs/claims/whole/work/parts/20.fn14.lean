def fn_X12_crossWanted (m : Nat) (x0 : Int32) (x1 : Int32) (u0 : xm_Y) : Option (Int64 × xm_Y) :=
  xm_chk (¬ (3 : Int32) = 0) (
  xm_let (α := Int32) (((x1 + (1 : Int32)) - (x1 + (1 : Int32)) / (3 : Int32) * (3 : Int32))) fun v1 =>
  xm_chk (¬ (3 : Int32) = 0) (
  xm_let (α := Int32) (((x1 + (2 : Int32)) - (x1 + (2 : Int32)) / (3 : Int32) * (3 : Int32))) fun v2 =>
  xm_chk (xm_in (((4 : Int32) * x0) + v1) 48) (
  xm_chk (xm_in v2 3) (
  xm_chk (xm_in (((4 : Int32) * x0) + v2) 48) (
  xm_chk (xm_in v1 3) (
  some ((((u0.2 159 (Int32.toNatClampNeg (((4 : Int32) * x0) + v1))) * (u0.2 181 (Int32.toNatClampNeg v2))) - ((u0.2 159 (Int32.toNatClampNeg (((4 : Int32) * x0) + v2))) * (u0.2 181 (Int32.toNatClampNeg v1)))), u0)))))))
theorem en_X12_crossWanted (m : Nat) (x0 : Int32) (x1 : Int32) (u0 : xm_Y) : xs_ (fun x : Int64 => some (.long x)) sg_0 mt_X12_crossWanted 0 [some (.ref 150), some (.int x0), some (.int x1), none, none] [] u0 0 0 (fn_X12_crossWanted m x0 x1 u0) := by
  refine xs_top ?_
  rw [fn_X12_crossWanted]
  refine xs_iload_n (n := 1) dX12_crossWanted_0 rfl rfl ?_
  refine xs_iconst (n := 2) (v := (1 : Int32)) dX12_crossWanted_1 rfl rfl ?_
  refine xs_iadd (n := 3) dX12_crossWanted_2 rfl ?_
  refine xs_iconst (n := 4) (v := (3 : Int32)) dX12_crossWanted_3 rfl rfl ?_
  refine xs_irem (n := 5) dX12_crossWanted_4 rfl (fun _ => ?_)
  refine xs_leti (fun v1 => ?_)
  refine xs_istore_n (n := 6) (lv' := [some (.ref 150), some (.int x0), some (.int x1), some (.int v1), none]) dX12_crossWanted_5 rfl (Nat.le_of_ble_eq_true rfl) rfl ?_
  refine xs_iload_n (n := 7) dX12_crossWanted_6 rfl rfl ?_
  refine xs_iconst (n := 8) (v := (2 : Int32)) dX12_crossWanted_7 rfl rfl ?_
  refine xs_iadd (n := 9) dX12_crossWanted_8 rfl ?_
  refine xs_iconst (n := 10) (v := (3 : Int32)) dX12_crossWanted_9 rfl rfl ?_
  refine xs_irem (n := 11) dX12_crossWanted_10 rfl (fun _ => ?_)
  refine xs_leti (fun v2 => ?_)
  refine xs_istore (n := 13) (lv' := [some (.ref 150), some (.int x0), some (.int x1), some (.int v1), some (.int v2)]) dX12_crossWanted_11 rfl (Nat.le_of_ble_eq_true rfl) rfl ?_
  refine xs_aload_n (n := 14) dX12_crossWanted_13 rfl rfl ?_
  refine ys_getr (n := 17) dX12_crossWanted_14 rfl fl_X12_40 sh_150 rfl ?_
  refine xs_iconst (n := 18) (v := (4 : Int32)) dX12_crossWanted_17 rfl rfl ?_
  refine xs_iload_n (n := 19) dX12_crossWanted_18 rfl rfl ?_
  refine xs_imul (n := 20) dX12_crossWanted_19 rfl ?_
  refine xs_iload_n (n := 21) dX12_crossWanted_20 rfl rfl ?_
  refine xs_iadd (n := 22) dX12_crossWanted_21 rfl ?_
  refine ys_laload (n := 23) dX12_crossWanted_22 rfl sh_159 ?_
  refine xs_aload_n (n := 24) dX12_crossWanted_23 rfl rfl ?_
  refine ys_getr (n := 27) dX12_crossWanted_24 rfl fl_X12_122 sh_150 rfl ?_
  refine xs_iload (n := 29) dX12_crossWanted_27 rfl rfl ?_
  refine ys_laload (n := 30) dX12_crossWanted_29 rfl sh_181 ?_
  refine xs_lmul (n := 31) dX12_crossWanted_30 rfl ?_
  refine xs_aload_n (n := 32) dX12_crossWanted_31 rfl rfl ?_
  refine ys_getr (n := 35) dX12_crossWanted_32 rfl fl_X12_40 sh_150 rfl ?_
  refine xs_iconst (n := 36) (v := (4 : Int32)) dX12_crossWanted_35 rfl rfl ?_
  refine xs_iload_n (n := 37) dX12_crossWanted_36 rfl rfl ?_
  refine xs_imul (n := 38) dX12_crossWanted_37 rfl ?_
  refine xs_iload (n := 40) dX12_crossWanted_38 rfl rfl ?_
  refine xs_iadd (n := 41) dX12_crossWanted_40 rfl ?_
  refine ys_laload (n := 42) dX12_crossWanted_41 rfl sh_159 ?_
  refine xs_aload_n (n := 43) dX12_crossWanted_42 rfl rfl ?_
  refine ys_getr (n := 46) dX12_crossWanted_43 rfl fl_X12_122 sh_150 rfl ?_
  refine xs_iload_n (n := 47) dX12_crossWanted_46 rfl rfl ?_
  refine ys_laload (n := 48) dX12_crossWanted_47 rfl sh_181 ?_
  refine xs_lmul (n := 49) dX12_crossWanted_48 rfl ?_
  refine xs_lsub (n := 50) dX12_crossWanted_49 rfl ?_
  exact xs_lret dX12_crossWanted_50 rfl rfl
def fn_X12_determinantWanted (m : Nat) (x0 : Int32) (x1 : Int32) (u0 : xm_Y) : Option (Int64 × xm_Y) :=
  xm_chk (xm_in (0 : Int32) 3) (
  ((fn_X12_cross m x0 x1 (0 : Int32) u0).bind fun q1 =>
  xm_chk (xm_in (1 : Int32) 3) (
  ((fn_X12_cross m x0 x1 (1 : Int32) q1.2).bind fun q2 =>
  xm_chk (xm_in (2 : Int32) 3) (
  ((fn_X12_cross m x0 x1 (2 : Int32) q2.2).bind fun q3 =>
  some (((((u0.2 181 (Int32.toNatClampNeg (0 : Int32))) * q1.1) + ((q1.2.2 181 (Int32.toNatClampNeg (1 : Int32))) * q2.1)) + ((q2.2.2 181 (Int32.toNatClampNeg (2 : Int32))) * q3.1)), q3.2)))))))
theorem en_X12_determinantWanted (m : Nat) (x0 : Int32) (x1 : Int32) (u0 : xm_Y) : xs_ (fun x : Int64 => some (.long x)) sg_0 mt_X12_determinantWanted 0 [some (.ref 150), some (.int x0), some (.int x1)] [] u0 0 0 (fn_X12_determinantWanted m x0 x1 u0) := by
  refine xs_top ?_
  rw [fn_X12_determinantWanted]
  refine xs_aload_n (n := 1) dX12_determinantWanted_0 rfl rfl ?_
  refine ys_getr (n := 4) dX12_determinantWanted_1 rfl fl_X12_122 sh_150 rfl ?_
  refine xs_iconst (n := 5) (v := (0 : Int32)) dX12_determinantWanted_4 rfl rfl ?_
  refine ys_laload (n := 6) dX12_determinantWanted_5 rfl sh_181 ?_
  refine xs_aload_n (n := 7) dX12_determinantWanted_6 rfl rfl ?_
  refine xs_iload_n (n := 8) dX12_determinantWanted_7 rfl rfl ?_
  refine xs_iload_n (n := 9) dX12_determinantWanted_8 rfl rfl ?_
  refine xs_iconst (n := 10) (v := (0 : Int32)) dX12_determinantWanted_9 rfl rfl ?_
  refine ys_callvl (n := 13) (N := mt_X12_cross) dX12_determinantWanted_10 rfl ok_X12_cross tw_1137 im_X12_cross se_X12_cross ⟨Nat.le_of_ble_eq_true rfl, Nat.le_of_ble_eq_true rfl⟩ [.int x0, .int x1, .int (0 : Int32)] [.long (u0.2 181 (Int32.toNatClampNeg (0 : Int32)))] rfl rfl (Nat.le_of_ble_eq_true rfl) rfl (Nat.le_of_ble_eq_true rfl) (en_X12_cross m x0 x1 (0 : Int32) u0) sh_150 (by decide) rfl (fun q1 => ?_)
  refine xs_lmul (n := 14) dX12_determinantWanted_13 rfl ?_
  refine xs_aload_n (n := 15) dX12_determinantWanted_14 rfl rfl ?_
  refine ys_getr (n := 18) dX12_determinantWanted_15 rfl fl_X12_122 sh_150 rfl ?_
  refine xs_iconst (n := 19) (v := (1 : Int32)) dX12_determinantWanted_18 rfl rfl ?_
  refine ys_laload (n := 20) dX12_determinantWanted_19 rfl sh_181 ?_
  refine xs_aload_n (n := 21) dX12_determinantWanted_20 rfl rfl ?_
  refine xs_iload_n (n := 22) dX12_determinantWanted_21 rfl rfl ?_
  refine xs_iload_n (n := 23) dX12_determinantWanted_22 rfl rfl ?_
  refine xs_iconst (n := 24) (v := (1 : Int32)) dX12_determinantWanted_23 rfl rfl ?_
  refine ys_callvl (n := 27) (N := mt_X12_cross) dX12_determinantWanted_24 rfl ok_X12_cross tw_1137 im_X12_cross se_X12_cross ⟨Nat.le_of_ble_eq_true rfl, Nat.le_of_ble_eq_true rfl⟩ [.int x0, .int x1, .int (1 : Int32)] [.long (q1.2.2 181 (Int32.toNatClampNeg (1 : Int32))), .long ((u0.2 181 (Int32.toNatClampNeg (0 : Int32))) * q1.1)] rfl rfl (Nat.le_of_ble_eq_true rfl) rfl (Nat.le_of_ble_eq_true rfl) (en_X12_cross m x0 x1 (1 : Int32) q1.2) sh_150 (by decide) rfl (fun q2 => ?_)
  refine xs_lmul (n := 28) dX12_determinantWanted_27 rfl ?_
  refine xs_ladd (n := 29) dX12_determinantWanted_28 rfl ?_
  refine xs_aload_n (n := 30) dX12_determinantWanted_29 rfl rfl ?_
  refine ys_getr (n := 33) dX12_determinantWanted_30 rfl fl_X12_122 sh_150 rfl ?_
  refine xs_iconst (n := 34) (v := (2 : Int32)) dX12_determinantWanted_33 rfl rfl ?_
  refine ys_laload (n := 35) dX12_determinantWanted_34 rfl sh_181 ?_
  refine xs_aload_n (n := 36) dX12_determinantWanted_35 rfl rfl ?_
  refine xs_iload_n (n := 37) dX12_determinantWanted_36 rfl rfl ?_
  refine xs_iload_n (n := 38) dX12_determinantWanted_37 rfl rfl ?_
  refine xs_iconst (n := 39) (v := (2 : Int32)) dX12_determinantWanted_38 rfl rfl ?_
  refine ys_callvl (n := 42) (N := mt_X12_cross) dX12_determinantWanted_39 rfl ok_X12_cross tw_1137 im_X12_cross se_X12_cross ⟨Nat.le_of_ble_eq_true rfl, Nat.le_of_ble_eq_true rfl⟩ [.int x0, .int x1, .int (2 : Int32)] [.long (q2.2.2 181 (Int32.toNatClampNeg (2 : Int32))), .long (((u0.2 181 (Int32.toNatClampNeg (0 : Int32))) * q1.1) + ((q1.2.2 181 (Int32.toNatClampNeg (1 : Int32))) * q2.1))] rfl rfl (Nat.le_of_ble_eq_true rfl) rfl (Nat.le_of_ble_eq_true rfl) (en_X12_cross m x0 x1 (2 : Int32) q2.2) sh_150 (by decide) rfl (fun q3 => ?_)
  refine xs_lmul (n := 43) dX12_determinantWanted_42 rfl ?_
  refine xs_ladd (n := 44) dX12_determinantWanted_43 rfl ?_
  exact xs_lret dX12_determinantWanted_44 rfl rfl
def lp_X12_byOne_44 (m : Nat) (c1 : Int32) (u0 : xm_Y) : Nat → Int32 → Option (Int32)
  | 0, _ => none
  | n + 1, l2 =>
  xm_chk (xm_in (((4 : Int32) * c1) + l2) 48) (
  if (u0.2 159 (Int32.toNatClampNeg (((4 : Int32) * c1) + l2))) = (0 : Int64) then (
  xm_let (α := Int32) (l2 + (1 : Int32)) fun v10 =>
  lp_X12_byOne_44 m c1 u0 n v10) else (
  some (l2)))
def fn_X12_byOne (m : Nat) (x0 : Int32) (u0 : xm_Y) : Option (Unit × xm_Y) :=
  ((fn_X12_isZero m x0 u0).bind fun q1 =>
  if q1.1 = 0 then (
  ((fn_X12_crossWanted m x0 (0 : Int32) q1.2).bind fun q3 =>
  if q3.1 = (0 : Int64) then (
  ((fn_X12_crossWanted m x0 (1 : Int32) q3.2).bind fun q5 =>
  if q5.1 = (0 : Int64) then (
  ((fn_X12_crossWanted m x0 (2 : Int32) q5.2).bind fun q7 =>
  if q7.1 = (0 : Int64) then (
  ((lp_X12_byOne_44 m x0 q7.2 m (0 : Int32)).bind fun q11 =>
  xm_chk (xm_in q11 3) (
  xm_chk (xm_in (((4 : Int32) * x0) + q11) 48) (
  ((fn_X12_offer m (q7.2.2 181 (Int32.toNatClampNeg q11)) (0 : Int64) (0 : Int64) (q7.2.2 159 (Int32.toNatClampNeg (((4 : Int32) * x0) + q11))) x0 x0 x0 q7.2).bind fun q12 =>
  some ((), q12.2)))))) else (
  some ((), q7.2)))) else (
  some ((), q5.2)))) else (
  some ((), q3.2)))) else (
  some ((), q1.2)))
theorem el_X12_byOne_44 (m : Nat) (c1 : Int32) (u0 : xm_Y) (K : Int32 → Option (Unit × xm_Y)) (kE : ∀ q : Int32, xs_ (fun _ : Unit => none) sg_0 mt_X12_byOne 65 [some (.ref 150), some (.int c1), some (.int q)] [] u0 0 0 (K q)) : ∀ (n : Nat) (l2 : Int32), xs_ (fun _ : Unit => none) sg_0 mt_X12_byOne 44 [some (.ref 150), some (.int c1), some (.int l2)] [] u0 0 0 ((lp_X12_byOne_44 m c1 u0 n l2).bind K) := by
  intro n
  induction n with
  | zero =>
    intro l2
    exact xs_none
  | succ n ih =>
    intro l2
    rw [lp_X12_byOne_44]
    refine xs_aload_n (n := 45) dX12_byOne_44 rfl rfl ?_
    refine ys_getr (n := 48) dX12_byOne_45 rfl fl_X12_40 sh_150 rfl ?_
    refine xs_iconst (n := 49) (v := (4 : Int32)) dX12_byOne_48 rfl rfl ?_
    refine xs_iload_n (n := 50) dX12_byOne_49 rfl rfl ?_
    refine xs_imul (n := 51) dX12_byOne_50 rfl ?_
    refine xs_iload_n (n := 52) dX12_byOne_51 rfl rfl ?_
    refine xs_iadd (n := 53) dX12_byOne_52 rfl ?_
    refine ys_laload (n := 54) dX12_byOne_53 rfl sh_159 ?_
    refine xs_lconst (n := 55) (v := (0 : Int64)) dX12_byOne_54 rfl rfl ?_
    refine xs_lif_ne (n := 59) (pc1 := 56) (tgt := 65) dX12_byOne_55 rfl dX12_byOne_56 rfl rfl (fun hc9 => ?_) (fun hc9 => ?_)
    · refine xs_iincl (n := 62) (dv := (1 : Int32)) (fun v10 => [some (.ref 150), some (.int c1), some (.int v10)]) dX12_byOne_59 rfl rfl rfl (Nat.le_of_ble_eq_true rfl) (fun _ => rfl) (fun v10 => ?_)
      refine xs_goto (n := 44) dX12_byOne_62 rfl ?_
      exact xs_gf (ih v10) (And.intro rfl (And.intro rfl (And.intro rfl trivial)))
    · exact xs_gf (xs_end (kE (l2))) (And.intro rfl (And.intro rfl (And.intro rfl trivial)))
theorem en_X12_byOne (m : Nat) (x0 : Int32) (u0 : xm_Y) : xs_ (fun _ : Unit => none) sg_0 mt_X12_byOne 0 [some (.ref 150), some (.int x0), none] [] u0 0 0 (fn_X12_byOne m x0 u0) := by
  refine xs_top ?_
  rw [fn_X12_byOne]
  refine xs_aload_n (n := 1) dX12_byOne_0 rfl rfl ?_
  refine xs_iload_n (n := 2) dX12_byOne_1 rfl rfl ?_
  refine ys_callvi (n := 5) (N := mt_X12_isZero) dX12_byOne_2 rfl ok_X12_isZero tw_1125 im_X12_isZero se_X12_isZero ⟨Nat.le_of_ble_eq_true rfl, Nat.le_of_ble_eq_true rfl⟩ [.int x0] [] rfl rfl (Nat.le_of_ble_eq_true rfl) rfl (Nat.le_of_ble_eq_true rfl) (en_X12_isZero m x0 u0) sh_150 (by decide) rfl (fun q1 => ?_)
  refine xs_if_ne (n := 8) (tgt := 41) dX12_byOne_5 rfl rfl (fun hc2 => ?_) (fun hc2 => ?_)
  · refine xs_aload_n (n := 9) dX12_byOne_8 rfl rfl ?_
    refine xs_iload_n (n := 10) dX12_byOne_9 rfl rfl ?_
    refine xs_iconst (n := 11) (v := (0 : Int32)) dX12_byOne_10 rfl rfl ?_
    refine ys_callvl (n := 14) (N := mt_X12_crossWanted) dX12_byOne_11 rfl ok_X12_crossWanted tw_1166 im_X12_crossWanted se_X12_crossWanted ⟨Nat.le_of_ble_eq_true rfl, Nat.le_of_ble_eq_true rfl⟩ [.int x0, .int (0 : Int32)] [] rfl rfl (Nat.le_of_ble_eq_true rfl) rfl (Nat.le_of_ble_eq_true rfl) (en_X12_crossWanted m x0 (0 : Int32) q1.2) sh_150 (by decide) rfl (fun q3 => ?_)
    refine xs_lconst (n := 15) (v := (0 : Int64)) dX12_byOne_14 rfl rfl ?_
    refine xs_lif_ne (n := 19) (pc1 := 16) (tgt := 41) dX12_byOne_15 rfl dX12_byOne_16 rfl rfl (fun hc4 => ?_) (fun hc4 => ?_)
    · refine xs_aload_n (n := 20) dX12_byOne_19 rfl rfl ?_
      refine xs_iload_n (n := 21) dX12_byOne_20 rfl rfl ?_
      refine xs_iconst (n := 22) (v := (1 : Int32)) dX12_byOne_21 rfl rfl ?_
      refine ys_callvl (n := 25) (N := mt_X12_crossWanted) dX12_byOne_22 rfl ok_X12_crossWanted tw_1166 im_X12_crossWanted se_X12_crossWanted ⟨Nat.le_of_ble_eq_true rfl, Nat.le_of_ble_eq_true rfl⟩ [.int x0, .int (1 : Int32)] [] rfl rfl (Nat.le_of_ble_eq_true rfl) rfl (Nat.le_of_ble_eq_true rfl) (en_X12_crossWanted m x0 (1 : Int32) q3.2) sh_150 (by decide) rfl (fun q5 => ?_)
      refine xs_lconst (n := 26) (v := (0 : Int64)) dX12_byOne_25 rfl rfl ?_
      refine xs_lif_ne (n := 30) (pc1 := 27) (tgt := 41) dX12_byOne_26 rfl dX12_byOne_27 rfl rfl (fun hc6 => ?_) (fun hc6 => ?_)
      · refine xs_aload_n (n := 31) dX12_byOne_30 rfl rfl ?_
        refine xs_iload_n (n := 32) dX12_byOne_31 rfl rfl ?_
        refine xs_iconst (n := 33) (v := (2 : Int32)) dX12_byOne_32 rfl rfl ?_
        refine ys_callvl (n := 36) (N := mt_X12_crossWanted) dX12_byOne_33 rfl ok_X12_crossWanted tw_1166 im_X12_crossWanted se_X12_crossWanted ⟨Nat.le_of_ble_eq_true rfl, Nat.le_of_ble_eq_true rfl⟩ [.int x0, .int (2 : Int32)] [] rfl rfl (Nat.le_of_ble_eq_true rfl) rfl (Nat.le_of_ble_eq_true rfl) (en_X12_crossWanted m x0 (2 : Int32) q5.2) sh_150 (by decide) rfl (fun q7 => ?_)
        refine xs_lconst (n := 37) (v := (0 : Int64)) dX12_byOne_36 rfl rfl ?_
        refine xs_lif_eq (n := 41) (pc1 := 38) (tgt := 42) dX12_byOne_37 rfl dX12_byOne_38 rfl rfl (fun hc8 => ?_) (fun hc8 => ?_)
        · refine xs_iconst (n := 43) (v := (0 : Int32)) dX12_byOne_42 rfl rfl ?_
          refine xs_istore_n (n := 44) (lv' := [some (.ref 150), some (.int x0), some (.int (0 : Int32))]) dX12_byOne_43 rfl (Nat.le_of_ble_eq_true rfl) rfl ?_
          refine xs_reg ?_
          refine xs_fg (lv' := [some (.ref 150), some (.int x0), some (.int (0 : Int32))]) (And.intro rfl (And.intro rfl (And.intro rfl trivial))) ?_
          refine el_X12_byOne_44 m x0 q7.2 _ (fun q11 => ?_) m (0 : Int32)
          refine xs_aload_n (n := 66) dX12_byOne_65 rfl rfl ?_
          refine xs_aload_n (n := 67) dX12_byOne_66 rfl rfl ?_
          refine ys_getr (n := 70) dX12_byOne_67 rfl fl_X12_122 sh_150 rfl ?_
          refine xs_iload_n (n := 71) dX12_byOne_70 rfl rfl ?_
          refine ys_laload (n := 72) dX12_byOne_71 rfl sh_181 ?_
          refine xs_lconst (n := 73) (v := (0 : Int64)) dX12_byOne_72 rfl rfl ?_
          refine xs_lconst (n := 74) (v := (0 : Int64)) dX12_byOne_73 rfl rfl ?_
          refine xs_aload_n (n := 75) dX12_byOne_74 rfl rfl ?_
          refine ys_getr (n := 78) dX12_byOne_75 rfl fl_X12_40 sh_150 rfl ?_
          refine xs_iconst (n := 79) (v := (4 : Int32)) dX12_byOne_78 rfl rfl ?_
          refine xs_iload_n (n := 80) dX12_byOne_79 rfl rfl ?_
          refine xs_imul (n := 81) dX12_byOne_80 rfl ?_
          refine xs_iload_n (n := 82) dX12_byOne_81 rfl rfl ?_
          refine xs_iadd (n := 83) dX12_byOne_82 rfl ?_
          refine ys_laload (n := 84) dX12_byOne_83 rfl sh_159 ?_
          refine xs_iload_n (n := 85) dX12_byOne_84 rfl rfl ?_
          refine xs_iload_n (n := 86) dX12_byOne_85 rfl rfl ?_
          refine xs_iload_n (n := 87) dX12_byOne_86 rfl rfl ?_
          refine ys_callvv (n := 90) (N := mt_X12_offer) dX12_byOne_87 rfl ok_X12_offer tw_1170 im_X12_offer se_X12_offer ⟨Nat.le_of_ble_eq_true rfl, Nat.le_of_ble_eq_true rfl⟩ [.long (q7.2.2 181 (Int32.toNatClampNeg q11)), .long (0 : Int64), .long (0 : Int64), .long (q7.2.2 159 (Int32.toNatClampNeg (((4 : Int32) * x0) + q11))), .int x0, .int x0, .int x0] [] rfl rfl (Nat.le_of_ble_eq_true rfl) rfl (Nat.le_of_ble_eq_true rfl) (en_X12_offer m (q7.2.2 181 (Int32.toNatClampNeg q11)) (0 : Int64) (0 : Int64) (q7.2.2 159 (Int32.toNatClampNeg (((4 : Int32) * x0) + q11))) x0 x0 x0 q7.2) sh_150 (by decide) rfl (fun q12 => ?_)
          exact xs_vret dX12_byOne_90 rfl rfl
        · exact xs_vret dX12_byOne_41 rfl rfl
      · exact xs_vret dX12_byOne_41 rfl rfl
    · exact xs_vret dX12_byOne_41 rfl rfl
  · exact xs_vret dX12_byOne_41 rfl rfl
def lp_X12_byTwo_14 (m : Nat) (c1 : Int32) (c2 : Int32) : Nat → Int32 → xm_Y → Option ((Unit × xm_Y) ⊕ (Int32 × xm_Y))
  | 0, _, _ => none
  | n + 1, l3, u0 =>
  if (3 : Int32) ≤ l3 then (
  some (.inr (l3, u0))) else (
  ((fn_X12_cross m c1 c2 l3 u0).bind fun q4 =>
  if q4.1 = (0 : Int64) then (
  xm_let (α := Int32) (l3 + (1 : Int32)) fun v6 =>
  lp_X12_byTwo_14 m c1 c2 n v6 q4.2) else (
  ((fn_X12_crossWanted m c2 l3 q4.2).bind fun q7 =>
  ((fn_X12_crossWanted m c1 l3 q7.2).bind fun q8 =>
  ((fn_X12_offer m (-q7.1) q8.1 (0 : Int64) q4.1 c1 c2 c1 q8.2).bind fun q9 =>
  some (.inl ((), q9.2))))))))
def fn_X12_byTwo (m : Nat) (x0 : Int32) (x1 : Int32) (u0 : xm_Y) : Option (Unit × xm_Y) :=
  ((fn_X12_determinantWanted m x0 x1 u0).bind fun q1 =>
  if q1.1 = (0 : Int64) then (
  ((lp_X12_byTwo_14 m x0 x1 m (0 : Int32) q1.2).bind (Sum.elim (fun r => some r) (fun q10 =>
  some ((), q10.2))))) else (
  some ((), q1.2)))
theorem el_X12_byTwo_14 (m : Nat) (c1 : Int32) (c2 : Int32) (K : (Unit × xm_Y) ⊕ (Int32 × xm_Y) → Option (Unit × xm_Y)) (hK : ∀ r, K (.inl r) = some r) (kE : ∀ q : Int32 × xm_Y, xs_ (fun _ : Unit => none) sg_0 mt_X12_byTwo 65 [none, none, none, none, none, none] [] q.2 0 0 (K (.inr q))) : ∀ (n : Nat) (l3 : Int32) (u0 : xm_Y), xs_ (fun _ : Unit => none) sg_0 mt_X12_byTwo 14 [some (.ref 150), some (.int c1), some (.int c2), some (.int l3), none, none] [] u0 0 0 ((lp_X12_byTwo_14 m c1 c2 n l3 u0).bind K) := by
  intro n
  induction n with
  | zero =>
    intro l3 u0
    exact xs_none
  | succ n ih =>
    intro l3 u0
    rw [lp_X12_byTwo_14]
    refine xs_iload_n (n := 15) dX12_byTwo_14 rfl rfl ?_
    refine xs_iconst (n := 16) (v := (3 : Int32)) dX12_byTwo_15 rfl rfl ?_
    refine xs_icmp_ge (n := 19) (tgt := 65) dX12_byTwo_16 rfl rfl (fun hc3 => ?_) (fun hc3 => ?_)
    · exact xs_gf (xs_end (kE (l3, u0))) trivial
    · refine xs_aload_n (n := 20) dX12_byTwo_19 rfl rfl ?_
      refine xs_iload_n (n := 21) dX12_byTwo_20 rfl rfl ?_
      refine xs_iload_n (n := 22) dX12_byTwo_21 rfl rfl ?_
      refine xs_iload_n (n := 23) dX12_byTwo_22 rfl rfl ?_
      refine ys_callvl (n := 26) (N := mt_X12_cross) dX12_byTwo_23 rfl ok_X12_cross tw_1137 im_X12_cross se_X12_cross ⟨Nat.le_of_ble_eq_true rfl, Nat.le_of_ble_eq_true rfl⟩ [.int c1, .int c2, .int l3] [] rfl rfl (Nat.le_of_ble_eq_true rfl) rfl (Nat.le_of_ble_eq_true rfl) (en_X12_cross m c1 c2 l3 u0) sh_150 (by decide) rfl (fun q4 => ?_)
      refine xs_lstore (n := 28) (lv' := [some (.ref 150), some (.int c1), some (.int c2), some (.int l3), some (.long q4.1), none]) dX12_byTwo_26 rfl (Nat.le_of_ble_eq_true rfl) rfl ?_
      refine xs_lload (n := 30) dX12_byTwo_28 rfl rfl ?_
      refine xs_lconst (n := 31) (v := (0 : Int64)) dX12_byTwo_30 rfl rfl ?_
      refine xs_lif_eq (n := 35) (pc1 := 32) (tgt := 59) dX12_byTwo_31 rfl dX12_byTwo_32 rfl rfl (fun hc5 => ?_) (fun hc5 => ?_)
      · refine xs_iincl (n := 62) (dv := (1 : Int32)) (fun v6 => [some (.ref 150), some (.int c1), some (.int c2), some (.int v6), some (.long q4.1), none]) dX12_byTwo_59 rfl rfl rfl (Nat.le_of_ble_eq_true rfl) (fun _ => rfl) (fun v6 => ?_)
        refine xs_goto (n := 14) dX12_byTwo_62 rfl ?_
        exact xs_gf (ih v6 q4.2) (And.intro rfl (And.intro rfl (And.intro rfl (And.intro rfl trivial))))
      · refine xs_aload_n (n := 36) dX12_byTwo_35 rfl rfl ?_
        refine xs_aload_n (n := 37) dX12_byTwo_36 rfl rfl ?_
        refine xs_iload_n (n := 38) dX12_byTwo_37 rfl rfl ?_
        refine xs_iload_n (n := 39) dX12_byTwo_38 rfl rfl ?_
        refine ys_callvl (n := 42) (N := mt_X12_crossWanted) dX12_byTwo_39 rfl ok_X12_crossWanted tw_1166 im_X12_crossWanted se_X12_crossWanted ⟨Nat.le_of_ble_eq_true rfl, Nat.le_of_ble_eq_true rfl⟩ [.int c2, .int l3] [.ref 150] rfl rfl (Nat.le_of_ble_eq_true rfl) rfl (Nat.le_of_ble_eq_true rfl) (en_X12_crossWanted m c2 l3 q4.2) sh_150 (by decide) rfl (fun q7 => ?_)
        refine xs_lneg (n := 43) dX12_byTwo_42 rfl ?_
        refine xs_aload_n (n := 44) dX12_byTwo_43 rfl rfl ?_
        refine xs_iload_n (n := 45) dX12_byTwo_44 rfl rfl ?_
        refine xs_iload_n (n := 46) dX12_byTwo_45 rfl rfl ?_
        refine ys_callvl (n := 49) (N := mt_X12_crossWanted) dX12_byTwo_46 rfl ok_X12_crossWanted tw_1166 im_X12_crossWanted se_X12_crossWanted ⟨Nat.le_of_ble_eq_true rfl, Nat.le_of_ble_eq_true rfl⟩ [.int c1, .int l3] [.long (-q7.1), .ref 150] rfl rfl (Nat.le_of_ble_eq_true rfl) rfl (Nat.le_of_ble_eq_true rfl) (en_X12_crossWanted m c1 l3 q7.2) sh_150 (by decide) rfl (fun q8 => ?_)
        refine xs_lconst (n := 50) (v := (0 : Int64)) dX12_byTwo_49 rfl rfl ?_
        refine xs_lload (n := 52) dX12_byTwo_50 rfl rfl ?_
        refine xs_iload_n (n := 53) dX12_byTwo_52 rfl rfl ?_
        refine xs_iload_n (n := 54) dX12_byTwo_53 rfl rfl ?_
        refine xs_iload_n (n := 55) dX12_byTwo_54 rfl rfl ?_
        refine ys_callvv (n := 58) (N := mt_X12_offer) dX12_byTwo_55 rfl ok_X12_offer tw_1170 im_X12_offer se_X12_offer ⟨Nat.le_of_ble_eq_true rfl, Nat.le_of_ble_eq_true rfl⟩ [.long (-q7.1), .long q8.1, .long (0 : Int64), .long q4.1, .int c1, .int c2, .int c1] [] rfl rfl (Nat.le_of_ble_eq_true rfl) rfl (Nat.le_of_ble_eq_true rfl) (en_X12_offer m (-q7.1) q8.1 (0 : Int64) q4.1 c1 c2 c1 q8.2) sh_150 (by decide) rfl (fun q9 => ?_)
        exact xs_vret dX12_byTwo_58 rfl (hK _)
theorem en_X12_byTwo (m : Nat) (x0 : Int32) (x1 : Int32) (u0 : xm_Y) : xs_ (fun _ : Unit => none) sg_0 mt_X12_byTwo 0 [some (.ref 150), some (.int x0), some (.int x1), none, none, none] [] u0 0 0 (fn_X12_byTwo m x0 x1 u0) := by
  refine xs_top ?_
  rw [fn_X12_byTwo]
  refine xs_aload_n (n := 1) dX12_byTwo_0 rfl rfl ?_
  refine xs_iload_n (n := 2) dX12_byTwo_1 rfl rfl ?_
  refine xs_iload_n (n := 3) dX12_byTwo_2 rfl rfl ?_
  refine ys_callvl (n := 6) (N := mt_X12_determinantWanted) dX12_byTwo_3 rfl ok_X12_determinantWanted tw_1186 im_X12_determinantWanted se_X12_determinantWanted ⟨Nat.le_of_ble_eq_true rfl, Nat.le_of_ble_eq_true rfl⟩ [.int x0, .int x1] [] rfl rfl (Nat.le_of_ble_eq_true rfl) rfl (Nat.le_of_ble_eq_true rfl) (en_X12_determinantWanted m x0 x1 u0) sh_150 (by decide) rfl (fun q1 => ?_)
  refine xs_lconst (n := 7) (v := (0 : Int64)) dX12_byTwo_6 rfl rfl ?_
  refine xs_lif_eq (n := 11) (pc1 := 8) (tgt := 12) dX12_byTwo_7 rfl dX12_byTwo_8 rfl rfl (fun hc2 => ?_) (fun hc2 => ?_)
  · refine xs_iconst (n := 13) (v := (0 : Int32)) dX12_byTwo_12 rfl rfl ?_
    refine xs_istore_n (n := 14) (lv' := [some (.ref 150), some (.int x0), some (.int x1), some (.int (0 : Int32)), none, none]) dX12_byTwo_13 rfl (Nat.le_of_ble_eq_true rfl) rfl ?_
    refine xs_reg ?_
    refine xs_fg (lv' := [some (.ref 150), some (.int x0), some (.int x1), some (.int (0 : Int32)), none, none]) (And.intro rfl (And.intro rfl (And.intro rfl (And.intro rfl trivial)))) ?_
    refine el_X12_byTwo_14 m x0 x1 _ (fun _ => rfl) (fun q10 => ?_) m (0 : Int32) q1.2
    refine xs_inr ?_
    exact xs_vret dX12_byTwo_65 rfl rfl
  · exact xs_vret dX12_byTwo_11 rfl rfl
def lp_X12_findLeast_102 (m : Nat) (c1 : Int32) (c2 : Int32) : Nat → Int32 → xm_Y → Option (Int32 × xm_Y)
  | 0, _, _ => none
  | n + 1, l3, u0 =>
  if (u0.1 150 11) ≤ l3 then (
  some (l3, u0)) else (
  ((fn_X12_determinant m c1 c2 l3 u0).bind fun q18 =>
  ((if q18.1 = (0 : Int64) then (
  some (q18.2)) else (
  ((fn_X12_determinantWanted m c2 l3 q18.2).bind fun q22 =>
  ((fn_X12_determinantWanted m l3 c1 q22.2).bind fun q23 =>
  ((fn_X12_determinantWanted m c1 c2 q23.2).bind fun q24 =>
  ((fn_X12_offer m q22.1 q23.1 q24.1 q18.1 c1 c2 l3 q24.2).bind fun q25 =>
  some (q25.2)))))) : Option (xm_Y)).bind fun q19 =>
  xm_let (α := Int32) (l3 + (1 : Int32)) fun v26 =>
  lp_X12_findLeast_102 m c1 c2 n v26 q19)))
def lp_X12_findLeast_84 (m : Nat) (c1 : Int32) : Nat → Int32 → xm_Y → Option (Int32 × xm_Y)
  | 0, _, _ => none
  | n + 1, l2, u0 =>
  if (u0.1 150 11) ≤ l2 then (
  some (l2, u0)) else (
  ((fn_X12_byTwo m c1 l2 u0).bind fun q15 =>
  xm_let (α := Int32) ((l2 + (1 : Int32))) fun v16 =>
  ((lp_X12_findLeast_102 m c1 l2 m v16 q15.2).bind fun q27 =>
  xm_let (α := Int32) (l2 + (1 : Int32)) fun v28 =>
  lp_X12_findLeast_84 m c1 n v28 q27.2)))
def lp_X12_findLeast_67 (m : Nat) : Nat → Int32 → xm_Y → Option (Int32 × xm_Y)
  | 0, _, _ => none
  | n + 1, l1, u0 =>
  if (u0.1 150 11) ≤ l1 then (
  some (l1, u0)) else (
  ((fn_X12_byOne m l1 u0).bind fun q12 =>
  xm_let (α := Int32) ((l1 + (1 : Int32))) fun v13 =>
  ((lp_X12_findLeast_84 m l1 m v13 q12.2).bind fun q29 =>
  xm_let (α := Int32) (l1 + (1 : Int32)) fun v30 =>
  lp_X12_findLeast_67 m n v30 q29.2)))
def fn_X12_findLeast (m : Nat) (u0 : xm_Y) : Option (Unit × xm_Y) :=
  xm_chk (xm_in (0 : Int32) 3) (
  ((if (u0.2 181 (Int32.toNatClampNeg (0 : Int32))) = (0 : Int64) then (
  xm_chk (xm_in (1 : Int32) 3) (
  if (u0.2 181 (Int32.toNatClampNeg (1 : Int32))) = (0 : Int64) then (
  xm_chk (xm_in (2 : Int32) 3) (
  if (u0.2 181 (Int32.toNatClampNeg (2 : Int32))) = (0 : Int64) then (
  some ((1 : Int32))) else (
  some ((0 : Int32))))) else (
  some ((0 : Int32))))) else (
  some ((0 : Int32))) : Option (Int32)).bind fun q1 =>
  xm_chk (q1 = 0 ∨ q1 = 1) (
  xm_let (w_I u0 150 16 q1) fun u6 =>
  xm_let (w_J u6 150 13 (0 : Int64)) fun u7 =>
  xm_let (w_J u7 150 14 (0 : Int64)) fun u8 =>
  xm_let (w_J u8 150 15 (1 : Int64)) fun u9 =>
  if (u9.1 150 16) = 0 then (
  ((lp_X12_findLeast_67 m m (0 : Int32) u9).bind fun q31 =>
  some ((), q31.2))) else (
  some ((), u9)))))
theorem el_X12_findLeast_102 (m : Nat) (c1 : Int32) (c2 : Int32) (K : Int32 × xm_Y → Option (Unit × xm_Y)) (kE : ∀ q : Int32 × xm_Y, xs_ (fun _ : Unit => none) sg_0 mt_X12_findLeast 159 [some (.ref 150), some (.int c1), some (.int c2), none, none, none] [] q.2 0 0 (K q)) : ∀ (n : Nat) (l3 : Int32) (u0 : xm_Y), xs_ (fun _ : Unit => none) sg_0 mt_X12_findLeast 102 [some (.ref 150), some (.int c1), some (.int c2), some (.int l3), none, none] [] u0 0 0 ((lp_X12_findLeast_102 m c1 c2 n l3 u0).bind K) := by
  intro n
  induction n with
  | zero =>
    intro l3 u0
    exact xs_none
  | succ n ih =>
    intro l3 u0
    rw [lp_X12_findLeast_102]
    refine xs_iload_n (n := 103) dX12_findLeast_102 rfl rfl ?_
    refine xs_aload_n (n := 104) dX12_findLeast_103 rfl rfl ?_
    refine ys_geti (n := 107) dX12_findLeast_104 rfl fl_X12_185 (Or.inl rfl) sh_150 ?_
    refine xs_icmp_ge (n := 110) (tgt := 159) dX12_findLeast_107 rfl rfl (fun hc17 => ?_) (fun hc17 => ?_)
    · exact xs_gf (xs_end (kE (l3, u0))) (And.intro rfl (And.intro rfl (And.intro rfl trivial)))
    · refine xs_aload_n (n := 111) dX12_findLeast_110 rfl rfl ?_
      refine xs_iload_n (n := 112) dX12_findLeast_111 rfl rfl ?_
      refine xs_iload_n (n := 113) dX12_findLeast_112 rfl rfl ?_
      refine xs_iload_n (n := 114) dX12_findLeast_113 rfl rfl ?_
      refine ys_callvl (n := 117) (N := mt_X12_determinant) dX12_findLeast_114 rfl ok_X12_determinant tw_1146 im_X12_determinant se_X12_determinant ⟨Nat.le_of_ble_eq_true rfl, Nat.le_of_ble_eq_true rfl⟩ [.int c1, .int c2, .int l3] [] rfl rfl (Nat.le_of_ble_eq_true rfl) rfl (Nat.le_of_ble_eq_true rfl) (en_X12_determinant m c1 c2 l3 u0) sh_150 (by decide) rfl (fun q18 => ?_)
      refine xs_lstore (n := 119) (lv' := [some (.ref 150), some (.int c1), some (.int c2), some (.int l3), some (.long q18.1), none]) dX12_findLeast_117 rfl (Nat.le_of_ble_eq_true rfl) rfl ?_
      refine xs_lload (n := 121) dX12_findLeast_119 rfl rfl ?_
      refine xs_lconst (n := 122) (v := (0 : Int64)) dX12_findLeast_121 rfl rfl ?_
      refine xs_join 153 (fun q19 => [some (.ref 150), some (.int c1), some (.int c2), some (.int l3), none, none]) (fun q19 => []) (fun q19 => q19) (fun q19 => ?_) (fun kj20 => ?_)
      · refine xs_iincl (n := 156) (dv := (1 : Int32)) (fun v26 => [some (.ref 150), some (.int c1), some (.int c2), some (.int v26), none, none]) dX12_findLeast_153 rfl rfl rfl (Nat.le_of_ble_eq_true rfl) (fun _ => rfl) (fun v26 => ?_)
        refine xs_goto (n := 102) dX12_findLeast_156 rfl ?_
        exact xs_gf (ih v26 q19) (And.intro rfl (And.intro rfl (And.intro rfl (And.intro rfl trivial))))
      · refine xs_lif_eq (n := 126) (pc1 := 123) (tgt := 153) dX12_findLeast_122 rfl dX12_findLeast_123 rfl rfl (fun hc21 => ?_) (fun hc21 => ?_)
        · exact xs_gf (xs_end (kj20 (q18.2))) (And.intro rfl (And.intro rfl (And.intro rfl (And.intro rfl trivial))))
        · refine xs_aload_n (n := 127) dX12_findLeast_126 rfl rfl ?_
          refine xs_aload_n (n := 128) dX12_findLeast_127 rfl rfl ?_
          refine xs_iload_n (n := 129) dX12_findLeast_128 rfl rfl ?_
          refine xs_iload_n (n := 130) dX12_findLeast_129 rfl rfl ?_
          refine ys_callvl (n := 133) (N := mt_X12_determinantWanted) dX12_findLeast_130 rfl ok_X12_determinantWanted tw_1186 im_X12_determinantWanted se_X12_determinantWanted ⟨Nat.le_of_ble_eq_true rfl, Nat.le_of_ble_eq_true rfl⟩ [.int c2, .int l3] [.ref 150] rfl rfl (Nat.le_of_ble_eq_true rfl) rfl (Nat.le_of_ble_eq_true rfl) (en_X12_determinantWanted m c2 l3 q18.2) sh_150 (by decide) rfl (fun q22 => ?_)
          refine xs_aload_n (n := 134) dX12_findLeast_133 rfl rfl ?_
          refine xs_iload_n (n := 135) dX12_findLeast_134 rfl rfl ?_
          refine xs_iload_n (n := 136) dX12_findLeast_135 rfl rfl ?_
          refine ys_callvl (n := 139) (N := mt_X12_determinantWanted) dX12_findLeast_136 rfl ok_X12_determinantWanted tw_1186 im_X12_determinantWanted se_X12_determinantWanted ⟨Nat.le_of_ble_eq_true rfl, Nat.le_of_ble_eq_true rfl⟩ [.int l3, .int c1] [.long q22.1, .ref 150] rfl rfl (Nat.le_of_ble_eq_true rfl) rfl (Nat.le_of_ble_eq_true rfl) (en_X12_determinantWanted m l3 c1 q22.2) sh_150 (by decide) rfl (fun q23 => ?_)
          refine xs_aload_n (n := 140) dX12_findLeast_139 rfl rfl ?_
          refine xs_iload_n (n := 141) dX12_findLeast_140 rfl rfl ?_
          refine xs_iload_n (n := 142) dX12_findLeast_141 rfl rfl ?_
          refine ys_callvl (n := 145) (N := mt_X12_determinantWanted) dX12_findLeast_142 rfl ok_X12_determinantWanted tw_1186 im_X12_determinantWanted se_X12_determinantWanted ⟨Nat.le_of_ble_eq_true rfl, Nat.le_of_ble_eq_true rfl⟩ [.int c1, .int c2] [.long q23.1, .long q22.1, .ref 150] rfl rfl (Nat.le_of_ble_eq_true rfl) rfl (Nat.le_of_ble_eq_true rfl) (en_X12_determinantWanted m c1 c2 q23.2) sh_150 (by decide) rfl (fun q24 => ?_)
          refine xs_lload (n := 147) dX12_findLeast_145 rfl rfl ?_
          refine xs_iload_n (n := 148) dX12_findLeast_147 rfl rfl ?_
          refine xs_iload_n (n := 149) dX12_findLeast_148 rfl rfl ?_
          refine xs_iload_n (n := 150) dX12_findLeast_149 rfl rfl ?_
          refine ys_callvv (n := 153) (N := mt_X12_offer) dX12_findLeast_150 rfl ok_X12_offer tw_1170 im_X12_offer se_X12_offer ⟨Nat.le_of_ble_eq_true rfl, Nat.le_of_ble_eq_true rfl⟩ [.long q22.1, .long q23.1, .long q24.1, .long q18.1, .int c1, .int c2, .int l3] [] rfl rfl (Nat.le_of_ble_eq_true rfl) rfl (Nat.le_of_ble_eq_true rfl) (en_X12_offer m q22.1 q23.1 q24.1 q18.1 c1 c2 l3 q24.2) sh_150 (by decide) rfl (fun q25 => ?_)
          exact xs_gf (xs_end (kj20 (q25.2))) (And.intro rfl (And.intro rfl (And.intro rfl (And.intro rfl trivial))))
theorem el_X12_findLeast_84 (m : Nat) (c1 : Int32) (K : Int32 × xm_Y → Option (Unit × xm_Y)) (kE : ∀ q : Int32 × xm_Y, xs_ (fun _ : Unit => none) sg_0 mt_X12_findLeast 165 [some (.ref 150), some (.int c1), none, none, none, none] [] q.2 0 0 (K q)) : ∀ (n : Nat) (l2 : Int32) (u0 : xm_Y), xs_ (fun _ : Unit => none) sg_0 mt_X12_findLeast 84 [some (.ref 150), some (.int c1), some (.int l2), none, none, none] [] u0 0 0 ((lp_X12_findLeast_84 m c1 n l2 u0).bind K) := by
  intro n
  induction n with
  | zero =>
    intro l2 u0
    exact xs_none
  | succ n ih =>
    intro l2 u0
    rw [lp_X12_findLeast_84]
    refine xs_iload_n (n := 85) dX12_findLeast_84 rfl rfl ?_
    refine xs_aload_n (n := 86) dX12_findLeast_85 rfl rfl ?_
    refine ys_geti (n := 89) dX12_findLeast_86 rfl fl_X12_185 (Or.inl rfl) sh_150 ?_
    refine xs_icmp_ge (n := 92) (tgt := 165) dX12_findLeast_89 rfl rfl (fun hc14 => ?_) (fun hc14 => ?_)
    · exact xs_gf (xs_end (kE (l2, u0))) (And.intro rfl (And.intro rfl trivial))
    · refine xs_aload_n (n := 93) dX12_findLeast_92 rfl rfl ?_
      refine xs_iload_n (n := 94) dX12_findLeast_93 rfl rfl ?_
      refine xs_iload_n (n := 95) dX12_findLeast_94 rfl rfl ?_
      refine ys_callvv (n := 98) (N := mt_X12_byTwo) dX12_findLeast_95 rfl ok_X12_byTwo tw_1182 im_X12_byTwo se_X12_byTwo ⟨Nat.le_of_ble_eq_true rfl, Nat.le_of_ble_eq_true rfl⟩ [.int c1, .int l2] [] rfl rfl (Nat.le_of_ble_eq_true rfl) rfl (Nat.le_of_ble_eq_true rfl) (en_X12_byTwo m c1 l2 u0) sh_150 (by decide) rfl (fun q15 => ?_)
      refine xs_iload_n (n := 99) dX12_findLeast_98 rfl rfl ?_
      refine xs_iconst (n := 100) (v := (1 : Int32)) dX12_findLeast_99 rfl rfl ?_
      refine xs_iadd (n := 101) dX12_findLeast_100 rfl ?_
      refine xs_leti (fun v16 => ?_)
      refine xs_istore_n (n := 102) (lv' := [some (.ref 150), some (.int c1), some (.int l2), some (.int v16), none, none]) dX12_findLeast_101 rfl (Nat.le_of_ble_eq_true rfl) rfl ?_
      refine xs_reg ?_
      refine xs_fg (lv' := [some (.ref 150), some (.int c1), some (.int l2), some (.int v16), none, none]) (And.intro rfl (And.intro rfl (And.intro rfl (And.intro rfl trivial)))) ?_
      refine el_X12_findLeast_102 m c1 l2 _ (fun q27 => ?_) m v16 q15.2
      refine xs_iincl (n := 162) (dv := (1 : Int32)) (fun v28 => [some (.ref 150), some (.int c1), some (.int v28), none, none, none]) dX12_findLeast_159 rfl rfl rfl (Nat.le_of_ble_eq_true rfl) (fun _ => rfl) (fun v28 => ?_)
      refine xs_goto (n := 84) dX12_findLeast_162 rfl ?_
      exact xs_gf (ih v28 q27.2) (And.intro rfl (And.intro rfl (And.intro rfl trivial)))
theorem el_X12_findLeast_67 (m : Nat) (K : Int32 × xm_Y → Option (Unit × xm_Y)) (kE : ∀ q : Int32 × xm_Y, xs_ (fun _ : Unit => none) sg_0 mt_X12_findLeast 171 [none, none, none, none, none, none] [] q.2 0 0 (K q)) : ∀ (n : Nat) (l1 : Int32) (u0 : xm_Y), xs_ (fun _ : Unit => none) sg_0 mt_X12_findLeast 67 [some (.ref 150), some (.int l1), none, none, none, none] [] u0 0 0 ((lp_X12_findLeast_67 m n l1 u0).bind K) := by
  intro n
  induction n with
  | zero =>
    intro l1 u0
    exact xs_none
  | succ n ih =>
    intro l1 u0
    rw [lp_X12_findLeast_67]
    refine xs_iload_n (n := 68) dX12_findLeast_67 rfl rfl ?_
    refine xs_aload_n (n := 69) dX12_findLeast_68 rfl rfl ?_
    refine ys_geti (n := 72) dX12_findLeast_69 rfl fl_X12_185 (Or.inl rfl) sh_150 ?_
    refine xs_icmp_ge (n := 75) (tgt := 171) dX12_findLeast_72 rfl rfl (fun hc11 => ?_) (fun hc11 => ?_)
    · exact xs_gf (xs_end (kE (l1, u0))) trivial
    · refine xs_aload_n (n := 76) dX12_findLeast_75 rfl rfl ?_
      refine xs_iload_n (n := 77) dX12_findLeast_76 rfl rfl ?_
      refine ys_callvv (n := 80) (N := mt_X12_byOne) dX12_findLeast_77 rfl ok_X12_byOne tw_1162 im_X12_byOne se_X12_byOne ⟨Nat.le_of_ble_eq_true rfl, Nat.le_of_ble_eq_true rfl⟩ [.int l1] [] rfl rfl (Nat.le_of_ble_eq_true rfl) rfl (Nat.le_of_ble_eq_true rfl) (en_X12_byOne m l1 u0) sh_150 (by decide) rfl (fun q12 => ?_)
      refine xs_iload_n (n := 81) dX12_findLeast_80 rfl rfl ?_
      refine xs_iconst (n := 82) (v := (1 : Int32)) dX12_findLeast_81 rfl rfl ?_
      refine xs_iadd (n := 83) dX12_findLeast_82 rfl ?_
      refine xs_leti (fun v13 => ?_)
      refine xs_istore_n (n := 84) (lv' := [some (.ref 150), some (.int l1), some (.int v13), none, none, none]) dX12_findLeast_83 rfl (Nat.le_of_ble_eq_true rfl) rfl ?_
      refine xs_reg ?_
      refine xs_fg (lv' := [some (.ref 150), some (.int l1), some (.int v13), none, none, none]) (And.intro rfl (And.intro rfl (And.intro rfl trivial))) ?_
      refine el_X12_findLeast_84 m l1 _ (fun q29 => ?_) m v13 q12.2
      refine xs_iincl (n := 168) (dv := (1 : Int32)) (fun v30 => [some (.ref 150), some (.int v30), none, none, none, none]) dX12_findLeast_165 rfl rfl rfl (Nat.le_of_ble_eq_true rfl) (fun _ => rfl) (fun v30 => ?_)
      refine xs_goto (n := 67) dX12_findLeast_168 rfl ?_
      exact xs_gf (ih v30 q29.2) (And.intro rfl (And.intro rfl trivial))
theorem en_X12_findLeast (m : Nat) (u0 : xm_Y) : xs_ (fun _ : Unit => none) sg_0 mt_X12_findLeast 0 [some (.ref 150), none, none, none, none, none] [] u0 0 0 (fn_X12_findLeast m u0) := by
  refine xs_top ?_
  rw [fn_X12_findLeast]
  refine xs_aload_n (n := 1) dX12_findLeast_0 rfl rfl ?_
  refine xs_aload_n (n := 2) dX12_findLeast_1 rfl rfl ?_
  refine ys_getr (n := 5) dX12_findLeast_2 rfl fl_X12_122 sh_150 rfl ?_
  refine xs_iconst (n := 6) (v := (0 : Int32)) dX12_findLeast_5 rfl rfl ?_
  refine ys_laload (n := 7) dX12_findLeast_6 rfl sh_181 ?_
  refine xs_lconst (n := 8) (v := (0 : Int64)) dX12_findLeast_7 rfl rfl ?_
  refine xs_join 39 (fun q1 => [some (.ref 150), none, none, none, none, none]) (fun q1 => [.int q1, .ref 150]) (fun q1 => u0) (fun q1 => ?_) (fun kj2 => ?_)
  · refine ys_putz (n := 42) dX12_findLeast_39 rfl fl_X12_240 rfl sh_150 (fun u6 => ?_)
    refine xs_aload_n (n := 43) dX12_findLeast_42 rfl rfl ?_
    refine xs_lconst (n := 44) (v := (0 : Int64)) dX12_findLeast_43 rfl rfl ?_
    refine ys_putl (n := 47) dX12_findLeast_44 rfl fl_X12_243 rfl sh_150 (fun u7 => ?_)
    refine xs_aload_n (n := 48) dX12_findLeast_47 rfl rfl ?_
    refine xs_lconst (n := 49) (v := (0 : Int64)) dX12_findLeast_48 rfl rfl ?_
    refine ys_putl (n := 52) dX12_findLeast_49 rfl fl_X12_247 rfl sh_150 (fun u8 => ?_)
    refine xs_aload_n (n := 53) dX12_findLeast_52 rfl rfl ?_
    refine xs_lconst (n := 54) (v := (1 : Int64)) dX12_findLeast_53 rfl rfl ?_
    refine ys_putl (n := 57) dX12_findLeast_54 rfl fl_X12_250 rfl sh_150 (fun u9 => ?_)
    refine xs_aload_n (n := 58) dX12_findLeast_57 rfl rfl ?_
    refine ys_geti (n := 61) dX12_findLeast_58 rfl fl_X12_240 (Or.inr rfl) sh_150 ?_
    refine xs_if_eq (n := 64) (tgt := 65) dX12_findLeast_61 rfl rfl (fun hc10 => ?_) (fun hc10 => ?_)
    · refine xs_iconst (n := 66) (v := (0 : Int32)) dX12_findLeast_65 rfl rfl ?_
      refine xs_istore_n (n := 67) (lv' := [some (.ref 150), some (.int (0 : Int32)), none, none, none, none]) dX12_findLeast_66 rfl (Nat.le_of_ble_eq_true rfl) rfl ?_
      refine xs_reg ?_
      refine xs_fg (lv' := [some (.ref 150), some (.int (0 : Int32)), none, none, none, none]) (And.intro rfl (And.intro rfl trivial)) ?_
      refine el_X12_findLeast_67 m _ (fun q31 => ?_) m (0 : Int32) u9
      exact xs_vret dX12_findLeast_171 rfl rfl
    · exact xs_vret dX12_findLeast_64 rfl rfl
  · refine xs_lif_ne (n := 12) (pc1 := 9) (tgt := 38) dX12_findLeast_8 rfl dX12_findLeast_9 rfl rfl (fun hc3 => ?_) (fun hc3 => ?_)
    · refine xs_aload_n (n := 13) dX12_findLeast_12 rfl rfl ?_
      refine ys_getr (n := 16) dX12_findLeast_13 rfl fl_X12_122 sh_150 rfl ?_
      refine xs_iconst (n := 17) (v := (1 : Int32)) dX12_findLeast_16 rfl rfl ?_
      refine ys_laload (n := 18) dX12_findLeast_17 rfl sh_181 ?_
      refine xs_lconst (n := 19) (v := (0 : Int64)) dX12_findLeast_18 rfl rfl ?_
      refine xs_lif_ne (n := 23) (pc1 := 20) (tgt := 38) dX12_findLeast_19 rfl dX12_findLeast_20 rfl rfl (fun hc4 => ?_) (fun hc4 => ?_)
      · refine xs_aload_n (n := 24) dX12_findLeast_23 rfl rfl ?_
        refine ys_getr (n := 27) dX12_findLeast_24 rfl fl_X12_122 sh_150 rfl ?_
        refine xs_iconst (n := 28) (v := (2 : Int32)) dX12_findLeast_27 rfl rfl ?_
        refine ys_laload (n := 29) dX12_findLeast_28 rfl sh_181 ?_
        refine xs_lconst (n := 30) (v := (0 : Int64)) dX12_findLeast_29 rfl rfl ?_
        refine xs_lif_ne (n := 34) (pc1 := 31) (tgt := 38) dX12_findLeast_30 rfl dX12_findLeast_31 rfl rfl (fun hc5 => ?_) (fun hc5 => ?_)
        · refine xs_iconst (n := 35) (v := (1 : Int32)) dX12_findLeast_34 rfl rfl ?_
          refine xs_goto (n := 39) dX12_findLeast_35 rfl ?_
          exact xs_gf (xs_end (kj2 ((1 : Int32)))) (And.intro rfl trivial)
        · refine xs_iconst (n := 39) (v := (0 : Int32)) dX12_findLeast_38 rfl rfl ?_
          exact xs_gf (xs_end (kj2 ((0 : Int32)))) (And.intro rfl trivial)
      · refine xs_iconst (n := 39) (v := (0 : Int32)) dX12_findLeast_38 rfl rfl ?_
        exact xs_gf (xs_end (kj2 ((0 : Int32)))) (And.intro rfl trivial)
    · refine xs_iconst (n := 39) (v := (0 : Int32)) dX12_findLeast_38 rfl rfl ?_
      exact xs_gf (xs_end (kj2 ((0 : Int32)))) (And.intro rfl trivial)
def fn_X12_isLeastAtLeast (m : Nat) (x0 : Int64) (u0 : xm_Y) : Option (Int32 × xm_Y) :=
  ((if (u0.1 150 16) = 0 then (
  some ((0 : Int32), u0)) else (
  ((fn_J9_floorDiv_f86c9 m (x0 * (u0.2 150 15)) (1000000 : Int64) u0).bind fun q4 =>
  ((fn_J9_floorMod_f86c9 m (x0 * (q4.2.2 150 15)) (1000000 : Int64) q4.2).bind fun q5 =>
  ((fn_X12_isAbove m (0 : Int64) (0 : Int64) (1 : Int64) ((u0.2 150 13) - q4.1) ((q4.2.2 150 14) - q5.1) (1 : Int64) q5.2).bind fun q6 =>
  if q6.1 = 0 then (
  some ((1 : Int32), q6.2)) else (
  some ((0 : Int32), q6.2)))))) : Option (Int32 × xm_Y)).bind fun q1 =>
  xm_chk (q1.1 = 0 ∨ q1.1 = 1) (some (q1.1, q1.2)))
theorem en_X12_isLeastAtLeast (m : Nat) (x0 : Int64) (u0 : xm_Y) : xs_ (fun x : Int32 => some (.int x)) sg_0 mt_X12_isLeastAtLeast 0 [some (.ref 150), some (.long x0), none] [] u0 0 0 (fn_X12_isLeastAtLeast m x0 u0) := by
  refine xs_top ?_
  rw [fn_X12_isLeastAtLeast]
  refine xs_aload_n (n := 1) dX12_isLeastAtLeast_0 rfl rfl ?_
  refine ys_geti (n := 4) dX12_isLeastAtLeast_1 rfl fl_X12_240 (Or.inr rfl) sh_150 ?_
  refine xs_join 56 (fun q1 => [none, none, none]) (fun q1 => [.int q1.1]) (fun q1 => q1.2) (fun q1 => ?_) (fun kj2 => ?_)
  · exact xs_zret dX12_isLeastAtLeast_56 rfl rfl
  · refine xs_if_eq (n := 7) (tgt := 55) dX12_isLeastAtLeast_4 rfl rfl (fun hc3 => ?_) (fun hc3 => ?_)
    · refine xs_iconst (n := 56) (v := (0 : Int32)) dX12_isLeastAtLeast_55 rfl rfl ?_
      exact xs_gf (xs_end (kj2 ((0 : Int32), u0))) trivial
    · refine xs_lconst (n := 8) (v := (0 : Int64)) dX12_isLeastAtLeast_7 rfl rfl ?_
      refine xs_lconst (n := 9) (v := (0 : Int64)) dX12_isLeastAtLeast_8 rfl rfl ?_
      refine xs_lconst (n := 10) (v := (1 : Int64)) dX12_isLeastAtLeast_9 rfl rfl ?_
      refine xs_aload_n (n := 11) dX12_isLeastAtLeast_10 rfl rfl ?_
      refine ys_getl (n := 14) dX12_isLeastAtLeast_11 rfl fl_X12_243 sh_150 ?_
      refine xs_lload_n (n := 15) dX12_isLeastAtLeast_14 rfl rfl ?_
      refine xs_aload_n (n := 16) dX12_isLeastAtLeast_15 rfl rfl ?_
      refine ys_getl (n := 19) dX12_isLeastAtLeast_16 rfl fl_X12_250 sh_150 ?_
      refine xs_lmul (n := 20) dX12_isLeastAtLeast_19 rfl ?_
      refine xs_ldc2 (n := 23) (v := (1000000 : Int64)) dX12_isLeastAtLeast_20 rfl tw_1174 ?_
      refine ys_callsl (n := 26) (N := mt_J9_floorDiv_f86c9) dX12_isLeastAtLeast_23 rfl ok_J9_floorDiv_f86c9 tw_1175 st_J9_floorDiv_f86c9 ⟨Nat.le_of_ble_eq_true rfl, Nat.le_of_ble_eq_true rfl⟩ [.long (x0 * (u0.2 150 15)), .long (1000000 : Int64)] [.long (u0.2 150 13), .long (1 : Int64), .long (0 : Int64), .long (0 : Int64)] rfl rfl (Nat.le_of_ble_eq_true rfl) rfl (Nat.le_of_ble_eq_true rfl) (en_J9_floorDiv_f86c9 m (x0 * (u0.2 150 15)) (1000000 : Int64) u0) (fun q4 => ?_)
      refine xs_lsub (n := 27) dX12_isLeastAtLeast_26 rfl ?_
      refine xs_aload_n (n := 28) dX12_isLeastAtLeast_27 rfl rfl ?_
      refine ys_getl (n := 31) dX12_isLeastAtLeast_28 rfl fl_X12_247 sh_150 ?_
      refine xs_lload_n (n := 32) dX12_isLeastAtLeast_31 rfl rfl ?_
      refine xs_aload_n (n := 33) dX12_isLeastAtLeast_32 rfl rfl ?_
      refine ys_getl (n := 36) dX12_isLeastAtLeast_33 rfl fl_X12_250 sh_150 ?_
      refine xs_lmul (n := 37) dX12_isLeastAtLeast_36 rfl ?_
      refine xs_ldc2 (n := 40) (v := (1000000 : Int64)) dX12_isLeastAtLeast_37 rfl tw_1174 ?_
      refine ys_callslw (n := 43) (N := mt_J9_floorMod_f86c9) 16 dX12_isLeastAtLeast_40 rfl ok_J9_floorMod_f86c9 tw_1176 st_J9_floorMod_f86c9 ⟨Nat.le_of_ble_eq_true rfl, Nat.le_of_ble_eq_true rfl⟩ [.long (x0 * (q4.2.2 150 15)), .long (1000000 : Int64)] [.long (q4.2.2 150 14), .long ((u0.2 150 13) - q4.1), .long (1 : Int64), .long (0 : Int64), .long (0 : Int64)] rfl rfl (Nat.le_of_ble_eq_true rfl) rfl (Nat.le_of_ble_eq_true rfl) (en_J9_floorMod_f86c9 m (x0 * (q4.2.2 150 15)) (1000000 : Int64) q4.2) (fun q5 => ?_)
      refine xs_lsub (n := 44) dX12_isLeastAtLeast_43 rfl ?_
      refine xs_lconst (n := 45) (v := (1 : Int64)) dX12_isLeastAtLeast_44 rfl rfl ?_
      refine ys_callsi (n := 48) (N := mt_X12_isAbove) dX12_isLeastAtLeast_45 rfl ok_X12_isAbove tw_1179 st_X12_isAbove ⟨Nat.le_of_ble_eq_true rfl, Nat.le_of_ble_eq_true rfl⟩ [.long (0 : Int64), .long (0 : Int64), .long (1 : Int64), .long ((u0.2 150 13) - q4.1), .long ((q4.2.2 150 14) - q5.1), .long (1 : Int64)] [] rfl rfl (Nat.le_of_ble_eq_true rfl) rfl (Nat.le_of_ble_eq_true rfl) (en_X12_isAbove m (0 : Int64) (0 : Int64) (1 : Int64) ((u0.2 150 13) - q4.1) ((q4.2.2 150 14) - q5.1) (1 : Int64) q5.2) (fun q6 => ?_)
      refine xs_if_ne (n := 51) (tgt := 55) dX12_isLeastAtLeast_48 rfl rfl (fun hc7 => ?_) (fun hc7 => ?_)
      · refine xs_iconst (n := 52) (v := (1 : Int32)) dX12_isLeastAtLeast_51 rfl rfl ?_
        refine xs_goto (n := 56) dX12_isLeastAtLeast_52 rfl ?_
        exact xs_gf (xs_end (kj2 ((1 : Int32), q6.2))) trivial
      · refine xs_iconst (n := 56) (v := (0 : Int32)) dX12_isLeastAtLeast_55 rfl rfl ?_
        exact xs_gf (xs_end (kj2 ((0 : Int32), q6.2))) trivial
def lp_X12_isSum_6 (m : Nat) (c1 : Int32) (c2 : Int32) (c3 : Int32) (u0 : xm_Y) : Nat → Int32 → Int32 → Option (Int32 × Int32)
  | 0, _, _ => none
  | n + 1, l4, l5 =>
  if (3 : Int32) ≤ l5 then (
  some (l4, l5)) else (
  ((if l5 = 0 then (
  some (c1)) else (
  if l5 = (1 : Int32) then (
  some (c2)) else (
  some (c3))) : Option (Int32)).bind fun q2 =>
  ((if l4 = 0 then (
  some ((0 : Int32))) else (
  if q2 < (-100 : Int32) then (
  some ((0 : Int32))) else (
  if (100 : Int32) < q2 then (
  some ((0 : Int32))) else (
  if l5 < (u0.1 150 0) then (
  some ((1 : Int32))) else (
  if q2 = 0 then (
  some ((1 : Int32))) else (
  some ((0 : Int32))))))) : Option (Int32)).bind fun q6 =>
  xm_let (α := Int32) (l5 + (1 : Int32)) fun v13 =>
  lp_X12_isSum_6 m c1 c2 c3 u0 n q6 v13)))
def fn_X12_isSum (m : Nat) (x0 : Int32) (x1 : Int32) (x2 : Int32) (u0 : xm_Y) : Option (Int32 × xm_Y) :=
  ((lp_X12_isSum_6 m x0 x1 x2 u0 m (1 : Int32) (0 : Int32)).bind fun q14 =>
  xm_chk (q14.1 = 0 ∨ q14.1 = 1) (some (q14.1, u0)))
theorem el_X12_isSum_6 (m : Nat) (c1 : Int32) (c2 : Int32) (c3 : Int32) (u0 : xm_Y) (K : Int32 × Int32 → Option (Int32 × xm_Y)) (kE : ∀ q : Int32 × Int32, xs_ (fun x : Int32 => some (.int x)) sg_0 mt_X12_isSum 80 [none, none, none, none, some (.int q.1), none, none] [] u0 0 0 (K q)) : ∀ (n : Nat) (l4 : Int32) (l5 : Int32), xs_ (fun x : Int32 => some (.int x)) sg_0 mt_X12_isSum 6 [some (.ref 150), some (.int c1), some (.int c2), some (.int c3), some (.int l4), some (.int l5), none] [] u0 0 0 ((lp_X12_isSum_6 m c1 c2 c3 u0 n l4 l5).bind K) := by
  intro n
  induction n with
  | zero =>
    intro l4 l5
    exact xs_none
  | succ n ih =>
    intro l4 l5
    rw [lp_X12_isSum_6]
    refine xs_iload (n := 8) dX12_isSum_6 rfl rfl ?_
    refine xs_iconst (n := 9) (v := (3 : Int32)) dX12_isSum_8 rfl rfl ?_
    refine xs_icmp_ge (n := 12) (tgt := 80) dX12_isSum_9 rfl rfl (fun hc1 => ?_) (fun hc1 => ?_)
    · exact xs_gf (xs_end (kE (l4, l5))) (And.intro rfl trivial)
    · refine xs_iload (n := 14) dX12_isSum_12 rfl rfl ?_
      refine xs_join 32 (fun q2 => [some (.ref 150), some (.int c1), some (.int c2), some (.int c3), some (.int l4), some (.int l5), none]) (fun q2 => [.int q2]) (fun q2 => u0) (fun q2 => ?_) (fun kj3 => ?_)
      · refine xs_istore (n := 34) (lv' := [some (.ref 150), some (.int c1), some (.int c2), some (.int c3), some (.int l4), some (.int l5), some (.int q2)]) dX12_isSum_32 rfl (Nat.le_of_ble_eq_true rfl) rfl ?_
        refine xs_iload (n := 36) dX12_isSum_34 rfl rfl ?_
        refine xs_join 72 (fun q6 => [some (.ref 150), some (.int c1), some (.int c2), some (.int c3), none, some (.int l5), none]) (fun q6 => [.int q6]) (fun q6 => u0) (fun q6 => ?_) (fun kj7 => ?_)
        · refine xs_istore (n := 74) (lv' := [some (.ref 150), some (.int c1), some (.int c2), some (.int c3), some (.int q6), some (.int l5), none]) dX12_isSum_72 rfl (Nat.le_of_ble_eq_true rfl) rfl ?_
          refine xs_iincl (n := 77) (dv := (1 : Int32)) (fun v13 => [some (.ref 150), some (.int c1), some (.int c2), some (.int c3), some (.int q6), some (.int v13), none]) dX12_isSum_74 rfl rfl rfl (Nat.le_of_ble_eq_true rfl) (fun _ => rfl) (fun v13 => ?_)
          refine xs_goto (n := 6) dX12_isSum_77 rfl ?_
          exact xs_gf (ih q6 v13) (And.intro rfl (And.intro rfl (And.intro rfl (And.intro rfl (And.intro rfl (And.intro rfl trivial))))))
        · refine xs_if_eq (n := 39) (tgt := 71) dX12_isSum_36 rfl rfl (fun hc8 => ?_) (fun hc8 => ?_)
          · refine xs_iconst (n := 72) (v := (0 : Int32)) dX12_isSum_71 rfl rfl ?_
            exact xs_gf (xs_end (kj7 ((0 : Int32)))) (And.intro rfl (And.intro rfl (And.intro rfl (And.intro rfl (And.intro rfl trivial)))))
          · refine xs_iload (n := 41) dX12_isSum_39 rfl rfl ?_
            refine xs_bipush (n := 43) (v := (-100 : Int32)) dX12_isSum_41 rfl rfl ?_
            refine xs_icmp_lt (n := 46) (tgt := 71) dX12_isSum_43 rfl rfl (fun hc9 => ?_) (fun hc9 => ?_)
            · refine xs_iconst (n := 72) (v := (0 : Int32)) dX12_isSum_71 rfl rfl ?_
              exact xs_gf (xs_end (kj7 ((0 : Int32)))) (And.intro rfl (And.intro rfl (And.intro rfl (And.intro rfl (And.intro rfl trivial)))))
            · refine xs_iload (n := 48) dX12_isSum_46 rfl rfl ?_
              refine xs_bipush (n := 50) (v := (100 : Int32)) dX12_isSum_48 rfl rfl ?_
              refine xs_icmp_gt (n := 53) (tgt := 71) dX12_isSum_50 rfl rfl (fun hc10 => ?_) (fun hc10 => ?_)
              · refine xs_iconst (n := 72) (v := (0 : Int32)) dX12_isSum_71 rfl rfl ?_
                exact xs_gf (xs_end (kj7 ((0 : Int32)))) (And.intro rfl (And.intro rfl (And.intro rfl (And.intro rfl (And.intro rfl trivial)))))
              · refine xs_iload (n := 55) dX12_isSum_53 rfl rfl ?_
                refine xs_aload_n (n := 56) dX12_isSum_55 rfl rfl ?_
                refine ys_geti (n := 59) dX12_isSum_56 rfl fl_X12_7 (Or.inl rfl) sh_150 ?_
                refine xs_icmp_lt (n := 62) (tgt := 67) dX12_isSum_59 rfl rfl (fun hc11 => ?_) (fun hc11 => ?_)
                · refine xs_iconst (n := 68) (v := (1 : Int32)) dX12_isSum_67 rfl rfl ?_
                  refine xs_goto (n := 72) dX12_isSum_68 rfl ?_
                  exact xs_gf (xs_end (kj7 ((1 : Int32)))) (And.intro rfl (And.intro rfl (And.intro rfl (And.intro rfl (And.intro rfl trivial)))))
                · refine xs_iload (n := 64) dX12_isSum_62 rfl rfl ?_
                  refine xs_if_ne (n := 67) (tgt := 71) dX12_isSum_64 rfl rfl (fun hc12 => ?_) (fun hc12 => ?_)
                  · refine xs_iconst (n := 68) (v := (1 : Int32)) dX12_isSum_67 rfl rfl ?_
                    refine xs_goto (n := 72) dX12_isSum_68 rfl ?_
                    exact xs_gf (xs_end (kj7 ((1 : Int32)))) (And.intro rfl (And.intro rfl (And.intro rfl (And.intro rfl (And.intro rfl trivial)))))
                  · refine xs_iconst (n := 72) (v := (0 : Int32)) dX12_isSum_71 rfl rfl ?_
                    exact xs_gf (xs_end (kj7 ((0 : Int32)))) (And.intro rfl (And.intro rfl (And.intro rfl (And.intro rfl (And.intro rfl trivial)))))
      · refine xs_if_ne (n := 17) (tgt := 21) dX12_isSum_14 rfl rfl (fun hc4 => ?_) (fun hc4 => ?_)
        · refine xs_iload_n (n := 18) dX12_isSum_17 rfl rfl ?_
          refine xs_goto (n := 32) dX12_isSum_18 rfl ?_
          exact xs_gf (xs_end (kj3 (c1))) (And.intro rfl (And.intro rfl (And.intro rfl (And.intro rfl (And.intro rfl (And.intro rfl trivial))))))
        · refine xs_iload (n := 23) dX12_isSum_21 rfl rfl ?_
          refine xs_iconst (n := 24) (v := (1 : Int32)) dX12_isSum_23 rfl rfl ?_
          refine xs_icmp_ne (n := 27) (tgt := 31) dX12_isSum_24 rfl rfl (fun hc5 => ?_) (fun hc5 => ?_)
          · refine xs_iload_n (n := 28) dX12_isSum_27 rfl rfl ?_
            refine xs_goto (n := 32) dX12_isSum_28 rfl ?_
            exact xs_gf (xs_end (kj3 (c2))) (And.intro rfl (And.intro rfl (And.intro rfl (And.intro rfl (And.intro rfl (And.intro rfl trivial))))))
          · refine xs_iload_n (n := 32) dX12_isSum_31 rfl rfl ?_
            exact xs_gf (xs_end (kj3 (c3))) (And.intro rfl (And.intro rfl (And.intro rfl (And.intro rfl (And.intro rfl (And.intro rfl trivial))))))
theorem en_X12_isSum (m : Nat) (x0 : Int32) (x1 : Int32) (x2 : Int32) (u0 : xm_Y) : xs_ (fun x : Int32 => some (.int x)) sg_0 mt_X12_isSum 0 [some (.ref 150), some (.int x0), some (.int x1), some (.int x2), none, none, none] [] u0 0 0 (fn_X12_isSum m x0 x1 x2 u0) := by
  refine xs_top ?_
  rw [fn_X12_isSum]
  refine xs_iconst (n := 1) (v := (1 : Int32)) dX12_isSum_0 rfl rfl ?_
  refine xs_istore (n := 3) (lv' := [some (.ref 150), some (.int x0), some (.int x1), some (.int x2), some (.int (1 : Int32)), none, none]) dX12_isSum_1 rfl (Nat.le_of_ble_eq_true rfl) rfl ?_
  refine xs_iconst (n := 4) (v := (0 : Int32)) dX12_isSum_3 rfl rfl ?_
  refine xs_istore (n := 6) (lv' := [some (.ref 150), some (.int x0), some (.int x1), some (.int x2), some (.int (1 : Int32)), some (.int (0 : Int32)), none]) dX12_isSum_4 rfl (Nat.le_of_ble_eq_true rfl) rfl ?_
  refine xs_reg ?_
  refine xs_fg (lv' := [some (.ref 150), some (.int x0), some (.int x1), some (.int x2), some (.int (1 : Int32)), some (.int (0 : Int32)), none]) (And.intro rfl (And.intro rfl (And.intro rfl (And.intro rfl (And.intro rfl (And.intro rfl trivial)))))) ?_
  refine el_X12_isSum_6 m x0 x1 x2 u0 _ (fun q14 => ?_) m (1 : Int32) (0 : Int32)
  refine xs_iload (n := 82) dX12_isSum_80 rfl rfl ?_
  exact xs_zret dX12_isSum_82 rfl rfl
def lp_X12_tellsOf_109 (m : Nat) (c9 : Int32) (c10 : Int32) : Nat → Int32 → xm_Y → Option (Int32 × xm_Y)
  | 0, _, _ => none
  | n + 1, l11, u0 =>
  if (3 : Int32) ≤ l11 then (
  some (l11, u0)) else (
  xm_chk (xm_in l11 3) (
  xm_chk (xm_in (c10 + l11) 60) (
  xm_chk (xm_in l11 3) (xm_let (w_J u0 181 (Int32.toNatClampNeg l11) ((u0.2 181 (Int32.toNatClampNeg l11)) - ((Int32.toInt64 c9) * (Int32.toInt64 (u0.1 153 (Int32.toNatClampNeg (c10 + l11))))))) fun u17 =>
  xm_let (α := Int32) (l11 + (1 : Int32)) fun v18 =>
  lp_X12_tellsOf_109 m c9 c10 n v18 u17))))
def lp_X12_tellsOf_64 (m : Nat) (c1 : Int32) (c2 : Int32) (c3 : Int32) (c4 : Int32) : Nat → Int64 → Int32 → xm_Y → Option (Int64 × Int32 × xm_Y)
  | 0, _, _, _ => none
  | n + 1, l6, l8, u0 =>
  if (u0.1 150 0) ≤ l8 then (
  some (l6, l8, u0)) else (
  ((if l8 = 0 then (
  some (c2)) else (
  if l8 = (1 : Int32) then (
  some (c3)) else (
  some (c4))) : Option (Int32)).bind fun q11 =>
  xm_let (α := Int32) (((((3 : Int32) * c1) + l8) * (4 : Int32))) fun v15 =>
  ((lp_X12_tellsOf_109 m q11 v15 m (0 : Int32) u0).bind fun q19 =>
  xm_chk (xm_in (v15 + (3 : Int32)) 60) (
  xm_let (α := Int64) ((l6 + ((Int32.toInt64 q11) * (Int32.toInt64 (q19.2.1 153 (Int32.toNatClampNeg (v15 + (3 : Int32)))))))) fun v20 =>
  xm_let (α := Int32) (l8 + (1 : Int32)) fun v21 =>
  lp_X12_tellsOf_64 m c1 c2 c3 c4 n v20 v21 q19.2))))
def fn_X12_tellsOf (m : Nat) (x0 : Int32) (x1 : Int32) (x2 : Int32) (x3 : Int32) (u0 : xm_Y) : Option (Int32 × xm_Y) :=
  ((fn_X12_laySides m x0 u0).bind fun q1 =>
  if (q1.2.1 150 17) = 0 then (
  xm_chk (xm_in (0 : Int32) 3) (xm_let (w_J q1.2 181 (Int32.toNatClampNeg (0 : Int32)) (Int32.toInt64 x1)) fun u3 =>
  xm_chk (xm_in (1 : Int32) 3) (xm_let (w_J u3 181 (Int32.toNatClampNeg (1 : Int32)) (Int32.toInt64 x2)) fun u4 =>
  xm_chk (xm_in (2 : Int32) 3) (xm_let (w_J u4 181 (Int32.toNatClampNeg (2 : Int32)) (Int32.toInt64 x3)) fun u5 =>
  ((fn_X12_findLeast m u5).bind fun q6 =>
  ((if (q6.2.1 150 16) = 0 then (
  some ((0 : Int32))) else (
  some ((4 : Int32))) : Option (Int32)).bind fun q7 =>
  ((lp_X12_tellsOf_64 m x0 x1 x2 x3 m (0 : Int64) (0 : Int32) q6.2).bind fun q22 =>
  ((fn_X12_findLeast m q22.2.2).bind fun q23 =>
  ((fn_X12_isLeastAtLeast m ((1 : Int64) + q22.1) q23.2).bind fun q24 =>
  ((if q24.1 = 0 then (
  some ((0 : Int32))) else (
  some ((2 : Int32))) : Option (Int32)).bind fun q25 =>
  xm_let (α := Int32) ((q7 + q25)) fun v28 =>
  ((fn_X12_isLeastAtLeast m q22.1 q24.2).bind fun q29 =>
  ((if q29.1 = 0 then (
  some ((0 : Int32))) else (
  some ((1 : Int32))) : Option (Int32)).bind fun q30 =>
  some ((v28 + q30), q29.2))))))))))))) else (
  some ((7 : Int32), q1.2)))
theorem el_X12_tellsOf_109 (m : Nat) (c9 : Int32) (c10 : Int32) (c1 : Int32) (c2 : Int32) (c3 : Int32) (c4 : Int32) (c5 : Int32) (c6 : Int64) (c8 : Int32) (K : Int32 × xm_Y → Option (Int32 × xm_Y)) (kE : ∀ q : Int32 × xm_Y, xs_ (fun x : Int32 => some (.int x)) sg_0 mt_X12_tellsOf 146 [some (.ref 150), some (.int c1), some (.int c2), some (.int c3), some (.int c4), some (.int c5), some (.long c6), none, some (.int c8), some (.int c9), some (.int c10), none] [] q.2 0 0 (K q)) : ∀ (n : Nat) (l11 : Int32) (u0 : xm_Y), xs_ (fun x : Int32 => some (.int x)) sg_0 mt_X12_tellsOf 109 [some (.ref 150), some (.int c1), some (.int c2), some (.int c3), some (.int c4), some (.int c5), some (.long c6), none, some (.int c8), some (.int c9), some (.int c10), some (.int l11)] [] u0 0 0 ((lp_X12_tellsOf_109 m c9 c10 n l11 u0).bind K) := by
  intro n
  induction n with
  | zero =>
    intro l11 u0
    exact xs_none
  | succ n ih =>
    intro l11 u0
    rw [lp_X12_tellsOf_109]
    refine xs_iload (n := 111) dX12_tellsOf_109 rfl rfl ?_
    refine xs_iconst (n := 112) (v := (3 : Int32)) dX12_tellsOf_111 rfl rfl ?_
    refine xs_icmp_ge (n := 115) (tgt := 146) dX12_tellsOf_112 rfl rfl (fun hc16 => ?_) (fun hc16 => ?_)
    · exact xs_gf (xs_end (kE (l11, u0))) (And.intro rfl (And.intro rfl (And.intro rfl (And.intro rfl (And.intro rfl (And.intro rfl (And.intro rfl (And.intro rfl (And.intro rfl (And.intro rfl trivial))))))))))
    · refine xs_aload_n (n := 116) dX12_tellsOf_115 rfl rfl ?_
      refine ys_getr (n := 119) dX12_tellsOf_116 rfl fl_X12_122 sh_150 rfl ?_
      refine xs_iload (n := 121) dX12_tellsOf_119 rfl rfl ?_
      refine xs_dup2_11 (n := 122) dX12_tellsOf_121 rfl rfl rfl ?_
      refine ys_laload (n := 123) dX12_tellsOf_122 rfl sh_181 ?_
      refine xs_iload (n := 125) dX12_tellsOf_123 rfl rfl ?_
      refine xs_i2l (n := 126) dX12_tellsOf_125 rfl ?_
      refine xs_aload_n (n := 127) dX12_tellsOf_126 rfl rfl ?_
      refine ys_getr (n := 130) dX12_tellsOf_127 rfl fl_X12_20 sh_150 rfl ?_
      refine xs_iload (n := 132) dX12_tellsOf_130 rfl rfl ?_
      refine xs_iload (n := 134) dX12_tellsOf_132 rfl rfl ?_
      refine xs_iadd (n := 135) dX12_tellsOf_134 rfl ?_
      refine ys_iaload (n := 136) dX12_tellsOf_135 rfl sh_153 ?_
      refine xs_i2l (n := 137) dX12_tellsOf_136 rfl ?_
      refine xs_lmul (n := 138) dX12_tellsOf_137 rfl ?_
      refine xs_lsub (n := 139) dX12_tellsOf_138 rfl ?_
      refine ys_lastore (n := 140) dX12_tellsOf_139 rfl sh_181 (fun u17 => ?_)
      refine xs_iincl (n := 143) (dv := (1 : Int32)) (fun v18 => [some (.ref 150), some (.int c1), some (.int c2), some (.int c3), some (.int c4), some (.int c5), some (.long c6), none, some (.int c8), some (.int c9), some (.int c10), some (.int v18)]) dX12_tellsOf_140 rfl rfl rfl (Nat.le_of_ble_eq_true rfl) (fun _ => rfl) (fun v18 => ?_)
      refine xs_goto (n := 109) dX12_tellsOf_143 rfl ?_
      exact xs_gf (ih v18 u17) (And.intro rfl (And.intro rfl (And.intro rfl (And.intro rfl (And.intro rfl (And.intro rfl (And.intro rfl (And.intro rfl (And.intro rfl (And.intro rfl (And.intro rfl trivial)))))))))))
theorem el_X12_tellsOf_64 (m : Nat) (c1 : Int32) (c2 : Int32) (c3 : Int32) (c4 : Int32) (c5 : Int32) (K : Int64 × Int32 × xm_Y → Option (Int32 × xm_Y)) (kE : ∀ q : Int64 × Int32 × xm_Y, xs_ (fun x : Int32 => some (.int x)) sg_0 mt_X12_tellsOf 171 [some (.ref 150), none, none, none, none, some (.int c5), some (.long q.1), none, none, none, none, none] [] q.2.2 0 0 (K q)) : ∀ (n : Nat) (l6 : Int64) (l8 : Int32) (u0 : xm_Y), xs_ (fun x : Int32 => some (.int x)) sg_0 mt_X12_tellsOf 64 [some (.ref 150), some (.int c1), some (.int c2), some (.int c3), some (.int c4), some (.int c5), some (.long l6), none, some (.int l8), none, none, none] [] u0 0 0 ((lp_X12_tellsOf_64 m c1 c2 c3 c4 n l6 l8 u0).bind K) := by
  intro n
  induction n with
  | zero =>
    intro l6 l8 u0
    exact xs_none
  | succ n ih =>
    intro l6 l8 u0
    rw [lp_X12_tellsOf_64]
    refine xs_iload (n := 66) dX12_tellsOf_64 rfl rfl ?_
    refine xs_aload_n (n := 67) dX12_tellsOf_66 rfl rfl ?_
    refine ys_geti (n := 70) dX12_tellsOf_67 rfl fl_X12_7 (Or.inl rfl) sh_150 ?_
    refine xs_icmp_ge (n := 73) (tgt := 171) dX12_tellsOf_70 rfl rfl (fun hc10 => ?_) (fun hc10 => ?_)
    · exact xs_gf (xs_end (kE (l6, l8, u0))) (And.intro rfl (And.intro rfl (And.intro rfl trivial)))
    · refine xs_iload (n := 75) dX12_tellsOf_73 rfl rfl ?_
      refine xs_join 94 (fun q11 => [some (.ref 150), some (.int c1), some (.int c2), some (.int c3), some (.int c4), some (.int c5), some (.long l6), none, some (.int l8), none, none, none]) (fun q11 => [.int q11]) (fun q11 => u0) (fun q11 => ?_) (fun kj12 => ?_)
      · refine xs_istore (n := 96) (lv' := [some (.ref 150), some (.int c1), some (.int c2), some (.int c3), some (.int c4), some (.int c5), some (.long l6), none, some (.int l8), some (.int q11), none, none]) dX12_tellsOf_94 rfl (Nat.le_of_ble_eq_true rfl) rfl ?_
        refine xs_iconst (n := 97) (v := (3 : Int32)) dX12_tellsOf_96 rfl rfl ?_
        refine xs_iload_n (n := 98) dX12_tellsOf_97 rfl rfl ?_
        refine xs_imul (n := 99) dX12_tellsOf_98 rfl ?_
        refine xs_iload (n := 101) dX12_tellsOf_99 rfl rfl ?_
        refine xs_iadd (n := 102) dX12_tellsOf_101 rfl ?_
        refine xs_iconst (n := 103) (v := (4 : Int32)) dX12_tellsOf_102 rfl rfl ?_
        refine xs_imul (n := 104) dX12_tellsOf_103 rfl ?_
        refine xs_leti (fun v15 => ?_)
        refine xs_istore (n := 106) (lv' := [some (.ref 150), some (.int c1), some (.int c2), some (.int c3), some (.int c4), some (.int c5), some (.long l6), none, some (.int l8), some (.int q11), some (.int v15), none]) dX12_tellsOf_104 rfl (Nat.le_of_ble_eq_true rfl) rfl ?_
        refine xs_iconst (n := 107) (v := (0 : Int32)) dX12_tellsOf_106 rfl rfl ?_
        refine xs_istore (n := 109) (lv' := [some (.ref 150), some (.int c1), some (.int c2), some (.int c3), some (.int c4), some (.int c5), some (.long l6), none, some (.int l8), some (.int q11), some (.int v15), some (.int (0 : Int32))]) dX12_tellsOf_107 rfl (Nat.le_of_ble_eq_true rfl) rfl ?_
        refine xs_reg ?_
        refine xs_fg (lv' := [some (.ref 150), some (.int c1), some (.int c2), some (.int c3), some (.int c4), some (.int c5), some (.long l6), none, some (.int l8), some (.int q11), some (.int v15), some (.int (0 : Int32))]) (And.intro rfl (And.intro rfl (And.intro rfl (And.intro rfl (And.intro rfl (And.intro rfl (And.intro rfl (And.intro rfl (And.intro rfl (And.intro rfl (And.intro rfl trivial))))))))))) ?_
        refine el_X12_tellsOf_109 m q11 v15 c1 c2 c3 c4 c5 l6 l8 _ (fun q19 => ?_) m (0 : Int32) u0
        refine xs_lload (n := 148) dX12_tellsOf_146 rfl rfl ?_
        refine xs_iload (n := 150) dX12_tellsOf_148 rfl rfl ?_
        refine xs_i2l (n := 151) dX12_tellsOf_150 rfl ?_
        refine xs_aload_n (n := 152) dX12_tellsOf_151 rfl rfl ?_
        refine ys_getr (n := 155) dX12_tellsOf_152 rfl fl_X12_20 sh_150 rfl ?_
        refine xs_iload (n := 157) dX12_tellsOf_155 rfl rfl ?_
        refine xs_iconst (n := 158) (v := (3 : Int32)) dX12_tellsOf_157 rfl rfl ?_
        refine xs_iadd (n := 159) dX12_tellsOf_158 rfl ?_
        refine ys_iaload (n := 160) dX12_tellsOf_159 rfl sh_153 ?_
        refine xs_i2l (n := 161) dX12_tellsOf_160 rfl ?_
        refine xs_lmul (n := 162) dX12_tellsOf_161 rfl ?_
        refine xs_ladd (n := 163) dX12_tellsOf_162 rfl ?_
        refine xs_letl (fun v20 => ?_)
        refine xs_lstore (n := 165) (lv' := [some (.ref 150), some (.int c1), some (.int c2), some (.int c3), some (.int c4), some (.int c5), some (.long v20), none, some (.int l8), some (.int q11), some (.int v15), none]) dX12_tellsOf_163 rfl (Nat.le_of_ble_eq_true rfl) rfl ?_
        refine xs_iincl (n := 168) (dv := (1 : Int32)) (fun v21 => [some (.ref 150), some (.int c1), some (.int c2), some (.int c3), some (.int c4), some (.int c5), some (.long v20), none, some (.int v21), some (.int q11), some (.int v15), none]) dX12_tellsOf_165 rfl rfl rfl (Nat.le_of_ble_eq_true rfl) (fun _ => rfl) (fun v21 => ?_)
        refine xs_goto (n := 64) dX12_tellsOf_168 rfl ?_
        exact xs_gf (ih v20 v21 q19.2) (And.intro rfl (And.intro rfl (And.intro rfl (And.intro rfl (And.intro rfl (And.intro rfl (And.intro rfl (And.intro rfl trivial))))))))
      · refine xs_if_ne (n := 78) (tgt := 82) dX12_tellsOf_75 rfl rfl (fun hc13 => ?_) (fun hc13 => ?_)
        · refine xs_iload_n (n := 79) dX12_tellsOf_78 rfl rfl ?_
          refine xs_goto (n := 94) dX12_tellsOf_79 rfl ?_
          exact xs_gf (xs_end (kj12 (c2))) (And.intro rfl (And.intro rfl (And.intro rfl (And.intro rfl (And.intro rfl (And.intro rfl (And.intro rfl (And.intro rfl trivial))))))))
        · refine xs_iload (n := 84) dX12_tellsOf_82 rfl rfl ?_
          refine xs_iconst (n := 85) (v := (1 : Int32)) dX12_tellsOf_84 rfl rfl ?_
          refine xs_icmp_ne (n := 88) (tgt := 92) dX12_tellsOf_85 rfl rfl (fun hc14 => ?_) (fun hc14 => ?_)
          · refine xs_iload_n (n := 89) dX12_tellsOf_88 rfl rfl ?_
            refine xs_goto (n := 94) dX12_tellsOf_89 rfl ?_
            exact xs_gf (xs_end (kj12 (c3))) (And.intro rfl (And.intro rfl (And.intro rfl (And.intro rfl (And.intro rfl (And.intro rfl (And.intro rfl (And.intro rfl trivial))))))))
          · refine xs_iload (n := 94) dX12_tellsOf_92 rfl rfl ?_
            exact xs_gf (xs_end (kj12 (c4))) (And.intro rfl (And.intro rfl (And.intro rfl (And.intro rfl (And.intro rfl (And.intro rfl (And.intro rfl (And.intro rfl trivial))))))))
theorem en_X12_tellsOf (m : Nat) (x0 : Int32) (x1 : Int32) (x2 : Int32) (x3 : Int32) (u0 : xm_Y) : xs_ (fun x : Int32 => some (.int x)) sg_0 mt_X12_tellsOf 0 [some (.ref 150), some (.int x0), some (.int x1), some (.int x2), some (.int x3), none, none, none, none, none, none, none] [] u0 0 0 (fn_X12_tellsOf m x0 x1 x2 x3 u0) := by
  refine xs_top ?_
  rw [fn_X12_tellsOf]
  refine xs_aload_n (n := 1) dX12_tellsOf_0 rfl rfl ?_
  refine xs_iload_n (n := 2) dX12_tellsOf_1 rfl rfl ?_
  refine ys_callvv (n := 5) (N := mt_X12_laySides) dX12_tellsOf_2 rfl ok_X12_laySides tw_1116 im_X12_laySides se_X12_laySides ⟨Nat.le_of_ble_eq_true rfl, Nat.le_of_ble_eq_true rfl⟩ [.int x0] [] rfl rfl (Nat.le_of_ble_eq_true rfl) rfl (Nat.le_of_ble_eq_true rfl) (en_X12_laySides m x0 u0) sh_150 (by decide) rfl (fun q1 => ?_)
  refine xs_aload_n (n := 6) dX12_tellsOf_5 rfl rfl ?_
  refine ys_geti (n := 9) dX12_tellsOf_6 rfl fl_X12_194 (Or.inr rfl) sh_150 ?_
  refine xs_if_eq (n := 12) (tgt := 15) dX12_tellsOf_9 rfl rfl (fun hc2 => ?_) (fun hc2 => ?_)
  · refine xs_aload_n (n := 16) dX12_tellsOf_15 rfl rfl ?_
    refine ys_getr (n := 19) dX12_tellsOf_16 rfl fl_X12_122 sh_150 rfl ?_
    refine xs_iconst (n := 20) (v := (0 : Int32)) dX12_tellsOf_19 rfl rfl ?_
    refine xs_iload_n (n := 21) dX12_tellsOf_20 rfl rfl ?_
    refine xs_i2l (n := 22) dX12_tellsOf_21 rfl ?_
    refine ys_lastore (n := 23) dX12_tellsOf_22 rfl sh_181 (fun u3 => ?_)
    refine xs_aload_n (n := 24) dX12_tellsOf_23 rfl rfl ?_
    refine ys_getr (n := 27) dX12_tellsOf_24 rfl fl_X12_122 sh_150 rfl ?_
    refine xs_iconst (n := 28) (v := (1 : Int32)) dX12_tellsOf_27 rfl rfl ?_
    refine xs_iload_n (n := 29) dX12_tellsOf_28 rfl rfl ?_
    refine xs_i2l (n := 30) dX12_tellsOf_29 rfl ?_
    refine ys_lastore (n := 31) dX12_tellsOf_30 rfl sh_181 (fun u4 => ?_)
    refine xs_aload_n (n := 32) dX12_tellsOf_31 rfl rfl ?_
    refine ys_getr (n := 35) dX12_tellsOf_32 rfl fl_X12_122 sh_150 rfl ?_
    refine xs_iconst (n := 36) (v := (2 : Int32)) dX12_tellsOf_35 rfl rfl ?_
    refine xs_iload (n := 38) dX12_tellsOf_36 rfl rfl ?_
    refine xs_i2l (n := 39) dX12_tellsOf_38 rfl ?_
    refine ys_lastore (n := 40) dX12_tellsOf_39 rfl sh_181 (fun u5 => ?_)
    refine xs_aload_n (n := 41) dX12_tellsOf_40 rfl rfl ?_
    refine ys_callvv (n := 44) (N := mt_X12_findLeast) dX12_tellsOf_41 rfl ok_X12_findLeast tw_1158 im_X12_findLeast se_X12_findLeast ⟨Nat.le_of_ble_eq_true rfl, Nat.le_of_ble_eq_true rfl⟩ [] [] rfl rfl (Nat.le_of_ble_eq_true rfl) rfl (Nat.le_of_ble_eq_true rfl) (en_X12_findLeast m u5) sh_150 (by decide) rfl (fun q6 => ?_)
    refine xs_aload_n (n := 45) dX12_tellsOf_44 rfl rfl ?_
    refine ys_geti (n := 48) dX12_tellsOf_45 rfl fl_X12_240 (Or.inr rfl) sh_150 ?_
    refine xs_join 56 (fun q7 => [some (.ref 150), some (.int x0), some (.int x1), some (.int x2), some (.int x3), none, none, none, none, none, none, none]) (fun q7 => [.int q7]) (fun q7 => q6.2) (fun q7 => ?_) (fun kj8 => ?_)
    · refine xs_istore (n := 58) (lv' := [some (.ref 150), some (.int x0), some (.int x1), some (.int x2), some (.int x3), some (.int q7), none, none, none, none, none, none]) dX12_tellsOf_56 rfl (Nat.le_of_ble_eq_true rfl) rfl ?_
      refine xs_lconst (n := 59) (v := (0 : Int64)) dX12_tellsOf_58 rfl rfl ?_
      refine xs_lstore (n := 61) (lv' := [some (.ref 150), some (.int x0), some (.int x1), some (.int x2), some (.int x3), some (.int q7), some (.long (0 : Int64)), none, none, none, none, none]) dX12_tellsOf_59 rfl (Nat.le_of_ble_eq_true rfl) rfl ?_
      refine xs_iconst (n := 62) (v := (0 : Int32)) dX12_tellsOf_61 rfl rfl ?_
      refine xs_istore (n := 64) (lv' := [some (.ref 150), some (.int x0), some (.int x1), some (.int x2), some (.int x3), some (.int q7), some (.long (0 : Int64)), none, some (.int (0 : Int32)), none, none, none]) dX12_tellsOf_62 rfl (Nat.le_of_ble_eq_true rfl) rfl ?_
      refine xs_reg ?_
      refine xs_fg (lv' := [some (.ref 150), some (.int x0), some (.int x1), some (.int x2), some (.int x3), some (.int q7), some (.long (0 : Int64)), none, some (.int (0 : Int32)), none, none, none]) (And.intro rfl (And.intro rfl (And.intro rfl (And.intro rfl (And.intro rfl (And.intro rfl (And.intro rfl (And.intro rfl trivial)))))))) ?_
      refine el_X12_tellsOf_64 m x0 x1 x2 x3 q7 _ (fun q22 => ?_) m (0 : Int64) (0 : Int32) q6.2
      refine xs_aload_n (n := 172) dX12_tellsOf_171 rfl rfl ?_
      refine ys_callvv (n := 175) (N := mt_X12_findLeast) dX12_tellsOf_172 rfl ok_X12_findLeast tw_1158 im_X12_findLeast se_X12_findLeast ⟨Nat.le_of_ble_eq_true rfl, Nat.le_of_ble_eq_true rfl⟩ [] [] rfl rfl (Nat.le_of_ble_eq_true rfl) rfl (Nat.le_of_ble_eq_true rfl) (en_X12_findLeast m q22.2.2) sh_150 (by decide) rfl (fun q23 => ?_)
      refine xs_iload (n := 177) dX12_tellsOf_175 rfl rfl ?_
      refine xs_aload_n (n := 178) dX12_tellsOf_177 rfl rfl ?_
      refine xs_lconst (n := 179) (v := (1 : Int64)) dX12_tellsOf_178 rfl rfl ?_
      refine xs_lload (n := 181) dX12_tellsOf_179 rfl rfl ?_
      refine xs_ladd (n := 182) dX12_tellsOf_181 rfl ?_
      refine ys_callvi (n := 185) (N := mt_X12_isLeastAtLeast) dX12_tellsOf_182 rfl ok_X12_isLeastAtLeast tw_1190 im_X12_isLeastAtLeast se_X12_isLeastAtLeast ⟨Nat.le_of_ble_eq_true rfl, Nat.le_of_ble_eq_true rfl⟩ [.long ((1 : Int64) + q22.1)] [.int q7] rfl rfl (Nat.le_of_ble_eq_true rfl) rfl (Nat.le_of_ble_eq_true rfl) (en_X12_isLeastAtLeast m ((1 : Int64) + q22.1) q23.2) sh_150 (by decide) rfl (fun q24 => ?_)
      refine xs_join 193 (fun q25 => [some (.ref 150), none, none, none, none, none, some (.long q22.1), none, none, none, none, none]) (fun q25 => [.int q25, .int q7]) (fun q25 => q24.2) (fun q25 => ?_) (fun kj26 => ?_)
      · refine xs_iadd (n := 194) dX12_tellsOf_193 rfl ?_
        refine xs_leti (fun v28 => ?_)
        refine xs_istore (n := 196) (lv' := [some (.ref 150), none, none, none, none, some (.int v28), some (.long q22.1), none, none, none, none, none]) dX12_tellsOf_194 rfl (Nat.le_of_ble_eq_true rfl) rfl ?_
        refine xs_iload (n := 198) dX12_tellsOf_196 rfl rfl ?_
        refine xs_aload_n (n := 199) dX12_tellsOf_198 rfl rfl ?_
        refine xs_lload (n := 201) dX12_tellsOf_199 rfl rfl ?_
        refine ys_callvi (n := 204) (N := mt_X12_isLeastAtLeast) dX12_tellsOf_201 rfl ok_X12_isLeastAtLeast tw_1190 im_X12_isLeastAtLeast se_X12_isLeastAtLeast ⟨Nat.le_of_ble_eq_true rfl, Nat.le_of_ble_eq_true rfl⟩ [.long q22.1] [.int v28] rfl rfl (Nat.le_of_ble_eq_true rfl) rfl (Nat.le_of_ble_eq_true rfl) (en_X12_isLeastAtLeast m q22.1 q24.2) sh_150 (by decide) rfl (fun q29 => ?_)
        refine xs_join 212 (fun q30 => [none, none, none, none, none, none, none, none, none, none, none, none]) (fun q30 => [.int q30, .int v28]) (fun q30 => q29.2) (fun q30 => ?_) (fun kj31 => ?_)
        · refine xs_iadd (n := 213) dX12_tellsOf_212 rfl ?_
          exact xs_iret dX12_tellsOf_213 rfl rfl
        · refine xs_if_eq (n := 207) (tgt := 211) dX12_tellsOf_204 rfl rfl (fun hc32 => ?_) (fun hc32 => ?_)
          · refine xs_iconst (n := 212) (v := (0 : Int32)) dX12_tellsOf_211 rfl rfl ?_
            exact xs_gf (xs_end (kj31 ((0 : Int32)))) trivial
          · refine xs_iconst (n := 208) (v := (1 : Int32)) dX12_tellsOf_207 rfl rfl ?_
            refine xs_goto (n := 212) dX12_tellsOf_208 rfl ?_
            exact xs_gf (xs_end (kj31 ((1 : Int32)))) trivial
      · refine xs_if_eq (n := 188) (tgt := 192) dX12_tellsOf_185 rfl rfl (fun hc27 => ?_) (fun hc27 => ?_)
        · refine xs_iconst (n := 193) (v := (0 : Int32)) dX12_tellsOf_192 rfl rfl ?_
          exact xs_gf (xs_end (kj26 ((0 : Int32)))) (And.intro rfl (And.intro rfl trivial))
        · refine xs_iconst (n := 189) (v := (2 : Int32)) dX12_tellsOf_188 rfl rfl ?_
          refine xs_goto (n := 193) dX12_tellsOf_189 rfl ?_
          exact xs_gf (xs_end (kj26 ((2 : Int32)))) (And.intro rfl (And.intro rfl trivial))
    · refine xs_if_eq (n := 51) (tgt := 55) dX12_tellsOf_48 rfl rfl (fun hc9 => ?_) (fun hc9 => ?_)
      · refine xs_iconst (n := 56) (v := (0 : Int32)) dX12_tellsOf_55 rfl rfl ?_
        exact xs_gf (xs_end (kj8 ((0 : Int32)))) (And.intro rfl (And.intro rfl (And.intro rfl (And.intro rfl (And.intro rfl trivial)))))
      · refine xs_iconst (n := 52) (v := (4 : Int32)) dX12_tellsOf_51 rfl rfl ?_
        refine xs_goto (n := 56) dX12_tellsOf_52 rfl ?_
        exact xs_gf (xs_end (kj8 ((4 : Int32)))) (And.intro rfl (And.intro rfl (And.intro rfl (And.intro rfl (And.intro rfl trivial)))))
  · refine xs_bipush (n := 14) (v := (7 : Int32)) dX12_tellsOf_12 rfl rfl ?_
    exact xs_iret dX12_tellsOf_14 rfl rfl
