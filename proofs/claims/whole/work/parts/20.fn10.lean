def fn_X12_areWeights (m : Nat) (x0 : Int32) (x1 : Int32) (u0 : xm_Y) : Option (Int32 × xm_Y) :=
  ((if x0 < 0 then (
  some ((0))) else (
  if (68921) ≤ x0 then (
  some ((0))) else (
  if x1 < (-1000) then (
  some ((0))) else (
  if (1000) < x1 then (
  some ((0))) else (
  some ((1)))))) : Option (Int32)).bind fun q1 =>
  xm_chk (q1 = 0 ∨ q1 = 1) (some (q1, u0)))
theorem en_X12_areWeights (m : Nat) (x0 : Int32) (x1 : Int32) (u0 : xm_Y) : xs_ (fun x : Int32 => some (.int x)) sg_0 mt_X12_areWeights 0 [some (.int x0), some (.int x1)] [] u0 0 0 (fn_X12_areWeights m x0 x1 u0) := by
  refine xs_top ?_
  rw [fn_X12_areWeights]
  refine xs_iload_n (n := 1) dX12_areWeights_0 rfl rfl ?_
  refine xs_join 29 (fun q1 => [none, none]) (fun q1 => [.int q1]) (fun q1 => u0) (fun q1 => ?_) (fun kj2 => ?_)
  · exact xs_zret dX12_areWeights_29 rfl rfl
  · refine xs_if_lt (n := 4) (tgt := 28) dX12_areWeights_1 rfl rfl (fun hc3 => ?_) (fun hc3 => ?_)
    · refine xs_iconst (n := 29) (v := (0)) dX12_areWeights_28 rfl rfl ?_
      exact xs_gf (kj2 ((0))) trivial
    · refine xs_iload_n (n := 5) dX12_areWeights_4 rfl rfl ?_
      refine xs_ldc (n := 7) (v := (68921)) dX12_areWeights_5 rfl tw_1043 ?_
      refine xs_icmp_ge (n := 10) (tgt := 28) dX12_areWeights_7 rfl rfl (fun hc4 => ?_) (fun hc4 => ?_)
      · refine xs_iconst (n := 29) (v := (0)) dX12_areWeights_28 rfl rfl ?_
        exact xs_gf (kj2 ((0))) trivial
      · refine xs_iload_n (n := 11) dX12_areWeights_10 rfl rfl ?_
        refine xs_sipush (n := 14) (v := (-1000)) dX12_areWeights_11 rfl rfl ?_
        refine xs_icmp_lt (n := 17) (tgt := 28) dX12_areWeights_14 rfl rfl (fun hc5 => ?_) (fun hc5 => ?_)
        · refine xs_iconst (n := 29) (v := (0)) dX12_areWeights_28 rfl rfl ?_
          exact xs_gf (kj2 ((0))) trivial
        · refine xs_iload_n (n := 18) dX12_areWeights_17 rfl rfl ?_
          refine xs_sipush (n := 21) (v := (1000)) dX12_areWeights_18 rfl rfl ?_
          refine xs_icmp_gt (n := 24) (tgt := 28) dX12_areWeights_21 rfl rfl (fun hc6 => ?_) (fun hc6 => ?_)
          · refine xs_iconst (n := 29) (v := (0)) dX12_areWeights_28 rfl rfl ?_
            exact xs_gf (kj2 ((0))) trivial
          · refine xs_iconst (n := 25) (v := (1)) dX12_areWeights_24 rfl rfl ?_
            refine xs_goto (n := 29) dX12_areWeights_25 rfl ?_
            exact xs_gf (kj2 ((1))) trivial
def lp_X12_lay_51 (m : Nat) (a1 : Nat) (n1 : Nat) (c2 : Int32) : Nat → Int32 → xm_Y → Option (Int32 × xm_Y)
  | 0, _, _ => none
  | n + 1, l5, u0 =>
  if (3) ≤ l5 then (
  some (l5, u0)) else (
  xm_chk (xm_in (c2 + l5) n1) (xm_let (w_I u0 a1 (Int32.toNatClampNeg (c2 + l5)) (0)) fun u7 =>
  xm_let (α := Int32) (l5 + (1)) fun v8 =>
  lp_X12_lay_51 m a1 n1 c2 n v8 u7))
def fn_X12_lay (m : Nat) (w : Nat) (wn : Nat) (x0 : Int32) (x1 : Int32) (x2 : Int32) (u0 : xm_Y) : Option (Unit × xm_Y) :=
  xm_chk (¬ (1681) = 0) (
  xm_chk (xm_in x0 wn) (xm_let (w_I u0 w (Int32.toNatClampNeg x0) ((x1 / (1681)) - (20))) fun u1 =>
  xm_chk (¬ (41) = 0) (
  xm_chk (¬ (41) = 0) (
  xm_chk (xm_in (x0 + (1)) wn) (xm_let (w_I u1 w (Int32.toNatClampNeg (x0 + (1))) (((x1 / (41)) - (x1 / (41)) / (41) * (41)) - (20))) fun u2 =>
  xm_chk (¬ (41) = 0) (
  xm_chk (xm_in (x0 + (2)) wn) (xm_let (w_I u2 w (Int32.toNatClampNeg (x0 + (2))) ((x1 - x1 / (41) * (41)) - (20))) fun u3 =>
  xm_chk (xm_in (x0 + (3)) wn) (xm_let (w_I u3 w (Int32.toNatClampNeg (x0 + (3))) x2) fun u4 =>
  xm_let (α := Int32) ((u4.1 150 0)) fun v5 =>
  ((lp_X12_lay_51 m w wn x0 m v5 u4).bind fun q9 =>
  some ((), q9.2))))))))))
theorem el_X12_lay_51 (m : Nat) (a1 : Nat) (n1 : Nat) (c2 : Int32) (ha1 : xsh_ a1 13 n1) (K : Int32 × xm_Y → Option (Unit × xm_Y)) (kE : ∀ q : Int32 × xm_Y, xs_ (fun _ : Unit => none) sg_0 mt_X12_lay 70 [none, none, none, none, none, none] [] q.2 0 0 (K q)) : ∀ (n : Nat) (l5 : Int32) (u0 : xm_Y), xs_ (fun _ : Unit => none) sg_0 mt_X12_lay 51 [none, some (.ref a1), some (.int c2), none, none, some (.int l5)] [] u0 0 0 ((lp_X12_lay_51 m a1 n1 c2 n l5 u0).bind K) := by
  intro n
  induction n with
  | zero =>
    intro l5 u0
    exact xs_none
  | succ n ih =>
    intro l5 u0
    rw [lp_X12_lay_51]
    refine xs_iload (n := 53) dX12_lay_51 rfl rfl ?_
    refine xs_iconst (n := 54) (v := (3)) dX12_lay_53 rfl rfl ?_
    refine xs_icmp_ge (n := 57) (tgt := 70) dX12_lay_54 rfl rfl (fun hc6 => ?_) (fun hc6 => ?_)
    · exact xs_gf (kE (l5, u0)) trivial
    · refine xs_aload_n (n := 58) dX12_lay_57 rfl rfl ?_
      refine xs_iload_n (n := 59) dX12_lay_58 rfl rfl ?_
      refine xs_iload (n := 61) dX12_lay_59 rfl rfl ?_
      refine xs_iadd (n := 62) dX12_lay_61 rfl ?_
      refine xs_iconst (n := 63) (v := (0)) dX12_lay_62 rfl rfl ?_
      refine ys_iastore (n := 64) dX12_lay_63 rfl ha1 (fun u7 => ?_)
      refine xs_iincl (n := 67) (dv := (1)) (fun v8 => [none, some (.ref a1), some (.int c2), none, none, some (.int v8)]) dX12_lay_64 rfl rfl rfl (Nat.le_of_ble_eq_true rfl) (fun _ => rfl) (fun v8 => ?_)
      refine xs_goto (n := 51) dX12_lay_67 rfl ?_
      exact xs_gf (ih v8 u7) (And.intro rfl (And.intro rfl (And.intro rfl trivial)))
theorem en_X12_lay (m : Nat) (w : Nat) (wn : Nat) (x0 : Int32) (x1 : Int32) (x2 : Int32) (hw_ : xsh_ w 13 wn) (u0 : xm_Y) : xs_ (fun _ : Unit => none) sg_0 mt_X12_lay 0 [some (.ref 150), some (.ref w), some (.int x0), some (.int x1), some (.int x2), none] [] u0 0 0 (fn_X12_lay m w wn x0 x1 x2 u0) := by
  refine xs_top ?_
  rw [fn_X12_lay]
  refine xs_aload_n (n := 1) dX12_lay_0 rfl rfl ?_
  refine xs_iload_n (n := 2) dX12_lay_1 rfl rfl ?_
  refine xs_iload_n (n := 3) dX12_lay_2 rfl rfl ?_
  refine xs_sipush (n := 6) (v := (1681)) dX12_lay_3 rfl rfl ?_
  refine xs_idiv (n := 7) dX12_lay_6 rfl (fun _ => ?_)
  refine xs_bipush (n := 9) (v := (20)) dX12_lay_7 rfl rfl ?_
  refine xs_isub (n := 10) dX12_lay_9 rfl ?_
  refine ys_iastore (n := 11) dX12_lay_10 rfl hw_ (fun u1 => ?_)
  refine xs_aload_n (n := 12) dX12_lay_11 rfl rfl ?_
  refine xs_iload_n (n := 13) dX12_lay_12 rfl rfl ?_
  refine xs_iconst (n := 14) (v := (1)) dX12_lay_13 rfl rfl ?_
  refine xs_iadd (n := 15) dX12_lay_14 rfl ?_
  refine xs_iload_n (n := 16) dX12_lay_15 rfl rfl ?_
  refine xs_bipush (n := 18) (v := (41)) dX12_lay_16 rfl rfl ?_
  refine xs_idiv (n := 19) dX12_lay_18 rfl (fun _ => ?_)
  refine xs_bipush (n := 21) (v := (41)) dX12_lay_19 rfl rfl ?_
  refine xs_irem (n := 22) dX12_lay_21 rfl (fun _ => ?_)
  refine xs_bipush (n := 24) (v := (20)) dX12_lay_22 rfl rfl ?_
  refine xs_isub (n := 25) dX12_lay_24 rfl ?_
  refine ys_iastore (n := 26) dX12_lay_25 rfl hw_ (fun u2 => ?_)
  refine xs_aload_n (n := 27) dX12_lay_26 rfl rfl ?_
  refine xs_iload_n (n := 28) dX12_lay_27 rfl rfl ?_
  refine xs_iconst (n := 29) (v := (2)) dX12_lay_28 rfl rfl ?_
  refine xs_iadd (n := 30) dX12_lay_29 rfl ?_
  refine xs_iload_n (n := 31) dX12_lay_30 rfl rfl ?_
  refine xs_bipush (n := 33) (v := (41)) dX12_lay_31 rfl rfl ?_
  refine xs_irem (n := 34) dX12_lay_33 rfl (fun _ => ?_)
  refine xs_bipush (n := 36) (v := (20)) dX12_lay_34 rfl rfl ?_
  refine xs_isub (n := 37) dX12_lay_36 rfl ?_
  refine ys_iastore (n := 38) dX12_lay_37 rfl hw_ (fun u3 => ?_)
  refine xs_aload_n (n := 39) dX12_lay_38 rfl rfl ?_
  refine xs_iload_n (n := 40) dX12_lay_39 rfl rfl ?_
  refine xs_iconst (n := 41) (v := (3)) dX12_lay_40 rfl rfl ?_
  refine xs_iadd (n := 42) dX12_lay_41 rfl ?_
  refine xs_iload (n := 44) dX12_lay_42 rfl rfl ?_
  refine ys_iastore (n := 45) dX12_lay_44 rfl hw_ (fun u4 => ?_)
  refine xs_aload_n (n := 46) dX12_lay_45 rfl rfl ?_
  refine ys_geti (n := 49) dX12_lay_46 rfl fl_X12_7 (Or.inl rfl) sh_150 ?_
  refine xs_leti (fun v5 => ?_)
  refine xs_istore (n := 51) (lv' := [some (.ref 150), some (.ref w), some (.int x0), some (.int x1), some (.int x2), some (.int v5)]) dX12_lay_49 rfl (Nat.le_of_ble_eq_true rfl) rfl ?_
  refine xs_reg ?_
  refine xs_fg (lv' := [none, some (.ref w), some (.int x0), none, none, some (.int v5)]) (And.intro rfl (And.intro rfl (And.intro rfl trivial))) ?_
  refine el_X12_lay_51 m w wn x0 hw_ _ (fun q9 => ?_) m v5 u4
  exact xs_vret dX12_lay_70 rfl rfl
def fn_X12_isBody (m : Nat) (x0 : Int32) (u0 : xm_Y) : Option (Int32 × xm_Y) :=
  ((if x0 < 0 then (
  some ((0))) else (
  if (u0.1 150 1) ≤ x0 then (
  some ((0))) else (
  some ((1)))) : Option (Int32)).bind fun q1 =>
  xm_chk (q1 = 0 ∨ q1 = 1) (some (q1, u0)))
theorem en_X12_isBody (m : Nat) (x0 : Int32) (u0 : xm_Y) : xs_ (fun x : Int32 => some (.int x)) sg_0 mt_X12_isBody 0 [some (.ref 150), some (.int x0)] [] u0 0 0 (fn_X12_isBody m x0 u0) := by
  refine xs_top ?_
  rw [fn_X12_isBody]
  refine xs_iload_n (n := 1) dX12_isBody_0 rfl rfl ?_
  refine xs_join 17 (fun q1 => [none, none]) (fun q1 => [.int q1]) (fun q1 => u0) (fun q1 => ?_) (fun kj2 => ?_)
  · exact xs_zret dX12_isBody_17 rfl rfl
  · refine xs_if_lt (n := 4) (tgt := 16) dX12_isBody_1 rfl rfl (fun hc3 => ?_) (fun hc3 => ?_)
    · refine xs_iconst (n := 17) (v := (0)) dX12_isBody_16 rfl rfl ?_
      exact xs_gf (kj2 ((0))) trivial
    · refine xs_iload_n (n := 5) dX12_isBody_4 rfl rfl ?_
      refine xs_aload_n (n := 6) dX12_isBody_5 rfl rfl ?_
      refine ys_geti (n := 9) dX12_isBody_6 rfl fl_X12_135 (Or.inl rfl) sh_150 ?_
      refine xs_icmp_ge (n := 12) (tgt := 16) dX12_isBody_9 rfl rfl (fun hc4 => ?_) (fun hc4 => ?_)
      · refine xs_iconst (n := 17) (v := (0)) dX12_isBody_16 rfl rfl ?_
        exact xs_gf (kj2 ((0))) trivial
      · refine xs_iconst (n := 13) (v := (1)) dX12_isBody_12 rfl rfl ?_
        refine xs_goto (n := 17) dX12_isBody_13 rfl ?_
        exact xs_gf (kj2 ((1))) trivial
def fn_X12_guard (m : Nat) (x0 : Int32) (x1 : Int32) (x2 : Int32) (u0 : xm_Y) : Option (Int32 × xm_Y) :=
  ((fn_X12_isBody m x0 u0).bind fun q1 =>
  if q1.1 = 0 then (
  some ((-1), q1.2)) else (
  ((fn_X12_areWeights m x1 x2 q1.2).bind fun q3 =>
  if q3.1 = 0 then (
  some ((-1), q3.2)) else (
  xm_chk (xm_in x0 5) (
  if (q3.2.1 151 (Int32.toNatClampNeg x0)) = (6) then (
  some ((-2), q3.2)) else (
  xm_chk (xm_in x0 5) (
  ((fn_X12_lay m 152 120 ((((6) * x0) + (q3.2.1 151 (Int32.toNatClampNeg x0))) * (4)) x1 x2 q3.2).bind fun q6 =>
  xm_chk (xm_in x0 5) (
  xm_chk (xm_in x0 5) (xm_let (w_I q6.2 151 (Int32.toNatClampNeg x0) ((q6.2.1 151 (Int32.toNatClampNeg x0)) + (1))) fun u7 =>
  ((fn_X12_openAll m u7).bind fun q8 =>
  xm_chk (xm_in x0 5) (
  some ((q8.2.1 151 (Int32.toNatClampNeg x0)), q8.2)))))))))))))
theorem en_X12_guard (m : Nat) (x0 : Int32) (x1 : Int32) (x2 : Int32) (u0 : xm_Y) : xs_ (fun x : Int32 => some (.int x)) sg_0 mt_X12_guard 0 [some (.ref 150), some (.int x0), some (.int x1), some (.int x2)] [] u0 0 0 (fn_X12_guard m x0 x1 x2 u0) := by
  refine xs_top ?_
  rw [fn_X12_guard]
  refine xs_aload_n (n := 1) dX12_guard_0 rfl rfl ?_
  refine xs_iload_n (n := 2) dX12_guard_1 rfl rfl ?_
  refine ys_callvi (n := 5) (N := mt_X12_isBody) dX12_guard_2 rfl ok_X12_isBody tw_1036 im_X12_isBody se_X12_isBody ⟨Nat.le_of_ble_eq_true rfl, Nat.le_of_ble_eq_true rfl⟩ [.int x0] [] rfl rfl (Nat.le_of_ble_eq_true rfl) rfl (Nat.le_of_ble_eq_true rfl) (en_X12_isBody m x0 u0) sh_150 (by decide) rfl (fun q1 => ?_)
  refine xs_if_eq (n := 8) (tgt := 16) dX12_guard_5 rfl rfl (fun hc2 => ?_) (fun hc2 => ?_)
  · refine xs_iconst (n := 17) (v := (-1)) dX12_guard_16 rfl rfl ?_
    exact xs_iret dX12_guard_17 rfl rfl
  · refine xs_iload_n (n := 9) dX12_guard_8 rfl rfl ?_
    refine xs_iload_n (n := 10) dX12_guard_9 rfl rfl ?_
    refine ys_callsi (n := 13) (N := mt_X12_areWeights) dX12_guard_10 rfl ok_X12_areWeights tw_1040 st_X12_areWeights ⟨Nat.le_of_ble_eq_true rfl, Nat.le_of_ble_eq_true rfl⟩ [.int x1, .int x2] [] rfl rfl (Nat.le_of_ble_eq_true rfl) rfl (Nat.le_of_ble_eq_true rfl) (en_X12_areWeights m x1 x2 q1.2) (fun q3 => ?_)
    refine xs_if_ne (n := 16) (tgt := 18) dX12_guard_13 rfl rfl (fun hc4 => ?_) (fun hc4 => ?_)
    · refine xs_iconst (n := 17) (v := (-1)) dX12_guard_16 rfl rfl ?_
      exact xs_iret dX12_guard_17 rfl rfl
    · refine xs_aload_n (n := 19) dX12_guard_18 rfl rfl ?_
      refine ys_getr (n := 22) dX12_guard_19 rfl fl_X12_13 sh_150 rfl ?_
      refine xs_iload_n (n := 23) dX12_guard_22 rfl rfl ?_
      refine ys_iaload (n := 24) dX12_guard_23 rfl sh_151 ?_
      refine xs_bipush (n := 26) (v := (6)) dX12_guard_24 rfl rfl ?_
      refine xs_icmp_ne (n := 29) (tgt := 32) dX12_guard_26 rfl rfl (fun hc5 => ?_) (fun hc5 => ?_)
      · refine xs_bipush (n := 31) (v := (-2)) dX12_guard_29 rfl rfl ?_
        exact xs_iret dX12_guard_31 rfl rfl
      · refine xs_aload_n (n := 33) dX12_guard_32 rfl rfl ?_
        refine xs_aload_n (n := 34) dX12_guard_33 rfl rfl ?_
        refine ys_getr (n := 37) dX12_guard_34 rfl fl_X12_17 sh_150 rfl ?_
        refine xs_bipush (n := 39) (v := (6)) dX12_guard_37 rfl rfl ?_
        refine xs_iload_n (n := 40) dX12_guard_39 rfl rfl ?_
        refine xs_imul (n := 41) dX12_guard_40 rfl ?_
        refine xs_aload_n (n := 42) dX12_guard_41 rfl rfl ?_
        refine ys_getr (n := 45) dX12_guard_42 rfl fl_X12_13 sh_150 rfl ?_
        refine xs_iload_n (n := 46) dX12_guard_45 rfl rfl ?_
        refine ys_iaload (n := 47) dX12_guard_46 rfl sh_151 ?_
        refine xs_iadd (n := 48) dX12_guard_47 rfl ?_
        refine xs_iconst (n := 49) (v := (4)) dX12_guard_48 rfl rfl ?_
        refine xs_imul (n := 50) dX12_guard_49 rfl ?_
        refine xs_iload_n (n := 51) dX12_guard_50 rfl rfl ?_
        refine xs_iload_n (n := 52) dX12_guard_51 rfl rfl ?_
        refine ys_callvv (n := 55) (N := mt_X12_lay) dX12_guard_52 rfl ok_X12_lay tw_1044 im_X12_lay se_X12_lay ⟨Nat.le_of_ble_eq_true rfl, Nat.le_of_ble_eq_true rfl⟩ [.ref 152, .int ((((6) * x0) + (q3.2.1 151 (Int32.toNatClampNeg x0))) * (4)), .int x1, .int x2] [] rfl rfl (Nat.le_of_ble_eq_true rfl) rfl (Nat.le_of_ble_eq_true rfl) (en_X12_lay m 152 120 ((((6) * x0) + (q3.2.1 151 (Int32.toNatClampNeg x0))) * (4)) x1 x2 sh_152 q3.2) sh_150 (by decide) rfl (fun q6 => ?_)
        refine xs_aload_n (n := 56) dX12_guard_55 rfl rfl ?_
        refine ys_getr (n := 59) dX12_guard_56 rfl fl_X12_13 sh_150 rfl ?_
        refine xs_iload_n (n := 60) dX12_guard_59 rfl rfl ?_
        refine xs_dup2_11 (n := 61) dX12_guard_60 rfl rfl rfl ?_
        refine ys_iaload (n := 62) dX12_guard_61 rfl sh_151 ?_
        refine xs_iconst (n := 63) (v := (1)) dX12_guard_62 rfl rfl ?_
        refine xs_iadd (n := 64) dX12_guard_63 rfl ?_
        refine ys_iastore (n := 65) dX12_guard_64 rfl sh_151 (fun u7 => ?_)
        refine xs_aload_n (n := 66) dX12_guard_65 rfl rfl ?_
        refine ys_callvv (n := 69) (N := mt_X12_openAll) dX12_guard_66 rfl ok_X12_openAll tw_868 im_X12_openAll se_X12_openAll ⟨Nat.le_of_ble_eq_true rfl, Nat.le_of_ble_eq_true rfl⟩ [] [] rfl rfl (Nat.le_of_ble_eq_true rfl) rfl (Nat.le_of_ble_eq_true rfl) (en_X12_openAll m u7) sh_150 (by decide) rfl (fun q8 => ?_)
        refine xs_aload_n (n := 70) dX12_guard_69 rfl rfl ?_
        refine ys_getr (n := 73) dX12_guard_70 rfl fl_X12_13 sh_150 rfl ?_
        refine xs_iload_n (n := 74) dX12_guard_73 rfl rfl ?_
        refine ys_iaload (n := 75) dX12_guard_74 rfl sh_151 ?_
        exact xs_iret dX12_guard_75 rfl rfl
def fn_X12_rule (m : Nat) (x0 : Int32) (x1 : Int32) (x2 : Int32) (x3 : Int32) (u0 : xm_Y) : Option (Int32 × xm_Y) :=
  ((fn_X12_isBody m x0 u0).bind fun q1 =>
  if q1.1 = 0 then (
  some ((-1), q1.2)) else (
  if x1 < 0 then (
  some ((-1), q1.2)) else (
  if (q1.2.1 150 0) ≤ x1 then (
  some ((-1), q1.2)) else (
  ((fn_X12_areWeights m x2 x3 q1.2).bind fun q5 =>
  if q5.1 = 0 then (
  some ((-1), q5.2)) else (
  ((fn_X12_lay m 153 60 ((((3) * x0) + x1) * (4)) x2 x3 q5.2).bind fun q7 =>
  ((fn_X12_openAll m q7.2).bind fun q8 =>
  some ((0), q8.2)))))))))
theorem en_X12_rule (m : Nat) (x0 : Int32) (x1 : Int32) (x2 : Int32) (x3 : Int32) (u0 : xm_Y) : xs_ (fun x : Int32 => some (.int x)) sg_0 mt_X12_rule 0 [some (.ref 150), some (.int x0), some (.int x1), some (.int x2), some (.int x3)] [] u0 0 0 (fn_X12_rule m x0 x1 x2 x3 u0) := by
  refine xs_top ?_
  rw [fn_X12_rule]
  refine xs_aload_n (n := 1) dX12_rule_0 rfl rfl ?_
  refine xs_iload_n (n := 2) dX12_rule_1 rfl rfl ?_
  refine ys_callvi (n := 5) (N := mt_X12_isBody) dX12_rule_2 rfl ok_X12_isBody tw_1036 im_X12_isBody se_X12_isBody ⟨Nat.le_of_ble_eq_true rfl, Nat.le_of_ble_eq_true rfl⟩ [.int x0] [] rfl rfl (Nat.le_of_ble_eq_true rfl) rfl (Nat.le_of_ble_eq_true rfl) (en_X12_isBody m x0 u0) sh_150 (by decide) rfl (fun q1 => ?_)
  refine xs_if_eq (n := 8) (tgt := 29) dX12_rule_5 rfl rfl (fun hc2 => ?_) (fun hc2 => ?_)
  · refine xs_iconst (n := 30) (v := (-1)) dX12_rule_29 rfl rfl ?_
    exact xs_iret dX12_rule_30 rfl rfl
  · refine xs_iload_n (n := 9) dX12_rule_8 rfl rfl ?_
    refine xs_if_lt (n := 12) (tgt := 29) dX12_rule_9 rfl rfl (fun hc3 => ?_) (fun hc3 => ?_)
    · refine xs_iconst (n := 30) (v := (-1)) dX12_rule_29 rfl rfl ?_
      exact xs_iret dX12_rule_30 rfl rfl
    · refine xs_iload_n (n := 13) dX12_rule_12 rfl rfl ?_
      refine xs_aload_n (n := 14) dX12_rule_13 rfl rfl ?_
      refine ys_geti (n := 17) dX12_rule_14 rfl fl_X12_7 (Or.inl rfl) sh_150 ?_
      refine xs_icmp_ge (n := 20) (tgt := 29) dX12_rule_17 rfl rfl (fun hc4 => ?_) (fun hc4 => ?_)
      · refine xs_iconst (n := 30) (v := (-1)) dX12_rule_29 rfl rfl ?_
        exact xs_iret dX12_rule_30 rfl rfl
      · refine xs_iload_n (n := 21) dX12_rule_20 rfl rfl ?_
        refine xs_iload (n := 23) dX12_rule_21 rfl rfl ?_
        refine ys_callsi (n := 26) (N := mt_X12_areWeights) dX12_rule_23 rfl ok_X12_areWeights tw_1040 st_X12_areWeights ⟨Nat.le_of_ble_eq_true rfl, Nat.le_of_ble_eq_true rfl⟩ [.int x2, .int x3] [] rfl rfl (Nat.le_of_ble_eq_true rfl) rfl (Nat.le_of_ble_eq_true rfl) (en_X12_areWeights m x2 x3 q1.2) (fun q5 => ?_)
        refine xs_if_ne (n := 29) (tgt := 31) dX12_rule_26 rfl rfl (fun hc6 => ?_) (fun hc6 => ?_)
        · refine xs_iconst (n := 30) (v := (-1)) dX12_rule_29 rfl rfl ?_
          exact xs_iret dX12_rule_30 rfl rfl
        · refine xs_aload_n (n := 32) dX12_rule_31 rfl rfl ?_
          refine xs_aload_n (n := 33) dX12_rule_32 rfl rfl ?_
          refine ys_getr (n := 36) dX12_rule_33 rfl fl_X12_20 sh_150 rfl ?_
          refine xs_iconst (n := 37) (v := (3)) dX12_rule_36 rfl rfl ?_
          refine xs_iload_n (n := 38) dX12_rule_37 rfl rfl ?_
          refine xs_imul (n := 39) dX12_rule_38 rfl ?_
          refine xs_iload_n (n := 40) dX12_rule_39 rfl rfl ?_
          refine xs_iadd (n := 41) dX12_rule_40 rfl ?_
          refine xs_iconst (n := 42) (v := (4)) dX12_rule_41 rfl rfl ?_
          refine xs_imul (n := 43) dX12_rule_42 rfl ?_
          refine xs_iload_n (n := 44) dX12_rule_43 rfl rfl ?_
          refine xs_iload (n := 46) dX12_rule_44 rfl rfl ?_
          refine ys_callvv (n := 49) (N := mt_X12_lay) dX12_rule_46 rfl ok_X12_lay tw_1044 im_X12_lay se_X12_lay ⟨Nat.le_of_ble_eq_true rfl, Nat.le_of_ble_eq_true rfl⟩ [.ref 153, .int ((((3) * x0) + x1) * (4)), .int x2, .int x3] [] rfl rfl (Nat.le_of_ble_eq_true rfl) rfl (Nat.le_of_ble_eq_true rfl) (en_X12_lay m 153 60 ((((3) * x0) + x1) * (4)) x2 x3 sh_153 q5.2) sh_150 (by decide) rfl (fun q7 => ?_)
          refine xs_aload_n (n := 50) dX12_rule_49 rfl rfl ?_
          refine ys_callvv (n := 53) (N := mt_X12_openAll) dX12_rule_50 rfl ok_X12_openAll tw_868 im_X12_openAll se_X12_openAll ⟨Nat.le_of_ble_eq_true rfl, Nat.le_of_ble_eq_true rfl⟩ [] [] rfl rfl (Nat.le_of_ble_eq_true rfl) rfl (Nat.le_of_ble_eq_true rfl) (en_X12_openAll m q7.2) sh_150 (by decide) rfl (fun q8 => ?_)
          refine xs_iconst (n := 54) (v := (0)) dX12_rule_53 rfl rfl ?_
          exact xs_iret dX12_rule_54 rfl rfl
def fn_X12_many (m : Nat) (x0 : Int32) (u0 : xm_Y) : Option (Int32 × xm_Y) :=
  ((if x0 = (-1) then (
  some ((u0.1 150 1), u0)) else (
  ((fn_X12_isBody m x0 u0).bind fun q4 =>
  if q4.1 = 0 then (
  some ((-1), q4.2)) else (
  xm_chk (xm_in x0 5) (
  some ((q4.2.1 151 (Int32.toNatClampNeg x0)), q4.2))))) : Option (Int32 × xm_Y)).bind fun q1 =>
  some (q1.1, q1.2))
theorem en_X12_many (m : Nat) (x0 : Int32) (u0 : xm_Y) : xs_ (fun x : Int32 => some (.int x)) sg_0 mt_X12_many 0 [some (.ref 150), some (.int x0)] [] u0 0 0 (fn_X12_many m x0 u0) := by
  refine xs_top ?_
  rw [fn_X12_many]
  refine xs_iload_n (n := 1) dX12_many_0 rfl rfl ?_
  refine xs_iconst (n := 2) (v := (-1)) dX12_many_1 rfl rfl ?_
  refine xs_join 30 (fun q1 => [none, none]) (fun q1 => [.int q1.1]) (fun q1 => q1.2) (fun q1 => ?_) (fun kj2 => ?_)
  · exact xs_iret dX12_many_30 rfl rfl
  · refine xs_icmp_ne (n := 5) (tgt := 12) dX12_many_2 rfl rfl (fun hc3 => ?_) (fun hc3 => ?_)
    · refine xs_aload_n (n := 6) dX12_many_5 rfl rfl ?_
      refine ys_geti (n := 9) dX12_many_6 rfl fl_X12_135 (Or.inl rfl) sh_150 ?_
      refine xs_goto (n := 30) dX12_many_9 rfl ?_
      exact xs_gf (kj2 ((u0.1 150 1), u0)) trivial
    · refine xs_aload_n (n := 13) dX12_many_12 rfl rfl ?_
      refine xs_iload_n (n := 14) dX12_many_13 rfl rfl ?_
      refine ys_callvi (n := 17) (N := mt_X12_isBody) dX12_many_14 rfl ok_X12_isBody tw_1036 im_X12_isBody se_X12_isBody ⟨Nat.le_of_ble_eq_true rfl, Nat.le_of_ble_eq_true rfl⟩ [.int x0] [] rfl rfl (Nat.le_of_ble_eq_true rfl) rfl (Nat.le_of_ble_eq_true rfl) (en_X12_isBody m x0 u0) sh_150 (by decide) rfl (fun q4 => ?_)
      refine xs_if_eq (n := 20) (tgt := 29) dX12_many_17 rfl rfl (fun hc5 => ?_) (fun hc5 => ?_)
      · refine xs_iconst (n := 30) (v := (-1)) dX12_many_29 rfl rfl ?_
        exact xs_gf (kj2 ((-1), q4.2)) trivial
      · refine xs_aload_n (n := 21) dX12_many_20 rfl rfl ?_
        refine ys_getr (n := 24) dX12_many_21 rfl fl_X12_13 sh_150 rfl ?_
        refine xs_iload_n (n := 25) dX12_many_24 rfl rfl ?_
        refine ys_iaload (n := 26) dX12_many_25 rfl sh_151 ?_
        refine xs_goto (n := 30) dX12_many_26 rfl ?_
        exact xs_gf (kj2 ((q4.2.1 151 (Int32.toNatClampNeg x0)), q4.2)) trivial
def fn_X12_set (m : Nat) (x0 : Int32) (x1 : Int32) (u0 : xm_Y) : Option (Int32 × xm_Y) :=
  if x0 < 0 then (
  some ((-1), u0)) else (
  if (u0.1 150 0) ≤ x0 then (
  some ((-1), u0)) else (
  if x1 < (-1000000) then (
  some ((-1), u0)) else (
  if x1 ≤ (1000000) then (
  xm_chk (xm_in x0 3) (xm_let (w_J u0 154 (Int32.toNatClampNeg x0) (Int32.toInt64 x1)) fun u5 =>
  some ((0), u5))) else (
  some ((-1), u0)))))
theorem en_X12_set (m : Nat) (x0 : Int32) (x1 : Int32) (u0 : xm_Y) : xs_ (fun x : Int32 => some (.int x)) sg_0 mt_X12_set 0 [some (.ref 150), some (.int x0), some (.int x1)] [] u0 0 0 (fn_X12_set m x0 x1 u0) := by
  refine xs_top ?_
  rw [fn_X12_set]
  refine xs_iload_n (n := 1) dX12_set_0 rfl rfl ?_
  refine xs_if_lt (n := 4) (tgt := 24) dX12_set_1 rfl rfl (fun hc1 => ?_) (fun hc1 => ?_)
  · refine xs_iconst (n := 25) (v := (-1)) dX12_set_24 rfl rfl ?_
    exact xs_iret dX12_set_25 rfl rfl
  · refine xs_iload_n (n := 5) dX12_set_4 rfl rfl ?_
    refine xs_aload_n (n := 6) dX12_set_5 rfl rfl ?_
    refine ys_geti (n := 9) dX12_set_6 rfl fl_X12_7 (Or.inl rfl) sh_150 ?_
    refine xs_icmp_ge (n := 12) (tgt := 24) dX12_set_9 rfl rfl (fun hc2 => ?_) (fun hc2 => ?_)
    · refine xs_iconst (n := 25) (v := (-1)) dX12_set_24 rfl rfl ?_
      exact xs_iret dX12_set_25 rfl rfl
    · refine xs_iload_n (n := 13) dX12_set_12 rfl rfl ?_
      refine xs_ldc (n := 15) (v := (-1000000)) dX12_set_13 rfl tw_1060 ?_
      refine xs_icmp_lt (n := 18) (tgt := 24) dX12_set_15 rfl rfl (fun hc3 => ?_) (fun hc3 => ?_)
      · refine xs_iconst (n := 25) (v := (-1)) dX12_set_24 rfl rfl ?_
        exact xs_iret dX12_set_25 rfl rfl
      · refine xs_iload_n (n := 19) dX12_set_18 rfl rfl ?_
        refine xs_ldc (n := 21) (v := (1000000)) dX12_set_19 rfl tw_1061 ?_
        refine xs_icmp_le (n := 24) (tgt := 26) dX12_set_21 rfl rfl (fun hc4 => ?_) (fun hc4 => ?_)
        · refine xs_aload_n (n := 27) dX12_set_26 rfl rfl ?_
          refine ys_getr (n := 30) dX12_set_27 rfl fl_X12_23 sh_150 rfl ?_
          refine xs_iload_n (n := 31) dX12_set_30 rfl rfl ?_
          refine xs_iload_n (n := 32) dX12_set_31 rfl rfl ?_
          refine xs_i2l (n := 33) dX12_set_32 rfl ?_
          refine ys_lastore (n := 34) dX12_set_33 rfl sh_154 (fun u5 => ?_)
          refine xs_iconst (n := 35) (v := (0)) dX12_set_34 rfl rfl ?_
          exact xs_iret dX12_set_35 rfl rfl
        · refine xs_iconst (n := 25) (v := (-1)) dX12_set_24 rfl rfl ?_
          exact xs_iret dX12_set_25 rfl rfl
def fn_X12_at (m : Nat) (x0 : Int32) (u0 : xm_Y) : Option (Int64 × xm_Y) :=
  ((if x0 < 0 then (
  some ((0))) else (
  if (u0.1 150 0) ≤ x0 then (
  some ((0))) else (
  xm_chk (xm_in x0 3) (
  some ((u0.2 154 (Int32.toNatClampNeg x0)))))) : Option (Int64)).bind fun q1 =>
  some (q1, u0))
theorem en_X12_at (m : Nat) (x0 : Int32) (u0 : xm_Y) : xs_ (fun x : Int64 => some (.long x)) sg_0 mt_X12_at 0 [some (.ref 150), some (.int x0)] [] u0 0 0 (fn_X12_at m x0 u0) := by
  refine xs_top ?_
  rw [fn_X12_at]
  refine xs_iload_n (n := 1) dX12_at_0 rfl rfl ?_
  refine xs_join 22 (fun q1 => [none, none]) (fun q1 => [.long q1]) (fun q1 => u0) (fun q1 => ?_) (fun kj2 => ?_)
  · exact xs_lret dX12_at_22 rfl rfl
  · refine xs_if_lt (n := 4) (tgt := 21) dX12_at_1 rfl rfl (fun hc3 => ?_) (fun hc3 => ?_)
    · refine xs_lconst (n := 22) (v := (0)) dX12_at_21 rfl rfl ?_
      exact xs_gf (kj2 ((0))) trivial
    · refine xs_iload_n (n := 5) dX12_at_4 rfl rfl ?_
      refine xs_aload_n (n := 6) dX12_at_5 rfl rfl ?_
      refine ys_geti (n := 9) dX12_at_6 rfl fl_X12_7 (Or.inl rfl) sh_150 ?_
      refine xs_icmp_ge (n := 12) (tgt := 21) dX12_at_9 rfl rfl (fun hc4 => ?_) (fun hc4 => ?_)
      · refine xs_lconst (n := 22) (v := (0)) dX12_at_21 rfl rfl ?_
        exact xs_gf (kj2 ((0))) trivial
      · refine xs_aload_n (n := 13) dX12_at_12 rfl rfl ?_
        refine ys_getr (n := 16) dX12_at_13 rfl fl_X12_23 sh_150 rfl ?_
        refine xs_iload_n (n := 17) dX12_at_16 rfl rfl ?_
        refine ys_laload (n := 18) dX12_at_17 rfl sh_154 ?_
        refine xs_goto (n := 22) dX12_at_18 rfl ?_
        exact xs_gf (kj2 ((u0.2 154 (Int32.toNatClampNeg x0)))) trivial
def fn_X12_of (m : Nat) (w : Nat) (wn : Nat) (x0 : Int32) (p : Nat) (u0 : xm_Y) : Option (Int64 × xm_Y) :=
  xm_chk (xm_in x0 wn) (
  xm_chk (xm_in (0) 3) (
  xm_chk (xm_in (x0 + (1)) wn) (
  xm_chk (xm_in (1) 3) (
  xm_chk (xm_in (x0 + (2)) wn) (
  xm_chk (xm_in (2) 3) (
  xm_chk (xm_in (x0 + (3)) wn) (
  some ((((((Int32.toInt64 (u0.1 w (Int32.toNatClampNeg x0))) * (u0.2 p (Int32.toNatClampNeg (0)))) + ((Int32.toInt64 (u0.1 w (Int32.toNatClampNeg (x0 + (1))))) * (u0.2 p (Int32.toNatClampNeg (1))))) + ((Int32.toInt64 (u0.1 w (Int32.toNatClampNeg (x0 + (2))))) * (u0.2 p (Int32.toNatClampNeg (2))))) + (Int32.toInt64 (u0.1 w (Int32.toNatClampNeg (x0 + (3)))))), u0))))))))
theorem en_X12_of (m : Nat) (w : Nat) (wn : Nat) (x0 : Int32) (p : Nat) (hw_ : xsh_ w 13 wn) (hp_ : xsh_ p 14 3) (u0 : xm_Y) : xs_ (fun x : Int64 => some (.long x)) sg_0 mt_X12_of 0 [some (.ref w), some (.int x0), some (.ref p)] [] u0 0 0 (fn_X12_of m w wn x0 p u0) := by
  refine xs_top ?_
  rw [fn_X12_of]
  refine xs_aload_n (n := 1) dX12_of_0 rfl rfl ?_
  refine xs_iload_n (n := 2) dX12_of_1 rfl rfl ?_
  refine ys_iaload (n := 3) dX12_of_2 rfl hw_ ?_
  refine xs_i2l (n := 4) dX12_of_3 rfl ?_
  refine xs_aload_n (n := 5) dX12_of_4 rfl rfl ?_
  refine xs_iconst (n := 6) (v := (0)) dX12_of_5 rfl rfl ?_
  refine ys_laload (n := 7) dX12_of_6 rfl hp_ ?_
  refine xs_lmul (n := 8) dX12_of_7 rfl ?_
  refine xs_aload_n (n := 9) dX12_of_8 rfl rfl ?_
  refine xs_iload_n (n := 10) dX12_of_9 rfl rfl ?_
  refine xs_iconst (n := 11) (v := (1)) dX12_of_10 rfl rfl ?_
  refine xs_iadd (n := 12) dX12_of_11 rfl ?_
  refine ys_iaload (n := 13) dX12_of_12 rfl hw_ ?_
  refine xs_i2l (n := 14) dX12_of_13 rfl ?_
  refine xs_aload_n (n := 15) dX12_of_14 rfl rfl ?_
  refine xs_iconst (n := 16) (v := (1)) dX12_of_15 rfl rfl ?_
  refine ys_laload (n := 17) dX12_of_16 rfl hp_ ?_
  refine xs_lmul (n := 18) dX12_of_17 rfl ?_
  refine xs_ladd (n := 19) dX12_of_18 rfl ?_
  refine xs_aload_n (n := 20) dX12_of_19 rfl rfl ?_
  refine xs_iload_n (n := 21) dX12_of_20 rfl rfl ?_
  refine xs_iconst (n := 22) (v := (2)) dX12_of_21 rfl rfl ?_
  refine xs_iadd (n := 23) dX12_of_22 rfl ?_
  refine ys_iaload (n := 24) dX12_of_23 rfl hw_ ?_
  refine xs_i2l (n := 25) dX12_of_24 rfl ?_
  refine xs_aload_n (n := 26) dX12_of_25 rfl rfl ?_
  refine xs_iconst (n := 27) (v := (2)) dX12_of_26 rfl rfl ?_
  refine ys_laload (n := 28) dX12_of_27 rfl hp_ ?_
  refine xs_lmul (n := 29) dX12_of_28 rfl ?_
  refine xs_ladd (n := 30) dX12_of_29 rfl ?_
  refine xs_aload_n (n := 31) dX12_of_30 rfl rfl ?_
  refine xs_iload_n (n := 32) dX12_of_31 rfl rfl ?_
  refine xs_iconst (n := 33) (v := (3)) dX12_of_32 rfl rfl ?_
  refine xs_iadd (n := 34) dX12_of_33 rfl ?_
  refine ys_iaload (n := 35) dX12_of_34 rfl hw_ ?_
  refine xs_i2l (n := 36) dX12_of_35 rfl ?_
  refine xs_ladd (n := 37) dX12_of_36 rfl ?_
  exact xs_lret dX12_of_37 rfl rfl
def lp_X12_turnAt_15 (m : Nat) (a1 : Nat) (c2 : Int32) : Nat → Int32 → Int32 → xm_Y → Option (Int32 × Int32 × xm_Y)
  | 0, _, _, _ => none
  | n + 1, l3, l4, u0 =>
  xm_chk (xm_in c2 5) (
  if (u0.1 151 (Int32.toNatClampNeg c2)) ≤ l4 then (
  some (l3, l4, u0)) else (
  ((if l3 = 0 then (
  some ((0), u0)) else (
  ((fn_X12_of m 152 120 ((((6) * c2) + l4) * (4)) a1 u0).bind fun q6 =>
  if q6.1 < (0) then (
  some ((0), q6.2)) else (
  some ((1), q6.2)))) : Option (Int32 × xm_Y)).bind fun q3 =>
  xm_let (α := Int32) (l4 + (1)) fun v8 =>
  lp_X12_turnAt_15 m a1 c2 n q3.1 v8 q3.2)))
def lp_X12_turnAt_2 (m : Nat) (a1 : Nat) : Nat → Int32 → xm_Y → Option ((Int32 × xm_Y) ⊕ (Int32 × xm_Y))
  | 0, _, _ => none
  | n + 1, l2, u0 =>
  if (u0.1 150 1) ≤ l2 then (
  some (.inr (l2, u0))) else (
  ((lp_X12_turnAt_15 m a1 l2 m (1) (0) u0).bind fun q9 =>
  if q9.1 = 0 then (
  xm_let (α := Int32) (l2 + (1)) fun v11 =>
  lp_X12_turnAt_2 m a1 n v11 q9.2.2) else (
  some (.inl (l2, q9.2.2)))))
def fn_X12_turnAt (m : Nat) (p : Nat) (u0 : xm_Y) : Option (Int32 × xm_Y) :=
  ((lp_X12_turnAt_2 m p m (0) u0).bind (Sum.elim (fun r => some r) (fun q12 =>
  some ((-1), q12.2))))
theorem el_X12_turnAt_15 (m : Nat) (a1 : Nat) (c2 : Int32) (ha1 : xsh_ a1 14 3) (K : Int32 × Int32 × xm_Y → Option (Int32 × xm_Y)) (kE : ∀ q : Int32 × Int32 × xm_Y, xs_ (fun x : Int32 => some (.int x)) sg_0 mt_X12_turnAt 64 [some (.ref 150), some (.ref a1), some (.int c2), some (.int q.1), none] [] q.2.2 0 0 (K q)) : ∀ (n : Nat) (l3 : Int32) (l4 : Int32) (u0 : xm_Y), xs_ (fun x : Int32 => some (.int x)) sg_0 mt_X12_turnAt 15 [some (.ref 150), some (.ref a1), some (.int c2), some (.int l3), some (.int l4)] [] u0 0 0 ((lp_X12_turnAt_15 m a1 c2 n l3 l4 u0).bind K) := by
  intro n
  induction n with
  | zero =>
    intro l3 l4 u0
    exact xs_none
  | succ n ih =>
    intro l3 l4 u0
    rw [lp_X12_turnAt_15]
    refine xs_iload (n := 17) dX12_turnAt_15 rfl rfl ?_
    refine xs_aload_n (n := 18) dX12_turnAt_17 rfl rfl ?_
    refine ys_getr (n := 21) dX12_turnAt_18 rfl fl_X12_13 sh_150 rfl ?_
    refine xs_iload_n (n := 22) dX12_turnAt_21 rfl rfl ?_
    refine ys_iaload (n := 23) dX12_turnAt_22 rfl sh_151 ?_
    refine xs_icmp_ge (n := 26) (tgt := 64) dX12_turnAt_23 rfl rfl (fun hc2 => ?_) (fun hc2 => ?_)
    · exact xs_gf (kE (l3, l4, u0)) (And.intro rfl (And.intro rfl (And.intro rfl (And.intro rfl trivial))))
    · refine xs_iload_n (n := 27) dX12_turnAt_26 rfl rfl ?_
      refine xs_join 57 (fun q3 => [some (.ref 150), some (.ref a1), some (.int c2), none, some (.int l4)]) (fun q3 => [.int q3.1]) (fun q3 => q3.2) (fun q3 => ?_) (fun kj4 => ?_)
      · refine xs_istore_n (n := 58) (lv' := [some (.ref 150), some (.ref a1), some (.int c2), some (.int q3.1), some (.int l4)]) dX12_turnAt_57 rfl (Nat.le_of_ble_eq_true rfl) rfl ?_
        refine xs_iincl (n := 61) (dv := (1)) (fun v8 => [some (.ref 150), some (.ref a1), some (.int c2), some (.int q3.1), some (.int v8)]) dX12_turnAt_58 rfl rfl rfl (Nat.le_of_ble_eq_true rfl) (fun _ => rfl) (fun v8 => ?_)
        refine xs_goto (n := 15) dX12_turnAt_61 rfl ?_
        exact xs_gf (ih q3.1 v8 q3.2) (And.intro rfl (And.intro rfl (And.intro rfl (And.intro rfl (And.intro rfl trivial)))))
      · refine xs_if_eq (n := 30) (tgt := 56) dX12_turnAt_27 rfl rfl (fun hc5 => ?_) (fun hc5 => ?_)
        · refine xs_iconst (n := 57) (v := (0)) dX12_turnAt_56 rfl rfl ?_
          exact xs_gf (kj4 ((0), u0)) (And.intro rfl (And.intro rfl (And.intro rfl (And.intro rfl trivial))))
        · refine xs_aload_n (n := 31) dX12_turnAt_30 rfl rfl ?_
          refine ys_getr (n := 34) dX12_turnAt_31 rfl fl_X12_17 sh_150 rfl ?_
          refine xs_bipush (n := 36) (v := (6)) dX12_turnAt_34 rfl rfl ?_
          refine xs_iload_n (n := 37) dX12_turnAt_36 rfl rfl ?_
          refine xs_imul (n := 38) dX12_turnAt_37 rfl ?_
          refine xs_iload (n := 40) dX12_turnAt_38 rfl rfl ?_
          refine xs_iadd (n := 41) dX12_turnAt_40 rfl ?_
          refine xs_iconst (n := 42) (v := (4)) dX12_turnAt_41 rfl rfl ?_
          refine xs_imul (n := 43) dX12_turnAt_42 rfl ?_
          refine xs_aload_n (n := 44) dX12_turnAt_43 rfl rfl ?_
          refine ys_callsl (n := 47) (N := mt_X12_of) dX12_turnAt_44 rfl ok_X12_of tw_1078 st_X12_of ⟨Nat.le_of_ble_eq_true rfl, Nat.le_of_ble_eq_true rfl⟩ [.ref 152, .int ((((6) * c2) + l4) * (4)), .ref a1] [] rfl rfl (Nat.le_of_ble_eq_true rfl) rfl (Nat.le_of_ble_eq_true rfl) (en_X12_of m 152 120 ((((6) * c2) + l4) * (4)) a1 sh_152 ha1 u0) (fun q6 => ?_)
          refine xs_lconst (n := 48) (v := (0)) dX12_turnAt_47 rfl rfl ?_
          refine xs_lif_lt (n := 52) (pc1 := 49) (tgt := 56) dX12_turnAt_48 rfl dX12_turnAt_49 rfl rfl (fun hc7 => ?_) (fun hc7 => ?_)
          · refine xs_iconst (n := 57) (v := (0)) dX12_turnAt_56 rfl rfl ?_
            exact xs_gf (kj4 ((0), q6.2)) (And.intro rfl (And.intro rfl (And.intro rfl (And.intro rfl trivial))))
          · refine xs_iconst (n := 53) (v := (1)) dX12_turnAt_52 rfl rfl ?_
            refine xs_goto (n := 57) dX12_turnAt_53 rfl ?_
            exact xs_gf (kj4 ((1), q6.2)) (And.intro rfl (And.intro rfl (And.intro rfl (And.intro rfl trivial))))
theorem el_X12_turnAt_2 (m : Nat) (a1 : Nat) (ha1 : xsh_ a1 14 3) (K : (Int32 × xm_Y) ⊕ (Int32 × xm_Y) → Option (Int32 × xm_Y)) (hK : ∀ r, K (.inl r) = some r) (kE : ∀ q : Int32 × xm_Y, xs_ (fun x : Int32 => some (.int x)) sg_0 mt_X12_turnAt 76 [none, none, none, none, none] [] q.2 0 0 (K (.inr q))) : ∀ (n : Nat) (l2 : Int32) (u0 : xm_Y), xs_ (fun x : Int32 => some (.int x)) sg_0 mt_X12_turnAt 2 [some (.ref 150), some (.ref a1), some (.int l2), none, none] [] u0 0 0 ((lp_X12_turnAt_2 m a1 n l2 u0).bind K) := by
  intro n
  induction n with
  | zero =>
    intro l2 u0
    exact xs_none
  | succ n ih =>
    intro l2 u0
    rw [lp_X12_turnAt_2]
    refine xs_iload_n (n := 3) dX12_turnAt_2 rfl rfl ?_
    refine xs_aload_n (n := 4) dX12_turnAt_3 rfl rfl ?_
    refine ys_geti (n := 7) dX12_turnAt_4 rfl fl_X12_135 (Or.inl rfl) sh_150 ?_
    refine xs_icmp_ge (n := 10) (tgt := 76) dX12_turnAt_7 rfl rfl (fun hc1 => ?_) (fun hc1 => ?_)
    · exact xs_gf (kE (l2, u0)) trivial
    · refine xs_iconst (n := 11) (v := (1)) dX12_turnAt_10 rfl rfl ?_
      refine xs_istore_n (n := 12) (lv' := [some (.ref 150), some (.ref a1), some (.int l2), some (.int (1)), none]) dX12_turnAt_11 rfl (Nat.le_of_ble_eq_true rfl) rfl ?_
      refine xs_iconst (n := 13) (v := (0)) dX12_turnAt_12 rfl rfl ?_
      refine xs_istore (n := 15) (lv' := [some (.ref 150), some (.ref a1), some (.int l2), some (.int (1)), some (.int (0))]) dX12_turnAt_13 rfl (Nat.le_of_ble_eq_true rfl) rfl ?_
      refine xs_reg ?_
      refine xs_fg (lv' := [some (.ref 150), some (.ref a1), some (.int l2), some (.int (1)), some (.int (0))]) (And.intro rfl (And.intro rfl (And.intro rfl (And.intro rfl (And.intro rfl trivial))))) ?_
      refine el_X12_turnAt_15 m a1 l2 ha1 _ (fun q9 => ?_) m (1) (0) u0
      refine xs_iload_n (n := 65) dX12_turnAt_64 rfl rfl ?_
      refine xs_if_eq (n := 68) (tgt := 70) dX12_turnAt_65 rfl rfl (fun hc10 => ?_) (fun hc10 => ?_)
      · refine xs_iincl (n := 73) (dv := (1)) (fun v11 => [some (.ref 150), some (.ref a1), some (.int v11), some (.int q9.1), none]) dX12_turnAt_70 rfl rfl rfl (Nat.le_of_ble_eq_true rfl) (fun _ => rfl) (fun v11 => ?_)
        refine xs_goto (n := 2) dX12_turnAt_73 rfl ?_
        exact xs_gf (ih v11 q9.2.2) (And.intro rfl (And.intro rfl (And.intro rfl trivial)))
      · refine xs_iload_n (n := 69) dX12_turnAt_68 rfl rfl ?_
        exact xs_iret dX12_turnAt_69 rfl (hK _)
theorem en_X12_turnAt (m : Nat) (p : Nat) (hp_ : xsh_ p 14 3) (u0 : xm_Y) : xs_ (fun x : Int32 => some (.int x)) sg_0 mt_X12_turnAt 0 [some (.ref 150), some (.ref p), none, none, none] [] u0 0 0 (fn_X12_turnAt m p u0) := by
  refine xs_top ?_
  rw [fn_X12_turnAt]
  refine xs_iconst (n := 1) (v := (0)) dX12_turnAt_0 rfl rfl ?_
  refine xs_istore_n (n := 2) (lv' := [some (.ref 150), some (.ref p), some (.int (0)), none, none]) dX12_turnAt_1 rfl (Nat.le_of_ble_eq_true rfl) rfl ?_
  refine xs_reg ?_
  refine xs_fg (lv' := [some (.ref 150), some (.ref p), some (.int (0)), none, none]) (And.intro rfl (And.intro rfl (And.intro rfl trivial))) ?_
  refine el_X12_turnAt_2 m p hp_ _ (fun _ => rfl) (fun q12 => ?_) m (0) u0
  refine xs_inr ?_
  refine xs_iconst (n := 77) (v := (-1)) dX12_turnAt_76 rfl rfl ?_
  exact xs_iret dX12_turnAt_77 rfl rfl
def fn_X12_isFar (m : Nat) (x0 : Int64) (u0 : xm_Y) : Option (Int32 × xm_Y) :=
  ((if (1000000000000) < x0 then (
  some ((1))) else (
  if (-1000000000000) ≤ x0 then (
  some ((0))) else (
  some ((1)))) : Option (Int32)).bind fun q1 =>
  xm_chk (q1 = 0 ∨ q1 = 1) (some (q1, u0)))
theorem en_X12_isFar (m : Nat) (x0 : Int64) (u0 : xm_Y) : xs_ (fun x : Int32 => some (.int x)) sg_0 mt_X12_isFar 0 [some (.long x0), none] [] u0 0 0 (fn_X12_isFar m x0 u0) := by
  refine xs_top ?_
  rw [fn_X12_isFar]
  refine xs_lload_n (n := 1) dX12_isFar_0 rfl rfl ?_
  refine xs_ldc2 (n := 4) (v := (1000000000000)) dX12_isFar_1 rfl tw_1084 ?_
  refine xs_join 21 (fun q1 => [none, none]) (fun q1 => [.int q1]) (fun q1 => u0) (fun q1 => ?_) (fun kj2 => ?_)
  · exact xs_zret dX12_isFar_21 rfl rfl
  · refine xs_lif_gt (n := 8) (pc1 := 5) (tgt := 16) dX12_isFar_4 rfl dX12_isFar_5 rfl rfl (fun hc3 => ?_) (fun hc3 => ?_)
    · refine xs_iconst (n := 17) (v := (1)) dX12_isFar_16 rfl rfl ?_
      refine xs_goto (n := 21) dX12_isFar_17 rfl ?_
      exact xs_gf (kj2 ((1))) trivial
    · refine xs_lload_n (n := 9) dX12_isFar_8 rfl rfl ?_
      refine xs_ldc2 (n := 12) (v := (-1000000000000)) dX12_isFar_9 rfl tw_1085 ?_
      refine xs_lif_ge (n := 16) (pc1 := 13) (tgt := 20) dX12_isFar_12 rfl dX12_isFar_13 rfl rfl (fun hc4 => ?_) (fun hc4 => ?_)
      · refine xs_iconst (n := 21) (v := (0)) dX12_isFar_20 rfl rfl ?_
        exact xs_gf (kj2 ((0))) trivial
      · refine xs_iconst (n := 17) (v := (1)) dX12_isFar_16 rfl rfl ?_
        refine xs_goto (n := 21) dX12_isFar_17 rfl ?_
        exact xs_gf (kj2 ((1))) trivial
def lp_X12_turnFrom_14 (m : Nat) (a1 : Nat) (c2 : Int32) : Nat → Int32 → xm_Y → Option ((Int32 × xm_Y) ⊕ (Int32 × xm_Y))
  | 0, _, _ => none
  | n + 1, l3, u0 =>
  if (3) ≤ l3 then (
  some (.inr (l3, u0))) else (
  ((if (u0.1 150 0) ≤ l3 then (
  some ((0), u0)) else (
  ((fn_X12_of m 153 60 ((((3) * c2) + l3) * (4)) a1 u0).bind fun q7 =>
  some (q7.1, q7.2))) : Option (Int64 × xm_Y)).bind fun q4 =>
  xm_chk (xm_in l3 3) (xm_let (w_J q4.2 168 (Int32.toNatClampNeg l3) q4.1) fun u8 =>
  xm_chk (xm_in l3 3) (
  ((fn_X12_isFar m (u8.2 168 (Int32.toNatClampNeg l3)) u8).bind fun q9 =>
  if q9.1 = 0 then (
  xm_let (α := Int32) (l3 + (1)) fun v11 =>
  lp_X12_turnFrom_14 m a1 c2 n v11 q9.2) else (
  some (.inl ((-4), q9.2))))))))
def lp_X12_turnFrom_75 (m : Nat) (a1 : Nat) : Nat → Int32 → xm_Y → Option (Int32 × xm_Y)
  | 0, _, _ => none
  | n + 1, l3, u0 =>
  if (3) ≤ l3 then (
  some (l3, u0)) else (
  xm_chk (xm_in l3 3) (
  xm_chk (xm_in l3 3) (xm_let (w_J u0 a1 (Int32.toNatClampNeg l3) (u0.2 168 (Int32.toNatClampNeg l3))) fun u14 =>
  xm_let (α := Int32) (l3 + (1)) fun v15 =>
  lp_X12_turnFrom_75 m a1 n v15 u14)))
def fn_X12_turnFrom (m : Nat) (p : Nat) (u0 : xm_Y) : Option (Int32 × xm_Y) :=
  ((fn_X12_turnAt m p u0).bind fun q1 =>
  if 0 ≤ q1.1 then (
  ((lp_X12_turnFrom_14 m p q1.1 m (0) q1.2).bind (Sum.elim (fun r => some r) (fun q12 =>
  ((lp_X12_turnFrom_75 m p m (0) q12.2).bind fun q16 =>
  some ((1), q16.2)))))) else (
  some ((0), q1.2)))
theorem el_X12_turnFrom_14 (m : Nat) (a1 : Nat) (c2 : Int32) (ha1 : xsh_ a1 14 3) (K : (Int32 × xm_Y) ⊕ (Int32 × xm_Y) → Option (Int32 × xm_Y)) (hK : ∀ r, K (.inl r) = some r) (kE : ∀ q : Int32 × xm_Y, xs_ (fun x : Int32 => some (.int x)) sg_0 mt_X12_turnFrom 73 [some (.ref 150), some (.ref a1), none, none] [] q.2 0 0 (K (.inr q))) : ∀ (n : Nat) (l3 : Int32) (u0 : xm_Y), xs_ (fun x : Int32 => some (.int x)) sg_0 mt_X12_turnFrom 14 [some (.ref 150), some (.ref a1), some (.int c2), some (.int l3)] [] u0 0 0 ((lp_X12_turnFrom_14 m a1 c2 n l3 u0).bind K) := by
  intro n
  induction n with
  | zero =>
    intro l3 u0
    exact xs_none
  | succ n ih =>
    intro l3 u0
    rw [lp_X12_turnFrom_14]
    refine xs_iload_n (n := 15) dX12_turnFrom_14 rfl rfl ?_
    refine xs_iconst (n := 16) (v := (3)) dX12_turnFrom_15 rfl rfl ?_
    refine xs_icmp_ge (n := 19) (tgt := 73) dX12_turnFrom_16 rfl rfl (fun hc3 => ?_) (fun hc3 => ?_)
    · exact xs_gf (kE (l3, u0)) (And.intro rfl (And.intro rfl trivial))
    · refine xs_aload_n (n := 20) dX12_turnFrom_19 rfl rfl ?_
      refine ys_getr (n := 23) dX12_turnFrom_20 rfl fl_X12_71 sh_150 rfl ?_
      refine xs_iload_n (n := 24) dX12_turnFrom_23 rfl rfl ?_
      refine xs_iload_n (n := 25) dX12_turnFrom_24 rfl rfl ?_
      refine xs_aload_n (n := 26) dX12_turnFrom_25 rfl rfl ?_
      refine ys_geti (n := 29) dX12_turnFrom_26 rfl fl_X12_7 (Or.inl rfl) sh_150 ?_
      refine xs_join 51 (fun q4 => [some (.ref 150), some (.ref a1), some (.int c2), some (.int l3)]) (fun q4 => [.long q4.1, .int l3, .ref 168]) (fun q4 => q4.2) (fun q4 => ?_) (fun kj5 => ?_)
      · refine ys_lastore (n := 52) dX12_turnFrom_51 rfl sh_168 (fun u8 => ?_)
        refine xs_aload_n (n := 53) dX12_turnFrom_52 rfl rfl ?_
        refine ys_getr (n := 56) dX12_turnFrom_53 rfl fl_X12_71 sh_150 rfl ?_
        refine xs_iload_n (n := 57) dX12_turnFrom_56 rfl rfl ?_
        refine ys_laload (n := 58) dX12_turnFrom_57 rfl sh_168 ?_
        refine ys_callsi (n := 61) (N := mt_X12_isFar) dX12_turnFrom_58 rfl ok_X12_isFar tw_1081 st_X12_isFar ⟨Nat.le_of_ble_eq_true rfl, Nat.le_of_ble_eq_true rfl⟩ [.long (u8.2 168 (Int32.toNatClampNeg l3))] [] rfl rfl (Nat.le_of_ble_eq_true rfl) rfl (Nat.le_of_ble_eq_true rfl) (en_X12_isFar m (u8.2 168 (Int32.toNatClampNeg l3)) u8) (fun q9 => ?_)
        refine xs_if_eq (n := 64) (tgt := 67) dX12_turnFrom_61 rfl rfl (fun hc10 => ?_) (fun hc10 => ?_)
        · refine xs_iincl (n := 70) (dv := (1)) (fun v11 => [some (.ref 150), some (.ref a1), some (.int c2), some (.int v11)]) dX12_turnFrom_67 rfl rfl rfl (Nat.le_of_ble_eq_true rfl) (fun _ => rfl) (fun v11 => ?_)
          refine xs_goto (n := 14) dX12_turnFrom_70 rfl ?_
          exact xs_gf (ih v11 q9.2) (And.intro rfl (And.intro rfl (And.intro rfl (And.intro rfl trivial))))
        · refine xs_bipush (n := 66) (v := (-4)) dX12_turnFrom_64 rfl rfl ?_
          exact xs_iret dX12_turnFrom_66 rfl (hK _)
      · refine xs_icmp_ge (n := 32) (tgt := 50) dX12_turnFrom_29 rfl rfl (fun hc6 => ?_) (fun hc6 => ?_)
        · refine xs_lconst (n := 51) (v := (0)) dX12_turnFrom_50 rfl rfl ?_
          exact xs_gf (kj5 ((0), u0)) (And.intro rfl (And.intro rfl (And.intro rfl (And.intro rfl trivial))))
        · refine xs_aload_n (n := 33) dX12_turnFrom_32 rfl rfl ?_
          refine ys_getr (n := 36) dX12_turnFrom_33 rfl fl_X12_20 sh_150 rfl ?_
          refine xs_iconst (n := 37) (v := (3)) dX12_turnFrom_36 rfl rfl ?_
          refine xs_iload_n (n := 38) dX12_turnFrom_37 rfl rfl ?_
          refine xs_imul (n := 39) dX12_turnFrom_38 rfl ?_
          refine xs_iload_n (n := 40) dX12_turnFrom_39 rfl rfl ?_
          refine xs_iadd (n := 41) dX12_turnFrom_40 rfl ?_
          refine xs_iconst (n := 42) (v := (4)) dX12_turnFrom_41 rfl rfl ?_
          refine xs_imul (n := 43) dX12_turnFrom_42 rfl ?_
          refine xs_aload_n (n := 44) dX12_turnFrom_43 rfl rfl ?_
          refine ys_callsl (n := 47) (N := mt_X12_of) dX12_turnFrom_44 rfl ok_X12_of tw_1078 st_X12_of ⟨Nat.le_of_ble_eq_true rfl, Nat.le_of_ble_eq_true rfl⟩ [.ref 153, .int ((((3) * c2) + l3) * (4)), .ref a1] [.int l3, .ref 168] rfl rfl (Nat.le_of_ble_eq_true rfl) rfl (Nat.le_of_ble_eq_true rfl) (en_X12_of m 153 60 ((((3) * c2) + l3) * (4)) a1 sh_153 ha1 u0) (fun q7 => ?_)
          refine xs_goto (n := 51) dX12_turnFrom_47 rfl ?_
          exact xs_gf (kj5 (q7.1, q7.2)) (And.intro rfl (And.intro rfl (And.intro rfl (And.intro rfl trivial))))
theorem el_X12_turnFrom_75 (m : Nat) (a1 : Nat) (ha1 : xsh_ a1 14 3) (K : Int32 × xm_Y → Option (Int32 × xm_Y)) (kE : ∀ q : Int32 × xm_Y, xs_ (fun x : Int32 => some (.int x)) sg_0 mt_X12_turnFrom 95 [none, none, none, none] [] q.2 0 0 (K q)) : ∀ (n : Nat) (l3 : Int32) (u0 : xm_Y), xs_ (fun x : Int32 => some (.int x)) sg_0 mt_X12_turnFrom 75 [some (.ref 150), some (.ref a1), none, some (.int l3)] [] u0 0 0 ((lp_X12_turnFrom_75 m a1 n l3 u0).bind K) := by
  intro n
  induction n with
  | zero =>
    intro l3 u0
    exact xs_none
  | succ n ih =>
    intro l3 u0
    rw [lp_X12_turnFrom_75]
    refine xs_iload_n (n := 76) dX12_turnFrom_75 rfl rfl ?_
    refine xs_iconst (n := 77) (v := (3)) dX12_turnFrom_76 rfl rfl ?_
    refine xs_icmp_ge (n := 80) (tgt := 95) dX12_turnFrom_77 rfl rfl (fun hc13 => ?_) (fun hc13 => ?_)
    · exact xs_gf (kE (l3, u0)) trivial
    · refine xs_aload_n (n := 81) dX12_turnFrom_80 rfl rfl ?_
      refine xs_iload_n (n := 82) dX12_turnFrom_81 rfl rfl ?_
      refine xs_aload_n (n := 83) dX12_turnFrom_82 rfl rfl ?_
      refine ys_getr (n := 86) dX12_turnFrom_83 rfl fl_X12_71 sh_150 rfl ?_
      refine xs_iload_n (n := 87) dX12_turnFrom_86 rfl rfl ?_
      refine ys_laload (n := 88) dX12_turnFrom_87 rfl sh_168 ?_
      refine ys_lastore (n := 89) dX12_turnFrom_88 rfl ha1 (fun u14 => ?_)
      refine xs_iincl (n := 92) (dv := (1)) (fun v15 => [some (.ref 150), some (.ref a1), none, some (.int v15)]) dX12_turnFrom_89 rfl rfl rfl (Nat.le_of_ble_eq_true rfl) (fun _ => rfl) (fun v15 => ?_)
      refine xs_goto (n := 75) dX12_turnFrom_92 rfl ?_
      exact xs_gf (ih v15 u14) (And.intro rfl (And.intro rfl (And.intro rfl trivial)))
theorem en_X12_turnFrom (m : Nat) (p : Nat) (hp_ : xsh_ p 14 3) (u0 : xm_Y) : xs_ (fun x : Int32 => some (.int x)) sg_0 mt_X12_turnFrom 0 [some (.ref 150), some (.ref p), none, none] [] u0 0 0 (fn_X12_turnFrom m p u0) := by
  refine xs_top ?_
  rw [fn_X12_turnFrom]
  refine xs_aload_n (n := 1) dX12_turnFrom_0 rfl rfl ?_
  refine xs_aload_n (n := 2) dX12_turnFrom_1 rfl rfl ?_
  refine ys_callvi (n := 5) (N := mt_X12_turnAt) dX12_turnFrom_2 rfl ok_X12_turnAt tw_1074 im_X12_turnAt se_X12_turnAt ⟨Nat.le_of_ble_eq_true rfl, Nat.le_of_ble_eq_true rfl⟩ [.ref p] [] rfl rfl (Nat.le_of_ble_eq_true rfl) rfl (Nat.le_of_ble_eq_true rfl) (en_X12_turnAt m p hp_ u0) sh_150 (by decide) rfl (fun q1 => ?_)
  refine xs_istore_n (n := 6) (lv' := [some (.ref 150), some (.ref p), some (.int q1.1), none]) dX12_turnFrom_5 rfl (Nat.le_of_ble_eq_true rfl) rfl ?_
  refine xs_iload_n (n := 7) dX12_turnFrom_6 rfl rfl ?_
  refine xs_if_ge (n := 10) (tgt := 12) dX12_turnFrom_7 rfl rfl (fun hc2 => ?_) (fun hc2 => ?_)
  · refine xs_iconst (n := 13) (v := (0)) dX12_turnFrom_12 rfl rfl ?_
    refine xs_istore_n (n := 14) (lv' := [some (.ref 150), some (.ref p), some (.int q1.1), some (.int (0))]) dX12_turnFrom_13 rfl (Nat.le_of_ble_eq_true rfl) rfl ?_
    refine xs_reg ?_
    refine xs_fg (lv' := [some (.ref 150), some (.ref p), some (.int q1.1), some (.int (0))]) (And.intro rfl (And.intro rfl (And.intro rfl (And.intro rfl trivial)))) ?_
    refine el_X12_turnFrom_14 m p q1.1 hp_ _ (fun _ => rfl) (fun q12 => ?_) m (0) q1.2
    refine xs_inr ?_
    refine xs_iconst (n := 74) (v := (0)) dX12_turnFrom_73 rfl rfl ?_
    refine xs_istore_n (n := 75) (lv' := [some (.ref 150), some (.ref p), none, some (.int (0))]) dX12_turnFrom_74 rfl (Nat.le_of_ble_eq_true rfl) rfl ?_
    refine xs_reg ?_
    refine xs_fg (lv' := [some (.ref 150), some (.ref p), none, some (.int (0))]) (And.intro rfl (And.intro rfl (And.intro rfl trivial))) ?_
    refine el_X12_turnFrom_75 m p hp_ _ (fun q16 => ?_) m (0) q12.2
    refine xs_iconst (n := 96) (v := (1)) dX12_turnFrom_95 rfl rfl ?_
    exact xs_iret dX12_turnFrom_96 rfl rfl
  · refine xs_iconst (n := 11) (v := (0)) dX12_turnFrom_10 rfl rfl ?_
    exact xs_iret dX12_turnFrom_11 rfl rfl
def lp_X12_run_16 (m : Nat) (c1 : Int32) : Nat → Int32 → xm_Y → Option ((Int32 × xm_Y) ⊕ (Int32 × xm_Y))
  | 0, _, _ => none
  | n + 1, l2, u0 =>
  if c1 ≤ l2 then (
  some (.inr (l2, u0))) else (
  ((fn_X12_turnFrom m 154 u0).bind fun q4 =>
  if q4.1 = (1) then (
  xm_let (α := Int32) (l2 + (1)) fun v6 =>
  lp_X12_run_16 m c1 n v6 q4.2) else (
  if q4.1 = 0 then (
  some (.inl (l2, q4.2))) else (
  some (.inl ((-4), q4.2))))))
def fn_X12_run (m : Nat) (x0 : Int32) (u0 : xm_Y) : Option (Int32 × xm_Y) :=
  if x0 < (1) then (
  some ((-1), u0)) else (
  if x0 ≤ (10000) then (
  ((lp_X12_run_16 m x0 m (0) u0).bind (Sum.elim (fun r => some r) (fun q8 =>
  some (x0, q8.2))))) else (
  some ((-1), u0)))
theorem el_X12_run_16 (m : Nat) (c1 : Int32) (K : (Int32 × xm_Y) ⊕ (Int32 × xm_Y) → Option (Int32 × xm_Y)) (hK : ∀ r, K (.inl r) = some r) (kE : ∀ q : Int32 × xm_Y, xs_ (fun x : Int32 => some (.int x)) sg_0 mt_X12_run 52 [none, some (.int c1), none, none] [] q.2 0 0 (K (.inr q))) : ∀ (n : Nat) (l2 : Int32) (u0 : xm_Y), xs_ (fun x : Int32 => some (.int x)) sg_0 mt_X12_run 16 [some (.ref 150), some (.int c1), some (.int l2), none] [] u0 0 0 ((lp_X12_run_16 m c1 n l2 u0).bind K) := by
  intro n
  induction n with
  | zero =>
    intro l2 u0
    exact xs_none
  | succ n ih =>
    intro l2 u0
    rw [lp_X12_run_16]
    refine xs_iload_n (n := 17) dX12_run_16 rfl rfl ?_
    refine xs_iload_n (n := 18) dX12_run_17 rfl rfl ?_
    refine xs_icmp_ge (n := 21) (tgt := 52) dX12_run_18 rfl rfl (fun hc3 => ?_) (fun hc3 => ?_)
    · exact xs_gf (kE (l2, u0)) (And.intro rfl trivial)
    · refine xs_aload_n (n := 22) dX12_run_21 rfl rfl ?_
      refine xs_aload_n (n := 23) dX12_run_22 rfl rfl ?_
      refine ys_getr (n := 26) dX12_run_23 rfl fl_X12_23 sh_150 rfl ?_
      refine ys_callvi (n := 29) (N := mt_X12_turnFrom) dX12_run_26 rfl ok_X12_turnFrom tw_1070 im_X12_turnFrom se_X12_turnFrom ⟨Nat.le_of_ble_eq_true rfl, Nat.le_of_ble_eq_true rfl⟩ [.ref 154] [] rfl rfl (Nat.le_of_ble_eq_true rfl) rfl (Nat.le_of_ble_eq_true rfl) (en_X12_turnFrom m 154 sh_154 u0) sh_150 (by decide) rfl (fun q4 => ?_)
      refine xs_istore_n (n := 30) (lv' := [some (.ref 150), some (.int c1), some (.int l2), some (.int q4.1)]) dX12_run_29 rfl (Nat.le_of_ble_eq_true rfl) rfl ?_
      refine xs_iload_n (n := 31) dX12_run_30 rfl rfl ?_
      refine xs_iconst (n := 32) (v := (1)) dX12_run_31 rfl rfl ?_
      refine xs_icmp_eq (n := 35) (tgt := 46) dX12_run_32 rfl rfl (fun hc5 => ?_) (fun hc5 => ?_)
      · refine xs_iincl (n := 49) (dv := (1)) (fun v6 => [some (.ref 150), some (.int c1), some (.int v6), some (.int q4.1)]) dX12_run_46 rfl rfl rfl (Nat.le_of_ble_eq_true rfl) (fun _ => rfl) (fun v6 => ?_)
        refine xs_goto (n := 16) dX12_run_49 rfl ?_
        exact xs_gf (ih v6 q4.2) (And.intro rfl (And.intro rfl (And.intro rfl trivial)))
      · refine xs_iload_n (n := 36) dX12_run_35 rfl rfl ?_
        refine xs_if_ne (n := 39) (tgt := 43) dX12_run_36 rfl rfl (fun hc7 => ?_) (fun hc7 => ?_)
        · refine xs_iload_n (n := 40) dX12_run_39 rfl rfl ?_
          refine xs_goto (n := 45) dX12_run_40 rfl ?_
          exact xs_iret dX12_run_45 rfl (hK _)
        · refine xs_bipush (n := 45) (v := (-4)) dX12_run_43 rfl rfl ?_
          exact xs_iret dX12_run_45 rfl (hK _)
theorem en_X12_run (m : Nat) (x0 : Int32) (u0 : xm_Y) : xs_ (fun x : Int32 => some (.int x)) sg_0 mt_X12_run 0 [some (.ref 150), some (.int x0), none, none] [] u0 0 0 (fn_X12_run m x0 u0) := by
  refine xs_top ?_
  rw [fn_X12_run]
  refine xs_iload_n (n := 1) dX12_run_0 rfl rfl ?_
  refine xs_iconst (n := 2) (v := (1)) dX12_run_1 rfl rfl ?_
  refine xs_icmp_lt (n := 5) (tgt := 12) dX12_run_2 rfl rfl (fun hc1 => ?_) (fun hc1 => ?_)
  · refine xs_iconst (n := 13) (v := (-1)) dX12_run_12 rfl rfl ?_
    exact xs_iret dX12_run_13 rfl rfl
  · refine xs_iload_n (n := 6) dX12_run_5 rfl rfl ?_
    refine xs_sipush (n := 9) (v := (10000)) dX12_run_6 rfl rfl ?_
    refine xs_icmp_le (n := 12) (tgt := 14) dX12_run_9 rfl rfl (fun hc2 => ?_) (fun hc2 => ?_)
    · refine xs_iconst (n := 15) (v := (0)) dX12_run_14 rfl rfl ?_
      refine xs_istore_n (n := 16) (lv' := [some (.ref 150), some (.int x0), some (.int (0)), none]) dX12_run_15 rfl (Nat.le_of_ble_eq_true rfl) rfl ?_
      refine xs_reg ?_
      refine xs_fg (lv' := [some (.ref 150), some (.int x0), some (.int (0)), none]) (And.intro rfl (And.intro rfl (And.intro rfl trivial))) ?_
      refine el_X12_run_16 m x0 _ (fun _ => rfl) (fun q8 => ?_) m (0) u0
      refine xs_inr ?_
      refine xs_iload_n (n := 53) dX12_run_52 rfl rfl ?_
      exact xs_iret dX12_run_53 rfl rfl
    · refine xs_iconst (n := 13) (v := (-1)) dX12_run_12 rfl rfl ?_
      exact xs_iret dX12_run_13 rfl rfl
def fn_X12_turn (m : Nat) (u0 : xm_Y) : Option (Int32 × xm_Y) :=
  ((fn_X12_turnAt m 154 u0).bind fun q1 =>
  some (q1.1, q1.2))
theorem en_X12_turn (m : Nat) (u0 : xm_Y) : xs_ (fun x : Int32 => some (.int x)) sg_0 mt_X12_turn 0 [some (.ref 150)] [] u0 0 0 (fn_X12_turn m u0) := by
  refine xs_top ?_
  rw [fn_X12_turn]
  refine xs_aload_n (n := 1) dX12_turn_0 rfl rfl ?_
  refine xs_aload_n (n := 2) dX12_turn_1 rfl rfl ?_
  refine ys_getr (n := 5) dX12_turn_2 rfl fl_X12_23 sh_150 rfl ?_
  refine ys_callvi (n := 8) (N := mt_X12_turnAt) dX12_turn_5 rfl ok_X12_turnAt tw_1074 im_X12_turnAt se_X12_turnAt ⟨Nat.le_of_ble_eq_true rfl, Nat.le_of_ble_eq_true rfl⟩ [.ref 154] [] rfl rfl (Nat.le_of_ble_eq_true rfl) rfl (Nat.le_of_ble_eq_true rfl) (en_X12_turnAt m 154 sh_154 u0) sh_150 (by decide) rfl (fun q1 => ?_)
  exact xs_iret dX12_turn_8 rfl rfl
def lp_X12_keep_33 (m : Nat) (u0 : xm_Y) : Nat → Int32 → Option ((Int32 × xm_Y) ⊕ (Int32))
  | 0, _ => none
  | n + 1, l5 =>
  xm_chk (xm_in l5 32768) (
  if (u0.1 166 (Int32.toNatClampNeg l5)) ≤ 0 then (
  some (.inr (l5))) else (
  xm_chk (xm_in l5 32768) (
  xm_let (α := Int32) (((3) * ((u0.1 166 (Int32.toNatClampNeg l5)) - (1)))) fun v4 =>
  xm_chk (xm_in v4 30003) (
  xm_chk (xm_in (0) 3) (
  if (u0.2 165 (Int32.toNatClampNeg v4)) = (u0.2 167 (Int32.toNatClampNeg (0))) then (
  xm_chk (xm_in (v4 + (1)) 30003) (
  xm_chk (xm_in (1) 3) (
  if (u0.2 165 (Int32.toNatClampNeg (v4 + (1)))) = (u0.2 167 (Int32.toNatClampNeg (1))) then (
  xm_chk (xm_in (v4 + (2)) 30003) (
  xm_chk (xm_in (2) 3) (
  if (u0.2 165 (Int32.toNatClampNeg (v4 + (2)))) = (u0.2 167 (Int32.toNatClampNeg (2))) then (
  xm_chk (xm_in l5 32768) (
  some (.inl (((u0.1 166 (Int32.toNatClampNeg l5)) - (1)), u0)))) else (
  xm_let (α := Int32) (((l5 + (1)) &&& (32767))) fun v8 =>
  lp_X12_keep_33 m u0 n v8)))) else (
  xm_let (α := Int32) (((l5 + (1)) &&& (32767))) fun v9 =>
  lp_X12_keep_33 m u0 n v9)))) else (
  xm_let (α := Int32) (((l5 + (1)) &&& (32767))) fun v10 =>
  lp_X12_keep_33 m u0 n v10))))))
def lp_X12_keep_138 (m : Nat) (c2 : Int32) : Nat → Int32 → xm_Y → Option (Int32 × xm_Y)
  | 0, _, _ => none
  | n + 1, l6, u0 =>
  if (3) ≤ l6 then (
  some (l6, u0)) else (
  xm_chk (xm_in l6 3) (
  xm_chk (xm_in (((3) * c2) + l6) 30003) (xm_let (w_J u0 165 (Int32.toNatClampNeg (((3) * c2) + l6)) (u0.2 167 (Int32.toNatClampNeg l6))) fun u14 =>
  xm_let (α := Int32) (l6 + (1)) fun v15 =>
  lp_X12_keep_138 m c2 n v15 u14)))
def fn_X12_keep (m : Nat) (x0 : Int32) (u0 : xm_Y) : Option (Int32 × xm_Y) :=
  xm_chk (xm_in (0) 3) (
  xm_chk (xm_in (1) 3) (
  xm_chk (xm_in (2) 3) (
  xm_let (α := Int64) ((((((u0.2 167 (Int32.toNatClampNeg (0))) * (31)) + (u0.2 167 (Int32.toNatClampNeg (1)))) * (1000003)) + (u0.2 167 (Int32.toNatClampNeg (2))))) fun v1 =>
  xm_let (α := Int32) ((Int64.toInt32 ((v1 ^^^ ((Int64.toUInt64 v1 >>> (Int64.toUInt64 (Int32.toInt64 (29)) &&& Int64.toUInt64 63)).toInt64)) &&& (32767)))) fun v2 =>
  ((lp_X12_keep_33 m u0 m v2).bind (Sum.elim (fun r => some r) (fun q11 =>
  xm_chk (xm_in q11 32768) (xm_let (w_I u0 166 (Int32.toNatClampNeg q11) (x0 + (1))) fun u12 =>
  ((lp_X12_keep_138 m x0 m (0) u12).bind fun q16 =>
  some ((-1), q16.2)))))))))
theorem el_X12_keep_33 (m : Nat) (c2 : Int32) (u0 : xm_Y) (K : (Int32 × xm_Y) ⊕ (Int32) → Option (Int32 × xm_Y)) (hK : ∀ r, K (.inl r) = some r) (kE : ∀ q : Int32, xs_ (fun x : Int32 => some (.int x)) sg_0 mt_X12_keep 125 [some (.ref 150), some (.ref 167), some (.int c2), none, none, some (.int q), none] [] u0 0 0 (K (.inr q))) : ∀ (n : Nat) (l5 : Int32), xs_ (fun x : Int32 => some (.int x)) sg_0 mt_X12_keep 33 [some (.ref 150), some (.ref 167), some (.int c2), none, none, some (.int l5), none] [] u0 0 0 ((lp_X12_keep_33 m u0 n l5).bind K) := by
  intro n
  induction n with
  | zero =>
    intro l5
    exact xs_none
  | succ n ih =>
    intro l5
    rw [lp_X12_keep_33]
    refine xs_aload_n (n := 34) dX12_keep_33 rfl rfl ?_
    refine ys_getr (n := 37) dX12_keep_34 rfl fl_X12_62 sh_150 rfl ?_
    refine xs_iload (n := 39) dX12_keep_37 rfl rfl ?_
    refine ys_iaload (n := 40) dX12_keep_39 rfl sh_166 ?_
    refine xs_if_le (n := 43) (tgt := 125) dX12_keep_40 rfl rfl (fun hc3 => ?_) (fun hc3 => ?_)
    · exact xs_gf (kE (l5)) (And.intro rfl (And.intro rfl (And.intro rfl (And.intro rfl trivial))))
    · refine xs_iconst (n := 44) (v := (3)) dX12_keep_43 rfl rfl ?_
      refine xs_aload_n (n := 45) dX12_keep_44 rfl rfl ?_
      refine ys_getr (n := 48) dX12_keep_45 rfl fl_X12_62 sh_150 rfl ?_
      refine xs_iload (n := 50) dX12_keep_48 rfl rfl ?_
      refine ys_iaload (n := 51) dX12_keep_50 rfl sh_166 ?_
      refine xs_iconst (n := 52) (v := (1)) dX12_keep_51 rfl rfl ?_
      refine xs_isub (n := 53) dX12_keep_52 rfl ?_
      refine xs_imul (n := 54) dX12_keep_53 rfl ?_
      refine xs_leti (fun v4 => ?_)
      refine xs_istore (n := 56) (lv' := [some (.ref 150), some (.ref 167), some (.int c2), none, none, some (.int l5), some (.int v4)]) dX12_keep_54 rfl (Nat.le_of_ble_eq_true rfl) rfl ?_
      refine xs_aload_n (n := 57) dX12_keep_56 rfl rfl ?_
      refine ys_getr (n := 60) dX12_keep_57 rfl fl_X12_58 sh_150 rfl ?_
      refine xs_iload (n := 62) dX12_keep_60 rfl rfl ?_
      refine ys_laload (n := 63) dX12_keep_62 rfl sh_165 ?_
      refine xs_aload_n (n := 64) dX12_keep_63 rfl rfl ?_
      refine xs_iconst (n := 65) (v := (0)) dX12_keep_64 rfl rfl ?_
      refine ys_laload (n := 66) dX12_keep_65 rfl sh_167 ?_
      refine xs_lif_ne (n := 70) (pc1 := 67) (tgt := 112) dX12_keep_66 rfl dX12_keep_67 rfl rfl (fun hc5 => ?_) (fun hc5 => ?_)
      · refine xs_aload_n (n := 71) dX12_keep_70 rfl rfl ?_
        refine ys_getr (n := 74) dX12_keep_71 rfl fl_X12_58 sh_150 rfl ?_
        refine xs_iload (n := 76) dX12_keep_74 rfl rfl ?_
        refine xs_iconst (n := 77) (v := (1)) dX12_keep_76 rfl rfl ?_
        refine xs_iadd (n := 78) dX12_keep_77 rfl ?_
        refine ys_laload (n := 79) dX12_keep_78 rfl sh_165 ?_
        refine xs_aload_n (n := 80) dX12_keep_79 rfl rfl ?_
        refine xs_iconst (n := 81) (v := (1)) dX12_keep_80 rfl rfl ?_
        refine ys_laload (n := 82) dX12_keep_81 rfl sh_167 ?_
        refine xs_lif_ne (n := 86) (pc1 := 83) (tgt := 112) dX12_keep_82 rfl dX12_keep_83 rfl rfl (fun hc6 => ?_) (fun hc6 => ?_)
        · refine xs_aload_n (n := 87) dX12_keep_86 rfl rfl ?_
          refine ys_getr (n := 90) dX12_keep_87 rfl fl_X12_58 sh_150 rfl ?_
          refine xs_iload (n := 92) dX12_keep_90 rfl rfl ?_
          refine xs_iconst (n := 93) (v := (2)) dX12_keep_92 rfl rfl ?_
          refine xs_iadd (n := 94) dX12_keep_93 rfl ?_
          refine ys_laload (n := 95) dX12_keep_94 rfl sh_165 ?_
          refine xs_aload_n (n := 96) dX12_keep_95 rfl rfl ?_
          refine xs_iconst (n := 97) (v := (2)) dX12_keep_96 rfl rfl ?_
          refine ys_laload (n := 98) dX12_keep_97 rfl sh_167 ?_
          refine xs_lif_ne (n := 102) (pc1 := 99) (tgt := 112) dX12_keep_98 rfl dX12_keep_99 rfl rfl (fun hc7 => ?_) (fun hc7 => ?_)
          · refine xs_aload_n (n := 103) dX12_keep_102 rfl rfl ?_
            refine ys_getr (n := 106) dX12_keep_103 rfl fl_X12_62 sh_150 rfl ?_
            refine xs_iload (n := 108) dX12_keep_106 rfl rfl ?_
            refine ys_iaload (n := 109) dX12_keep_108 rfl sh_166 ?_
            refine xs_iconst (n := 110) (v := (1)) dX12_keep_109 rfl rfl ?_
            refine xs_isub (n := 111) dX12_keep_110 rfl ?_
            exact xs_iret dX12_keep_111 rfl (hK _)
          · refine xs_iload (n := 114) dX12_keep_112 rfl rfl ?_
            refine xs_iconst (n := 115) (v := (1)) dX12_keep_114 rfl rfl ?_
            refine xs_iadd (n := 116) dX12_keep_115 rfl ?_
            refine xs_sipush (n := 119) (v := (32767)) dX12_keep_116 rfl rfl ?_
            refine xs_iand (n := 120) dX12_keep_119 rfl ?_
            refine xs_leti (fun v8 => ?_)
            refine xs_istore (n := 122) (lv' := [some (.ref 150), some (.ref 167), some (.int c2), none, none, some (.int v8), some (.int v4)]) dX12_keep_120 rfl (Nat.le_of_ble_eq_true rfl) rfl ?_
            refine xs_goto (n := 33) dX12_keep_122 rfl ?_
            exact xs_gf (ih v8) (And.intro rfl (And.intro rfl (And.intro rfl (And.intro rfl trivial))))
        · refine xs_iload (n := 114) dX12_keep_112 rfl rfl ?_
          refine xs_iconst (n := 115) (v := (1)) dX12_keep_114 rfl rfl ?_
          refine xs_iadd (n := 116) dX12_keep_115 rfl ?_
          refine xs_sipush (n := 119) (v := (32767)) dX12_keep_116 rfl rfl ?_
          refine xs_iand (n := 120) dX12_keep_119 rfl ?_
          refine xs_leti (fun v9 => ?_)
          refine xs_istore (n := 122) (lv' := [some (.ref 150), some (.ref 167), some (.int c2), none, none, some (.int v9), some (.int v4)]) dX12_keep_120 rfl (Nat.le_of_ble_eq_true rfl) rfl ?_
          refine xs_goto (n := 33) dX12_keep_122 rfl ?_
          exact xs_gf (ih v9) (And.intro rfl (And.intro rfl (And.intro rfl (And.intro rfl trivial))))
      · refine xs_iload (n := 114) dX12_keep_112 rfl rfl ?_
        refine xs_iconst (n := 115) (v := (1)) dX12_keep_114 rfl rfl ?_
        refine xs_iadd (n := 116) dX12_keep_115 rfl ?_
        refine xs_sipush (n := 119) (v := (32767)) dX12_keep_116 rfl rfl ?_
        refine xs_iand (n := 120) dX12_keep_119 rfl ?_
        refine xs_leti (fun v10 => ?_)
        refine xs_istore (n := 122) (lv' := [some (.ref 150), some (.ref 167), some (.int c2), none, none, some (.int v10), some (.int v4)]) dX12_keep_120 rfl (Nat.le_of_ble_eq_true rfl) rfl ?_
        refine xs_goto (n := 33) dX12_keep_122 rfl ?_
        exact xs_gf (ih v10) (And.intro rfl (And.intro rfl (And.intro rfl (And.intro rfl trivial))))
theorem el_X12_keep_138 (m : Nat) (c2 : Int32) (K : Int32 × xm_Y → Option (Int32 × xm_Y)) (kE : ∀ q : Int32 × xm_Y, xs_ (fun x : Int32 => some (.int x)) sg_0 mt_X12_keep 165 [none, none, none, none, none, none, none] [] q.2 0 0 (K q)) : ∀ (n : Nat) (l6 : Int32) (u0 : xm_Y), xs_ (fun x : Int32 => some (.int x)) sg_0 mt_X12_keep 138 [some (.ref 150), some (.ref 167), some (.int c2), none, none, none, some (.int l6)] [] u0 0 0 ((lp_X12_keep_138 m c2 n l6 u0).bind K) := by
  intro n
  induction n with
  | zero =>
    intro l6 u0
    exact xs_none
  | succ n ih =>
    intro l6 u0
    rw [lp_X12_keep_138]
    refine xs_iload (n := 140) dX12_keep_138 rfl rfl ?_
    refine xs_iconst (n := 141) (v := (3)) dX12_keep_140 rfl rfl ?_
    refine xs_icmp_ge (n := 144) (tgt := 165) dX12_keep_141 rfl rfl (fun hc13 => ?_) (fun hc13 => ?_)
    · exact xs_gf (kE (l6, u0)) trivial
    · refine xs_aload_n (n := 145) dX12_keep_144 rfl rfl ?_
      refine ys_getr (n := 148) dX12_keep_145 rfl fl_X12_58 sh_150 rfl ?_
      refine xs_iconst (n := 149) (v := (3)) dX12_keep_148 rfl rfl ?_
      refine xs_iload_n (n := 150) dX12_keep_149 rfl rfl ?_
      refine xs_imul (n := 151) dX12_keep_150 rfl ?_
      refine xs_iload (n := 153) dX12_keep_151 rfl rfl ?_
      refine xs_iadd (n := 154) dX12_keep_153 rfl ?_
      refine xs_aload_n (n := 155) dX12_keep_154 rfl rfl ?_
      refine xs_iload (n := 157) dX12_keep_155 rfl rfl ?_
      refine ys_laload (n := 158) dX12_keep_157 rfl sh_167 ?_
      refine ys_lastore (n := 159) dX12_keep_158 rfl sh_165 (fun u14 => ?_)
      refine xs_iincl (n := 162) (dv := (1)) (fun v15 => [some (.ref 150), some (.ref 167), some (.int c2), none, none, none, some (.int v15)]) dX12_keep_159 rfl rfl rfl (Nat.le_of_ble_eq_true rfl) (fun _ => rfl) (fun v15 => ?_)
      refine xs_goto (n := 138) dX12_keep_162 rfl ?_
      exact xs_gf (ih v15 u14) (And.intro rfl (And.intro rfl (And.intro rfl (And.intro rfl trivial))))
theorem en_X12_keep (m : Nat) (x0 : Int32) (u0 : xm_Y) : xs_ (fun x : Int32 => some (.int x)) sg_0 mt_X12_keep 0 [some (.ref 150), some (.ref 167), some (.int x0), none, none, none, none] [] u0 0 0 (fn_X12_keep m x0 u0) := by
  refine xs_top ?_
  rw [fn_X12_keep]
  refine xs_aload_n (n := 1) dX12_keep_0 rfl rfl ?_
  refine xs_iconst (n := 2) (v := (0)) dX12_keep_1 rfl rfl ?_
  refine ys_laload (n := 3) dX12_keep_2 rfl sh_167 ?_
  refine xs_ldc2 (n := 6) (v := (31)) dX12_keep_3 rfl tw_1098 ?_
  refine xs_lmul (n := 7) dX12_keep_6 rfl ?_
  refine xs_aload_n (n := 8) dX12_keep_7 rfl rfl ?_
  refine xs_iconst (n := 9) (v := (1)) dX12_keep_8 rfl rfl ?_
  refine ys_laload (n := 10) dX12_keep_9 rfl sh_167 ?_
  refine xs_ladd (n := 11) dX12_keep_10 rfl ?_
  refine xs_ldc2 (n := 14) (v := (1000003)) dX12_keep_11 rfl tw_1099 ?_
  refine xs_lmul (n := 15) dX12_keep_14 rfl ?_
  refine xs_aload_n (n := 16) dX12_keep_15 rfl rfl ?_
  refine xs_iconst (n := 17) (v := (2)) dX12_keep_16 rfl rfl ?_
  refine ys_laload (n := 18) dX12_keep_17 rfl sh_167 ?_
  refine xs_ladd (n := 19) dX12_keep_18 rfl ?_
  refine xs_letl (fun v1 => ?_)
  refine xs_lstore_n (n := 20) (lv' := [some (.ref 150), some (.ref 167), some (.int x0), some (.long v1), none, none, none]) dX12_keep_19 rfl (Nat.le_of_ble_eq_true rfl) rfl ?_
  refine xs_lload_n (n := 21) dX12_keep_20 rfl rfl ?_
  refine xs_lload_n (n := 22) dX12_keep_21 rfl rfl ?_
  refine xs_bipush (n := 24) (v := (29)) dX12_keep_22 rfl rfl ?_
  refine xs_lushr (n := 25) dX12_keep_24 rfl ?_
  refine xs_lxor (n := 26) dX12_keep_25 rfl ?_
  refine xs_ldc2 (n := 29) (v := (32767)) dX12_keep_26 rfl tw_1100 ?_
  refine xs_land (n := 30) dX12_keep_29 rfl ?_
  refine xs_l2i (n := 31) dX12_keep_30 rfl ?_
  refine xs_leti (fun v2 => ?_)
  refine xs_istore (n := 33) (lv' := [some (.ref 150), some (.ref 167), some (.int x0), some (.long v1), none, some (.int v2), none]) dX12_keep_31 rfl (Nat.le_of_ble_eq_true rfl) rfl ?_
  refine xs_reg ?_
  refine xs_fg (lv' := [some (.ref 150), some (.ref 167), some (.int x0), none, none, some (.int v2), none]) (And.intro rfl (And.intro rfl (And.intro rfl (And.intro rfl trivial)))) ?_
  refine el_X12_keep_33 m x0 u0 _ (fun _ => rfl) (fun q11 => ?_) m v2
  refine xs_inr ?_
  refine xs_aload_n (n := 126) dX12_keep_125 rfl rfl ?_
  refine ys_getr (n := 129) dX12_keep_126 rfl fl_X12_62 sh_150 rfl ?_
  refine xs_iload (n := 131) dX12_keep_129 rfl rfl ?_
  refine xs_iload_n (n := 132) dX12_keep_131 rfl rfl ?_
  refine xs_iconst (n := 133) (v := (1)) dX12_keep_132 rfl rfl ?_
  refine xs_iadd (n := 134) dX12_keep_133 rfl ?_
  refine ys_iastore (n := 135) dX12_keep_134 rfl sh_166 (fun u12 => ?_)
  refine xs_iconst (n := 136) (v := (0)) dX12_keep_135 rfl rfl ?_
  refine xs_istore (n := 138) (lv' := [some (.ref 150), some (.ref 167), some (.int x0), none, none, some (.int q11), some (.int (0))]) dX12_keep_136 rfl (Nat.le_of_ble_eq_true rfl) rfl ?_
  refine xs_reg ?_
  refine xs_fg (lv' := [some (.ref 150), some (.ref 167), some (.int x0), none, none, none, some (.int (0))]) (And.intro rfl (And.intro rfl (And.intro rfl (And.intro rfl trivial)))) ?_
  refine el_X12_keep_138 m x0 _ (fun q16 => ?_) m (0) u12
  refine xs_iconst (n := 166) (v := (-1)) dX12_keep_165 rfl rfl ?_
  exact xs_iret dX12_keep_166 rfl rfl
