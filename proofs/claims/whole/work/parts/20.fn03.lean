def fn_X11_openTheBox (m : Nat) (u0 : xm_Y) : Option (Unit × xm_Y) :=
  ((fn_X2_openAll m 127 (u0.1 1 1) u0).bind fun q1 =>
  ((fn_X11_forgetPlaces m q1.2).bind fun q2 =>
  some ((), q2.2)))
theorem en_X11_openTheBox (m : Nat) (u0 : xm_Y) : xs_ (fun _ : Unit => none) sg_0 mt_X11_openTheBox 0 [some (.ref 0)] [] u0 0 0 (fn_X11_openTheBox m u0) := by
  refine xs_top ?_
  rw [fn_X11_openTheBox]
  refine xs_aload_n (n := 1) dX11_openTheBox_0 rfl rfl ?_
  refine ys_getr (n := 4) dX11_openTheBox_1 rfl fl_X11_30 sh_0 rfl ?_
  refine xs_aload_n (n := 5) dX11_openTheBox_4 rfl rfl ?_
  refine ys_getr (n := 8) dX11_openTheBox_5 rfl fl_X11_10 sh_0 rfl ?_
  refine ys_geti (n := 11) dX11_openTheBox_8 rfl fl_X11_69 (Or.inl rfl) sh_1 ?_
  refine ys_callvv (n := 14) (N := mt_X2_openAll) dX11_openTheBox_11 rfl ok_X2_openAll tw_279 im_X2_openAll se_X2_openAll ⟨Nat.le_of_ble_eq_true rfl, Nat.le_of_ble_eq_true rfl⟩ [.int (u0.1 1 1)] [] rfl rfl (Nat.le_of_ble_eq_true rfl) rfl (Nat.le_of_ble_eq_true rfl) (en_X2_openAll m 127 (u0.1 1 1) bx_127 u0) bx_127.1 (by decide) rfl (fun q1 => ?_)
  refine xs_aload_n (n := 15) dX11_openTheBox_14 rfl rfl ?_
  refine ys_callvv (n := 18) (N := mt_X11_forgetPlaces) dX11_openTheBox_15 rfl ok_X11_forgetPlaces tw_343 im_X11_forgetPlaces se_X11_forgetPlaces ⟨Nat.le_of_ble_eq_true rfl, Nat.le_of_ble_eq_true rfl⟩ [] [] rfl rfl (Nat.le_of_ble_eq_true rfl) rfl (Nat.le_of_ble_eq_true rfl) (en_X11_forgetPlaces m q1.2) sh_0 (by decide) rfl (fun q2 => ?_)
  exact xs_vret dX11_openTheBox_18 rfl rfl
def fn_X11_loop (m : Nat) (x0 : Int32) (u0 : xm_Y) : Option (Int32 × xm_Y) :=
  if x0 < (1 : Int32) then (
  some ((-1 : Int32), u0)) else (
  if x0 ≤ (3 : Int32) then (
  xm_let (α := Int32) ((u0.1 1 1)) fun v3 =>
  ((fn_X7_startAnew m x0 u0).bind fun q4 =>
  ((fn_J7_fill_d0a16 m 123 3 (0 : Int64) q4.2).bind fun q5 =>
  ((fn_X2_zeroAll m 129 q5.2).bind fun q6 =>
  ((fn_X4_forgetRing m q6.2).bind fun q7 =>
  ((fn_X5_forgetAll m q7.2).bind fun q8 =>
  ((fn_X11_openTheBox m q8.2).bind fun q9 =>
  some (v3, q9.2)))))))) else (
  some ((-1 : Int32), u0)))
theorem en_X11_loop (m : Nat) (x0 : Int32) (u0 : xm_Y) : xs_ (fun x : Int32 => some (.int x)) sg_0 mt_X11_loop 0 [some (.ref 0), some (.int x0), none] [] u0 0 0 (fn_X11_loop m x0 u0) := by
  refine xs_top ?_
  rw [fn_X11_loop]
  refine xs_iload_n (n := 1) dX11_loop_0 rfl rfl ?_
  refine xs_iconst (n := 2) (v := (1 : Int32)) dX11_loop_1 rfl rfl ?_
  refine xs_icmp_lt (n := 5) (tgt := 10) dX11_loop_2 rfl rfl (fun hc1 => ?_) (fun hc1 => ?_)
  · refine xs_iconst (n := 11) (v := (-1 : Int32)) dX11_loop_10 rfl rfl ?_
    exact xs_iret dX11_loop_11 rfl rfl
  · refine xs_iload_n (n := 6) dX11_loop_5 rfl rfl ?_
    refine xs_iconst (n := 7) (v := (3 : Int32)) dX11_loop_6 rfl rfl ?_
    refine xs_icmp_le (n := 10) (tgt := 12) dX11_loop_7 rfl rfl (fun hc2 => ?_) (fun hc2 => ?_)
    · refine xs_aload_n (n := 13) dX11_loop_12 rfl rfl ?_
      refine ys_getr (n := 16) dX11_loop_13 rfl fl_X11_10 sh_0 rfl ?_
      refine ys_geti (n := 19) dX11_loop_16 rfl fl_X11_69 (Or.inl rfl) sh_1 ?_
      refine xs_leti (fun v3 => ?_)
      refine xs_istore_n (n := 20) (lv' := [some (.ref 0), some (.int x0), some (.int v3)]) dX11_loop_19 rfl (Nat.le_of_ble_eq_true rfl) rfl ?_
      refine xs_aload_n (n := 21) dX11_loop_20 rfl rfl ?_
      refine ys_getr (n := 24) dX11_loop_21 rfl fl_X11_10 sh_0 rfl ?_
      refine xs_iload_n (n := 25) dX11_loop_24 rfl rfl ?_
      refine ys_callvv (n := 28) (N := mt_X7_startAnew) dX11_loop_25 rfl ok_X7_startAnew tw_319 im_X7_startAnew se_X7_startAnew ⟨Nat.le_of_ble_eq_true rfl, Nat.le_of_ble_eq_true rfl⟩ [.int x0] [] rfl rfl (Nat.le_of_ble_eq_true rfl) rfl (Nat.le_of_ble_eq_true rfl) (en_X7_startAnew m x0 u0) sh_1 (by decide) rfl (fun q4 => ?_)
      refine xs_aload_n (n := 29) dX11_loop_28 rfl rfl ?_
      refine ys_getr (n := 32) dX11_loop_29 rfl fl_X11_16 sh_0 rfl ?_
      refine xs_lconst (n := 33) (v := (0 : Int64)) dX11_loop_32 rfl rfl ?_
      refine ys_callsv (n := 36) (N := mt_J7_fill_d0a16) dX11_loop_33 rfl ok_J7_fill_d0a16 tw_323 st_J7_fill_d0a16 ⟨Nat.le_of_ble_eq_true rfl, Nat.le_of_ble_eq_true rfl⟩ [.ref 123, .long (0 : Int64)] [] rfl rfl (Nat.le_of_ble_eq_true rfl) rfl (Nat.le_of_ble_eq_true rfl) (en_J7_fill_d0a16 m 123 3 (0 : Int64) sh_123 q4.2) (fun q5 => ?_)
      refine xs_aload_n (n := 37) dX11_loop_36 rfl rfl ?_
      refine ys_getr (n := 40) dX11_loop_37 rfl fl_X11_34 sh_0 rfl ?_
      refine ys_callvv (n := 43) (N := mt_X2_zeroAll) dX11_loop_40 rfl ok_X2_zeroAll tw_326 im_X2_zeroAll se_X2_zeroAll ⟨Nat.le_of_ble_eq_true rfl, Nat.le_of_ble_eq_true rfl⟩ [] [] rfl rfl (Nat.le_of_ble_eq_true rfl) rfl (Nat.le_of_ble_eq_true rfl) (en_X2_zeroAll m 129 bx_129 q5.2) bx_129.1 (by decide) rfl (fun q6 => ?_)
      refine xs_aload_n (n := 44) dX11_loop_43 rfl rfl ?_
      refine ys_getr (n := 47) dX11_loop_44 rfl fl_X11_23 sh_0 rfl ?_
      refine ys_callvv (n := 50) (N := mt_X4_forgetRing) dX11_loop_47 rfl ok_X4_forgetRing tw_331 im_X4_forgetRing se_X4_forgetRing ⟨Nat.le_of_ble_eq_true rfl, Nat.le_of_ble_eq_true rfl⟩ [] [] rfl rfl (Nat.le_of_ble_eq_true rfl) rfl (Nat.le_of_ble_eq_true rfl) (en_X4_forgetRing m q6.2) sh_124 (by decide) rfl (fun q7 => ?_)
      refine xs_aload_n (n := 51) dX11_loop_50 rfl rfl ?_
      refine ys_getr (n := 54) dX11_loop_51 rfl fl_X11_54 sh_0 rfl ?_
      refine ys_callvv (n := 57) (N := mt_X5_forgetAll) dX11_loop_54 rfl ok_X5_forgetAll tw_335 im_X5_forgetAll se_X5_forgetAll ⟨Nat.le_of_ble_eq_true rfl, Nat.le_of_ble_eq_true rfl⟩ [] [] rfl rfl (Nat.le_of_ble_eq_true rfl) rfl (Nat.le_of_ble_eq_true rfl) (en_X5_forgetAll m q7.2) sh_139 (by decide) rfl (fun q8 => ?_)
      refine xs_aload_n (n := 58) dX11_loop_57 rfl rfl ?_
      refine ys_callvv (n := 61) (N := mt_X11_openTheBox) dX11_loop_58 rfl ok_X11_openTheBox tw_339 im_X11_openTheBox se_X11_openTheBox ⟨Nat.le_of_ble_eq_true rfl, Nat.le_of_ble_eq_true rfl⟩ [] [] rfl rfl (Nat.le_of_ble_eq_true rfl) rfl (Nat.le_of_ble_eq_true rfl) (en_X11_openTheBox m q8.2) sh_0 (by decide) rfl (fun q9 => ?_)
      refine xs_iload_n (n := 62) dX11_loop_61 rfl rfl ?_
      exact xs_iret dX11_loop_62 rfl rfl
    · refine xs_iconst (n := 11) (v := (-1 : Int32)) dX11_loop_10 rfl rfl ?_
      exact xs_iret dX11_loop_11 rfl rfl
def fn_X7_addBody (m : Nat) (u0 : xm_Y) : Option (Int32 × xm_Y) :=
  if (u0.1 1 2) < (5 : Int32) then (
  xm_chk (xm_in (u0.1 1 2) 5) (
  ((fn_X1_startAnew m (Int32.toNatClampNeg (u0.1 1 2)) u0).bind fun q3 =>
  xm_let (w_I q3.2 1 2 ((q3.2.1 1 2) + (1 : Int32))) fun u4 =>
  some (((u4.1 1 2) - (1 : Int32)), u4)))) else (
  some ((-2 : Int32), u0))
theorem en_X7_addBody (m : Nat) (u0 : xm_Y) : xs_ (fun x : Int32 => some (.int x)) sg_0 mt_X7_addBody 0 [some (.ref 1)] [] u0 0 0 (fn_X7_addBody m u0) := by
  refine xs_top ?_
  rw [fn_X7_addBody]
  refine xs_aload_n (n := 1) dX7_addBody_0 rfl rfl ?_
  refine ys_geti (n := 4) dX7_addBody_1 rfl fl_X7_22 (Or.inl rfl) sh_1 ?_
  refine xs_iconst (n := 5) (v := (5 : Int32)) dX7_addBody_4 rfl rfl ?_
  refine xs_icmp_lt (n := 8) (tgt := 11) dX7_addBody_5 rfl rfl (fun hc1 => ?_) (fun hc1 => ?_)
  · refine xs_aload_n (n := 12) dX7_addBody_11 rfl rfl ?_
    refine ys_getr (n := 15) dX7_addBody_12 rfl fl_X7_11 sh_1 rfl ?_
    refine xs_aload_n (n := 16) dX7_addBody_15 rfl rfl ?_
    refine ys_geti (n := 19) dX7_addBody_16 rfl fl_X7_22 (Or.inl rfl) sh_1 ?_
    refine ys_aaload17 (n := 20) dX7_addBody_19 rfl sh_2 (fun hi2 => pb_r (xin_n hi2)) (fun hi2 => ?_)
    refine ys_callvv (n := 23) (N := mt_X1_startAnew) dX7_addBody_20 rfl ok_X1_startAnew tw_355 im_X1_startAnew se_X1_startAnew ⟨Nat.le_of_ble_eq_true rfl, Nat.le_of_ble_eq_true rfl⟩ [] [] rfl rfl (Nat.le_of_ble_eq_true rfl) rfl (Nat.le_of_ble_eq_true rfl) (en_X1_startAnew m (Int32.toNatClampNeg (u0.1 1 2)) (xin_n hi2) u0) (bd_s (xin_n hi2)) (by decide) rfl (fun q3 => ?_)
    refine xs_aload_n (n := 24) dX7_addBody_23 rfl rfl ?_
    refine xs_dup (n := 25) dX7_addBody_24 rfl rfl ?_
    refine ys_geti (n := 28) dX7_addBody_25 rfl fl_X7_22 (Or.inl rfl) sh_1 ?_
    refine xs_iconst (n := 29) (v := (1 : Int32)) dX7_addBody_28 rfl rfl ?_
    refine xs_iadd (n := 30) dX7_addBody_29 rfl ?_
    refine ys_puti (n := 33) dX7_addBody_30 rfl fl_X7_22 rfl sh_1 (fun u4 => ?_)
    refine xs_aload_n (n := 34) dX7_addBody_33 rfl rfl ?_
    refine ys_geti (n := 37) dX7_addBody_34 rfl fl_X7_22 (Or.inl rfl) sh_1 ?_
    refine xs_iconst (n := 38) (v := (1 : Int32)) dX7_addBody_37 rfl rfl ?_
    refine xs_isub (n := 39) dX7_addBody_38 rfl ?_
    exact xs_iret dX7_addBody_39 rfl rfl
  · refine xs_bipush (n := 10) (v := (-2 : Int32)) dX7_addBody_8 rfl rfl ?_
    exact xs_iret dX7_addBody_10 rfl rfl
def fn_X11_body (m : Nat) (u0 : xm_Y) : Option (Int32 × xm_Y) :=
  if (u0.1 1 2) < (5 : Int32) then (
  ((fn_X7_addBody m u0).bind fun q2 =>
  ((fn_X11_openTheBox m q2.2).bind fun q3 =>
  some (q2.1, q3.2)))) else (
  some ((-2 : Int32), u0))
theorem en_X11_body (m : Nat) (u0 : xm_Y) : xs_ (fun x : Int32 => some (.int x)) sg_0 mt_X11_body 0 [some (.ref 0), none] [] u0 0 0 (fn_X11_body m u0) := by
  refine xs_top ?_
  rw [fn_X11_body]
  refine xs_aload_n (n := 1) dX11_body_0 rfl rfl ?_
  refine ys_getr (n := 4) dX11_body_1 rfl fl_X11_10 sh_0 rfl ?_
  refine ys_geti (n := 7) dX11_body_4 rfl fl_X11_98 (Or.inl rfl) sh_1 ?_
  refine xs_iconst (n := 8) (v := (5 : Int32)) dX11_body_7 rfl rfl ?_
  refine xs_icmp_lt (n := 11) (tgt := 14) dX11_body_8 rfl rfl (fun hc1 => ?_) (fun hc1 => ?_)
  · refine xs_aload_n (n := 15) dX11_body_14 rfl rfl ?_
    refine ys_getr (n := 18) dX11_body_15 rfl fl_X11_10 sh_0 rfl ?_
    refine ys_callvi (n := 21) (N := mt_X7_addBody) dX11_body_18 rfl ok_X7_addBody tw_351 im_X7_addBody se_X7_addBody ⟨Nat.le_of_ble_eq_true rfl, Nat.le_of_ble_eq_true rfl⟩ [] [] rfl rfl (Nat.le_of_ble_eq_true rfl) rfl (Nat.le_of_ble_eq_true rfl) (en_X7_addBody m u0) sh_1 (by decide) rfl (fun q2 => ?_)
    refine xs_istore_n (n := 22) (lv' := [some (.ref 0), some (.int q2.1)]) dX11_body_21 rfl (Nat.le_of_ble_eq_true rfl) rfl ?_
    refine xs_aload_n (n := 23) dX11_body_22 rfl rfl ?_
    refine ys_callvv (n := 26) (N := mt_X11_openTheBox) dX11_body_23 rfl ok_X11_openTheBox tw_339 im_X11_openTheBox se_X11_openTheBox ⟨Nat.le_of_ble_eq_true rfl, Nat.le_of_ble_eq_true rfl⟩ [] [] rfl rfl (Nat.le_of_ble_eq_true rfl) rfl (Nat.le_of_ble_eq_true rfl) (en_X11_openTheBox m q2.2) sh_0 (by decide) rfl (fun q3 => ?_)
    refine xs_iload_n (n := 27) dX11_body_26 rfl rfl ?_
    exact xs_iret dX11_body_27 rfl rfl
  · refine xs_bipush (n := 13) (v := (-2 : Int32)) dX11_body_11 rfl rfl ?_
    exact xs_iret dX11_body_13 rfl rfl
def fn_X7_has (m : Nat) (x0 : Int32) (u0 : xm_Y) : Option (Int32 × xm_Y) :=
  ((if x0 < 0 then (
  some ((0 : Int32))) else (
  if (u0.1 1 2) ≤ x0 then (
  some ((0 : Int32))) else (
  some ((1 : Int32)))) : Option (Int32)).bind fun q1 =>
  xm_chk (q1 = 0 ∨ q1 = 1) (some (q1, u0)))
theorem en_X7_has (m : Nat) (x0 : Int32) (u0 : xm_Y) : xs_ (fun x : Int32 => some (.int x)) sg_0 mt_X7_has 0 [some (.ref 1), some (.int x0)] [] u0 0 0 (fn_X7_has m x0 u0) := by
  refine xs_top ?_
  rw [fn_X7_has]
  refine xs_iload_n (n := 1) dX7_has_0 rfl rfl ?_
  refine xs_join 17 (fun q1 => [none, none]) (fun q1 => [.int q1]) (fun q1 => u0) (fun q1 => ?_) (fun kj2 => ?_)
  · exact xs_zret dX7_has_17 rfl rfl
  · refine xs_if_lt (n := 4) (tgt := 16) dX7_has_1 rfl rfl (fun hc3 => ?_) (fun hc3 => ?_)
    · refine xs_iconst (n := 17) (v := (0 : Int32)) dX7_has_16 rfl rfl ?_
      exact xs_gf (xs_end (kj2 ((0 : Int32)))) trivial
    · refine xs_iload_n (n := 5) dX7_has_4 rfl rfl ?_
      refine xs_aload_n (n := 6) dX7_has_5 rfl rfl ?_
      refine ys_geti (n := 9) dX7_has_6 rfl fl_X7_22 (Or.inl rfl) sh_1 ?_
      refine xs_icmp_ge (n := 12) (tgt := 16) dX7_has_9 rfl rfl (fun hc4 => ?_) (fun hc4 => ?_)
      · refine xs_iconst (n := 17) (v := (0 : Int32)) dX7_has_16 rfl rfl ?_
        exact xs_gf (xs_end (kj2 ((0 : Int32)))) trivial
      · refine xs_iconst (n := 13) (v := (1 : Int32)) dX7_has_12 rfl rfl ?_
        refine xs_goto (n := 17) dX7_has_13 rfl ?_
        exact xs_gf (xs_end (kj2 ((1 : Int32)))) trivial
def fn_X11_isCode (m : Nat) (x0 : Int32) (u0 : xm_Y) : Option (Int32 × xm_Y) :=
  ((if x0 < 0 then (
  some ((0 : Int32))) else (
  if (68921 : Int32) ≤ x0 then (
  some ((0 : Int32))) else (
  some ((1 : Int32)))) : Option (Int32)).bind fun q1 =>
  xm_chk (q1 = 0 ∨ q1 = 1) (some (q1, u0)))
theorem en_X11_isCode (m : Nat) (x0 : Int32) (u0 : xm_Y) : xs_ (fun x : Int32 => some (.int x)) sg_0 mt_X11_isCode 0 [some (.int x0)] [] u0 0 0 (fn_X11_isCode m x0 u0) := by
  refine xs_top ?_
  rw [fn_X11_isCode]
  refine xs_iload_n (n := 1) dX11_isCode_0 rfl rfl ?_
  refine xs_join 16 (fun q1 => [none]) (fun q1 => [.int q1]) (fun q1 => u0) (fun q1 => ?_) (fun kj2 => ?_)
  · exact xs_zret dX11_isCode_16 rfl rfl
  · refine xs_if_lt (n := 4) (tgt := 15) dX11_isCode_1 rfl rfl (fun hc3 => ?_) (fun hc3 => ?_)
    · refine xs_iconst (n := 16) (v := (0 : Int32)) dX11_isCode_15 rfl rfl ?_
      exact xs_gf (xs_end (kj2 ((0 : Int32)))) trivial
    · refine xs_iload_n (n := 5) dX11_isCode_4 rfl rfl ?_
      refine xs_ldc_w (n := 8) (v := (68921 : Int32)) dX11_isCode_5 rfl tw_374 ?_
      refine xs_icmp_ge (n := 11) (tgt := 15) dX11_isCode_8 rfl rfl (fun hc4 => ?_) (fun hc4 => ?_)
      · refine xs_iconst (n := 16) (v := (0 : Int32)) dX11_isCode_15 rfl rfl ?_
        exact xs_gf (xs_end (kj2 ((0 : Int32)))) trivial
      · refine xs_iconst (n := 12) (v := (1 : Int32)) dX11_isCode_11 rfl rfl ?_
        refine xs_goto (n := 16) dX11_isCode_12 rfl ?_
        exact xs_gf (xs_end (kj2 ((1 : Int32)))) trivial
def fn_X11_isConstant (m : Nat) (x0 : Int32) (u0 : xm_Y) : Option (Int32 × xm_Y) :=
  ((if x0 < (-1000 : Int32) then (
  some ((0 : Int32))) else (
  if (1000 : Int32) < x0 then (
  some ((0 : Int32))) else (
  some ((1 : Int32)))) : Option (Int32)).bind fun q1 =>
  xm_chk (q1 = 0 ∨ q1 = 1) (some (q1, u0)))
theorem en_X11_isConstant (m : Nat) (x0 : Int32) (u0 : xm_Y) : xs_ (fun x : Int32 => some (.int x)) sg_0 mt_X11_isConstant 0 [some (.int x0)] [] u0 0 0 (fn_X11_isConstant m x0 u0) := by
  refine xs_top ?_
  rw [fn_X11_isConstant]
  refine xs_iload_n (n := 1) dX11_isConstant_0 rfl rfl ?_
  refine xs_sipush (n := 4) (v := (-1000 : Int32)) dX11_isConstant_1 rfl rfl ?_
  refine xs_join 19 (fun q1 => [none]) (fun q1 => [.int q1]) (fun q1 => u0) (fun q1 => ?_) (fun kj2 => ?_)
  · exact xs_zret dX11_isConstant_19 rfl rfl
  · refine xs_icmp_lt (n := 7) (tgt := 18) dX11_isConstant_4 rfl rfl (fun hc3 => ?_) (fun hc3 => ?_)
    · refine xs_iconst (n := 19) (v := (0 : Int32)) dX11_isConstant_18 rfl rfl ?_
      exact xs_gf (xs_end (kj2 ((0 : Int32)))) trivial
    · refine xs_iload_n (n := 8) dX11_isConstant_7 rfl rfl ?_
      refine xs_sipush (n := 11) (v := (1000 : Int32)) dX11_isConstant_8 rfl rfl ?_
      refine xs_icmp_gt (n := 14) (tgt := 18) dX11_isConstant_11 rfl rfl (fun hc4 => ?_) (fun hc4 => ?_)
      · refine xs_iconst (n := 19) (v := (0 : Int32)) dX11_isConstant_18 rfl rfl ?_
        exact xs_gf (xs_end (kj2 ((0 : Int32)))) trivial
      · refine xs_iconst (n := 15) (v := (1 : Int32)) dX11_isConstant_14 rfl rfl ?_
        refine xs_goto (n := 19) dX11_isConstant_15 rfl ?_
        exact xs_gf (xs_end (kj2 ((1 : Int32)))) trivial
def fn_X11_guard (m : Nat) (x0 : Int32) (x1 : Int32) (x2 : Int32) (u0 : xm_Y) : Option (Int32 × xm_Y) :=
  ((fn_X7_has m x0 u0).bind fun q1 =>
  if q1.1 = 0 then (
  some ((-1 : Int32), q1.2)) else (
  ((fn_X11_isCode m x1 q1.2).bind fun q3 =>
  if q3.1 = 0 then (
  some ((-1 : Int32), q3.2)) else (
  ((fn_X11_isConstant m x2 q3.2).bind fun q5 =>
  if q5.1 = 0 then (
  some ((-1 : Int32), q5.2)) else (
  xm_chk (xm_in x0 5) (
  if (q5.2.1 (3 + 24 * (Int32.toNatClampNeg x0)) 4) < (6 : Int32) then (
  ((fn_X1_addGuard m (Int32.toNatClampNeg x0) x1 (q5.2.1 1 1) x2 q5.2).bind fun q9 =>
  ((fn_X11_openTheBox m q9.2).bind fun q10 =>
  some ((q10.2.1 (3 + 24 * (Int32.toNatClampNeg x0)) 4), q10.2)))) else (
  some ((-2 : Int32), q5.2)))))))))
theorem en_X11_guard (m : Nat) (x0 : Int32) (x1 : Int32) (x2 : Int32) (u0 : xm_Y) : xs_ (fun x : Int32 => some (.int x)) sg_0 mt_X11_guard 0 [some (.ref 0), some (.int x0), some (.int x1), some (.int x2), none] [] u0 0 0 (fn_X11_guard m x0 x1 x2 u0) := by
  refine xs_top ?_
  rw [fn_X11_guard]
  refine xs_aload_n (n := 1) dX11_guard_0 rfl rfl ?_
  refine ys_getr (n := 4) dX11_guard_1 rfl fl_X11_10 sh_0 rfl ?_
  refine xs_iload_n (n := 5) dX11_guard_4 rfl rfl ?_
  refine ys_callvi (n := 8) (N := mt_X7_has) dX11_guard_5 rfl ok_X7_has tw_367 im_X7_has se_X7_has ⟨Nat.le_of_ble_eq_true rfl, Nat.le_of_ble_eq_true rfl⟩ [.int x0] [] rfl rfl (Nat.le_of_ble_eq_true rfl) rfl (Nat.le_of_ble_eq_true rfl) (en_X7_has m x0 u0) sh_1 (by decide) rfl (fun q1 => ?_)
  refine xs_if_eq (n := 11) (tgt := 25) dX11_guard_8 rfl rfl (fun hc2 => ?_) (fun hc2 => ?_)
  · refine xs_iconst (n := 26) (v := (-1 : Int32)) dX11_guard_25 rfl rfl ?_
    exact xs_iret dX11_guard_26 rfl rfl
  · refine xs_iload_n (n := 12) dX11_guard_11 rfl rfl ?_
    refine ys_callsi (n := 15) (N := mt_X11_isCode) dX11_guard_12 rfl ok_X11_isCode tw_371 st_X11_isCode ⟨Nat.le_of_ble_eq_true rfl, Nat.le_of_ble_eq_true rfl⟩ [.int x1] [] rfl rfl (Nat.le_of_ble_eq_true rfl) rfl (Nat.le_of_ble_eq_true rfl) (en_X11_isCode m x1 q1.2) (fun q3 => ?_)
    refine xs_if_eq (n := 18) (tgt := 25) dX11_guard_15 rfl rfl (fun hc4 => ?_) (fun hc4 => ?_)
    · refine xs_iconst (n := 26) (v := (-1 : Int32)) dX11_guard_25 rfl rfl ?_
      exact xs_iret dX11_guard_26 rfl rfl
    · refine xs_iload_n (n := 19) dX11_guard_18 rfl rfl ?_
      refine ys_callsi (n := 22) (N := mt_X11_isConstant) dX11_guard_19 rfl ok_X11_isConstant tw_375 st_X11_isConstant ⟨Nat.le_of_ble_eq_true rfl, Nat.le_of_ble_eq_true rfl⟩ [.int x2] [] rfl rfl (Nat.le_of_ble_eq_true rfl) rfl (Nat.le_of_ble_eq_true rfl) (en_X11_isConstant m x2 q3.2) (fun q5 => ?_)
      refine xs_if_ne (n := 25) (tgt := 27) dX11_guard_22 rfl rfl (fun hc6 => ?_) (fun hc6 => ?_)
      · refine xs_iconst (n := 26) (v := (-1 : Int32)) dX11_guard_25 rfl rfl ?_
        exact xs_iret dX11_guard_26 rfl rfl
      · refine xs_aload_n (n := 28) dX11_guard_27 rfl rfl ?_
        refine ys_getr (n := 31) dX11_guard_28 rfl fl_X11_10 sh_0 rfl ?_
        refine ys_getr (n := 34) dX11_guard_31 rfl fl_X11_115 sh_1 rfl ?_
        refine xs_iload_n (n := 35) dX11_guard_34 rfl rfl ?_
        refine ys_aaload17 (n := 36) dX11_guard_35 rfl sh_2 (fun hi7 => pb_r (xin_n hi7)) (fun hi7 => ?_)
        refine xs_astore (n := 38) (lv' := [some (.ref 0), some (.int x0), some (.int x1), some (.int x2), some (.ref (3 + 24 * (Int32.toNatClampNeg x0)))]) dX11_guard_36 rfl (Nat.le_of_ble_eq_true rfl) rfl ?_
        refine xs_aload (n := 40) dX11_guard_38 rfl rfl ?_
        refine ys_geti (n := 43) dX11_guard_40 rfl fl_X11_119 (Or.inl rfl) (bd_s (xin_n hi7)) ?_
        refine xs_bipush (n := 45) (v := (6 : Int32)) dX11_guard_43 rfl rfl ?_
        refine xs_icmp_lt (n := 48) (tgt := 51) dX11_guard_45 rfl rfl (fun hc8 => ?_) (fun hc8 => ?_)
        · refine xs_aload (n := 53) dX11_guard_51 rfl rfl ?_
          refine xs_iload_n (n := 54) dX11_guard_53 rfl rfl ?_
          refine xs_aload_n (n := 55) dX11_guard_54 rfl rfl ?_
          refine ys_getr (n := 58) dX11_guard_55 rfl fl_X11_10 sh_0 rfl ?_
          refine ys_geti (n := 61) dX11_guard_58 rfl fl_X11_69 (Or.inl rfl) sh_1 ?_
          refine xs_iload_n (n := 62) dX11_guard_61 rfl rfl ?_
          refine ys_callvv (n := 65) (N := mt_X1_addGuard) dX11_guard_62 rfl ok_X1_addGuard tw_378 im_X1_addGuard se_X1_addGuard ⟨Nat.le_of_ble_eq_true rfl, Nat.le_of_ble_eq_true rfl⟩ [.int x1, .int (q5.2.1 1 1), .int x2] [] rfl rfl (Nat.le_of_ble_eq_true rfl) rfl (Nat.le_of_ble_eq_true rfl) (en_X1_addGuard m (Int32.toNatClampNeg x0) x1 (q5.2.1 1 1) x2 (xin_n hi7) q5.2) (bd_s (xin_n hi7)) (by decide) rfl (fun q9 => ?_)
          refine xs_aload_n (n := 66) dX11_guard_65 rfl rfl ?_
          refine ys_callvv (n := 69) (N := mt_X11_openTheBox) dX11_guard_66 rfl ok_X11_openTheBox tw_339 im_X11_openTheBox se_X11_openTheBox ⟨Nat.le_of_ble_eq_true rfl, Nat.le_of_ble_eq_true rfl⟩ [] [] rfl rfl (Nat.le_of_ble_eq_true rfl) rfl (Nat.le_of_ble_eq_true rfl) (en_X11_openTheBox m q9.2) sh_0 (by decide) rfl (fun q10 => ?_)
          refine xs_aload (n := 71) dX11_guard_69 rfl rfl ?_
          refine ys_geti (n := 74) dX11_guard_71 rfl fl_X11_119 (Or.inl rfl) (bd_s (xin_n hi7)) ?_
          exact xs_iret dX11_guard_74 rfl rfl
        · refine xs_bipush (n := 50) (v := (-2 : Int32)) dX11_guard_48 rfl rfl ?_
          exact xs_iret dX11_guard_50 rfl rfl
def fn_X7_hasNumber (m : Nat) (x0 : Int32) (u0 : xm_Y) : Option (Int32 × xm_Y) :=
  ((if x0 < 0 then (
  some ((0 : Int32))) else (
  if (u0.1 1 1) ≤ x0 then (
  some ((0 : Int32))) else (
  some ((1 : Int32)))) : Option (Int32)).bind fun q1 =>
  xm_chk (q1 = 0 ∨ q1 = 1) (some (q1, u0)))
theorem en_X7_hasNumber (m : Nat) (x0 : Int32) (u0 : xm_Y) : xs_ (fun x : Int32 => some (.int x)) sg_0 mt_X7_hasNumber 0 [some (.ref 1), some (.int x0)] [] u0 0 0 (fn_X7_hasNumber m x0 u0) := by
  refine xs_top ?_
  rw [fn_X7_hasNumber]
  refine xs_iload_n (n := 1) dX7_hasNumber_0 rfl rfl ?_
  refine xs_join 17 (fun q1 => [none, none]) (fun q1 => [.int q1]) (fun q1 => u0) (fun q1 => ?_) (fun kj2 => ?_)
  · exact xs_zret dX7_hasNumber_17 rfl rfl
  · refine xs_if_lt (n := 4) (tgt := 16) dX7_hasNumber_1 rfl rfl (fun hc3 => ?_) (fun hc3 => ?_)
    · refine xs_iconst (n := 17) (v := (0 : Int32)) dX7_hasNumber_16 rfl rfl ?_
      exact xs_gf (xs_end (kj2 ((0 : Int32)))) trivial
    · refine xs_iload_n (n := 5) dX7_hasNumber_4 rfl rfl ?_
      refine xs_aload_n (n := 6) dX7_hasNumber_5 rfl rfl ?_
      refine ys_geti (n := 9) dX7_hasNumber_6 rfl fl_X7_17 (Or.inl rfl) sh_1 ?_
      refine xs_icmp_ge (n := 12) (tgt := 16) dX7_hasNumber_9 rfl rfl (fun hc4 => ?_) (fun hc4 => ?_)
      · refine xs_iconst (n := 17) (v := (0 : Int32)) dX7_hasNumber_16 rfl rfl ?_
        exact xs_gf (xs_end (kj2 ((0 : Int32)))) trivial
      · refine xs_iconst (n := 13) (v := (1 : Int32)) dX7_hasNumber_12 rfl rfl ?_
        refine xs_goto (n := 17) dX7_hasNumber_13 rfl ?_
        exact xs_gf (xs_end (kj2 ((1 : Int32)))) trivial
def fn_X11_rule (m : Nat) (x0 : Int32) (x1 : Int32) (x2 : Int32) (x3 : Int32) (u0 : xm_Y) : Option (Int32 × xm_Y) :=
  ((fn_X7_has m x0 u0).bind fun q1 =>
  if q1.1 = 0 then (
  some ((-1 : Int32), q1.2)) else (
  ((fn_X7_hasNumber m x1 q1.2).bind fun q3 =>
  if q3.1 = 0 then (
  some ((-1 : Int32), q3.2)) else (
  ((fn_X11_isCode m x2 q3.2).bind fun q5 =>
  if q5.1 = 0 then (
  some ((-1 : Int32), q5.2)) else (
  ((fn_X11_isConstant m x3 q5.2).bind fun q7 =>
  if q7.1 = 0 then (
  some ((-1 : Int32), q7.2)) else (
  xm_chk (xm_in x0 5) (
  xm_chk (xm_in x1 3) (
  ((fn_X0_put m (21 + 24 * (Int32.toNatClampNeg x0) + 2 * (Int32.toNatClampNeg x1)) x2 (q7.2.1 1 1) x3 q7.2).bind fun q11 =>
  ((fn_X11_openTheBox m q11.2).bind fun q12 =>
  some ((0 : Int32), q12.2)))))))))))))
theorem en_X11_rule (m : Nat) (x0 : Int32) (x1 : Int32) (x2 : Int32) (x3 : Int32) (u0 : xm_Y) : xs_ (fun x : Int32 => some (.int x)) sg_0 mt_X11_rule 0 [some (.ref 0), some (.int x0), some (.int x1), some (.int x2), some (.int x3)] [] u0 0 0 (fn_X11_rule m x0 x1 x2 x3 u0) := by
  refine xs_top ?_
  rw [fn_X11_rule]
  refine xs_aload_n (n := 1) dX11_rule_0 rfl rfl ?_
  refine ys_getr (n := 4) dX11_rule_1 rfl fl_X11_10 sh_0 rfl ?_
  refine xs_iload_n (n := 5) dX11_rule_4 rfl rfl ?_
  refine ys_callvi (n := 8) (N := mt_X7_has) dX11_rule_5 rfl ok_X7_has tw_367 im_X7_has se_X7_has ⟨Nat.le_of_ble_eq_true rfl, Nat.le_of_ble_eq_true rfl⟩ [.int x0] [] rfl rfl (Nat.le_of_ble_eq_true rfl) rfl (Nat.le_of_ble_eq_true rfl) (en_X7_has m x0 u0) sh_1 (by decide) rfl (fun q1 => ?_)
  refine xs_if_eq (n := 11) (tgt := 37) dX11_rule_8 rfl rfl (fun hc2 => ?_) (fun hc2 => ?_)
  · refine xs_iconst (n := 38) (v := (-1 : Int32)) dX11_rule_37 rfl rfl ?_
    exact xs_iret dX11_rule_38 rfl rfl
  · refine xs_aload_n (n := 12) dX11_rule_11 rfl rfl ?_
    refine ys_getr (n := 15) dX11_rule_12 rfl fl_X11_10 sh_0 rfl ?_
    refine xs_iload_n (n := 16) dX11_rule_15 rfl rfl ?_
    refine ys_callvi (n := 19) (N := mt_X7_hasNumber) dX11_rule_16 rfl ok_X7_hasNumber tw_390 im_X7_hasNumber se_X7_hasNumber ⟨Nat.le_of_ble_eq_true rfl, Nat.le_of_ble_eq_true rfl⟩ [.int x1] [] rfl rfl (Nat.le_of_ble_eq_true rfl) rfl (Nat.le_of_ble_eq_true rfl) (en_X7_hasNumber m x1 q1.2) sh_1 (by decide) rfl (fun q3 => ?_)
    refine xs_if_eq (n := 22) (tgt := 37) dX11_rule_19 rfl rfl (fun hc4 => ?_) (fun hc4 => ?_)
    · refine xs_iconst (n := 38) (v := (-1 : Int32)) dX11_rule_37 rfl rfl ?_
      exact xs_iret dX11_rule_38 rfl rfl
    · refine xs_iload_n (n := 23) dX11_rule_22 rfl rfl ?_
      refine ys_callsi (n := 26) (N := mt_X11_isCode) dX11_rule_23 rfl ok_X11_isCode tw_371 st_X11_isCode ⟨Nat.le_of_ble_eq_true rfl, Nat.le_of_ble_eq_true rfl⟩ [.int x2] [] rfl rfl (Nat.le_of_ble_eq_true rfl) rfl (Nat.le_of_ble_eq_true rfl) (en_X11_isCode m x2 q3.2) (fun q5 => ?_)
      refine xs_if_eq (n := 29) (tgt := 37) dX11_rule_26 rfl rfl (fun hc6 => ?_) (fun hc6 => ?_)
      · refine xs_iconst (n := 38) (v := (-1 : Int32)) dX11_rule_37 rfl rfl ?_
        exact xs_iret dX11_rule_38 rfl rfl
      · refine xs_iload (n := 31) dX11_rule_29 rfl rfl ?_
        refine ys_callsi (n := 34) (N := mt_X11_isConstant) dX11_rule_31 rfl ok_X11_isConstant tw_375 st_X11_isConstant ⟨Nat.le_of_ble_eq_true rfl, Nat.le_of_ble_eq_true rfl⟩ [.int x3] [] rfl rfl (Nat.le_of_ble_eq_true rfl) rfl (Nat.le_of_ble_eq_true rfl) (en_X11_isConstant m x3 q5.2) (fun q7 => ?_)
        refine xs_if_ne (n := 37) (tgt := 39) dX11_rule_34 rfl rfl (fun hc8 => ?_) (fun hc8 => ?_)
        · refine xs_iconst (n := 38) (v := (-1 : Int32)) dX11_rule_37 rfl rfl ?_
          exact xs_iret dX11_rule_38 rfl rfl
        · refine xs_aload_n (n := 40) dX11_rule_39 rfl rfl ?_
          refine ys_getr (n := 43) dX11_rule_40 rfl fl_X11_10 sh_0 rfl ?_
          refine ys_getr (n := 46) dX11_rule_43 rfl fl_X11_115 sh_1 rfl ?_
          refine xs_iload_n (n := 47) dX11_rule_46 rfl rfl ?_
          refine ys_aaload17 (n := 48) dX11_rule_47 rfl sh_2 (fun hi9 => pb_r (xin_n hi9)) (fun hi9 => ?_)
          refine ys_getr (n := 51) dX11_rule_48 rfl fl_X11_131 (bd_s (xin_n hi9)) (bd_r1 (xin_n hi9)) ?_
          refine xs_iload_n (n := 52) dX11_rule_51 rfl rfl ?_
          refine ys_aaload16 (n := 53) dX11_rule_52 rfl (br_s (xin_n hi9)) (fun hi10 => br_r (xin_n hi9) (xin_n hi10)) (fun hi10 => ?_)
          refine xs_iload_n (n := 54) dX11_rule_53 rfl rfl ?_
          refine xs_aload_n (n := 55) dX11_rule_54 rfl rfl ?_
          refine ys_getr (n := 58) dX11_rule_55 rfl fl_X11_10 sh_0 rfl ?_
          refine ys_geti (n := 61) dX11_rule_58 rfl fl_X11_69 (Or.inl rfl) sh_1 ?_
          refine xs_iload (n := 63) dX11_rule_61 rfl rfl ?_
          refine ys_callvv (n := 66) (N := mt_X0_put) dX11_rule_63 rfl ok_X0_put tw_394 im_X0_put se_X0_put ⟨Nat.le_of_ble_eq_true rfl, Nat.le_of_ble_eq_true rfl⟩ [.int x2, .int (q7.2.1 1 1), .int x3] [] rfl rfl (Nat.le_of_ble_eq_true rfl) rfl (Nat.le_of_ble_eq_true rfl) (en_X0_put m (21 + 24 * (Int32.toNatClampNeg x0) + 2 * (Int32.toNatClampNeg x1)) x2 (q7.2.1 1 1) x3 (br_a (xin_n hi9) (xin_n hi10)) q7.2) (br_a (xin_n hi9) (xin_n hi10)).1 (by decide) rfl (fun q11 => ?_)
          refine xs_aload_n (n := 67) dX11_rule_66 rfl rfl ?_
          refine ys_callvv (n := 70) (N := mt_X11_openTheBox) dX11_rule_67 rfl ok_X11_openTheBox tw_339 im_X11_openTheBox se_X11_openTheBox ⟨Nat.le_of_ble_eq_true rfl, Nat.le_of_ble_eq_true rfl⟩ [] [] rfl rfl (Nat.le_of_ble_eq_true rfl) rfl (Nat.le_of_ble_eq_true rfl) (en_X11_openTheBox m q11.2) sh_0 (by decide) rfl (fun q12 => ?_)
          refine xs_iconst (n := 71) (v := (0 : Int32)) dX11_rule_70 rfl rfl ?_
          exact xs_iret dX11_rule_71 rfl rfl
def fn_X11_many (m : Nat) (x0 : Int32) (u0 : xm_Y) : Option (Int32 × xm_Y) :=
  if x0 = (-1 : Int32) then (
  some ((u0.1 1 2), u0)) else (
  ((fn_X7_has m x0 u0).bind fun q2 =>
  ((if q2.1 = 0 then (
  some ((-1 : Int32))) else (
  xm_chk (xm_in x0 5) (
  some ((q2.2.1 (3 + 24 * (Int32.toNatClampNeg x0)) 4)))) : Option (Int32)).bind fun q3 =>
  some (q3, q2.2))))
theorem en_X11_many (m : Nat) (x0 : Int32) (u0 : xm_Y) : xs_ (fun x : Int32 => some (.int x)) sg_0 mt_X11_many 0 [some (.ref 0), some (.int x0)] [] u0 0 0 (fn_X11_many m x0 u0) := by
  refine xs_top ?_
  rw [fn_X11_many]
  refine xs_iload_n (n := 1) dX11_many_0 rfl rfl ?_
  refine xs_iconst (n := 2) (v := (-1 : Int32)) dX11_many_1 rfl rfl ?_
  refine xs_icmp_ne (n := 5) (tgt := 13) dX11_many_2 rfl rfl (fun hc1 => ?_) (fun hc1 => ?_)
  · refine xs_aload_n (n := 6) dX11_many_5 rfl rfl ?_
    refine ys_getr (n := 9) dX11_many_6 rfl fl_X11_10 sh_0 rfl ?_
    refine ys_geti (n := 12) dX11_many_9 rfl fl_X11_98 (Or.inl rfl) sh_1 ?_
    exact xs_iret dX11_many_12 rfl rfl
  · refine xs_aload_n (n := 14) dX11_many_13 rfl rfl ?_
    refine ys_getr (n := 17) dX11_many_14 rfl fl_X11_10 sh_0 rfl ?_
    refine xs_iload_n (n := 18) dX11_many_17 rfl rfl ?_
    refine ys_callvi (n := 21) (N := mt_X7_has) dX11_many_18 rfl ok_X7_has tw_367 im_X7_has se_X7_has ⟨Nat.le_of_ble_eq_true rfl, Nat.le_of_ble_eq_true rfl⟩ [.int x0] [] rfl rfl (Nat.le_of_ble_eq_true rfl) rfl (Nat.le_of_ble_eq_true rfl) (en_X7_has m x0 u0) sh_1 (by decide) rfl (fun q2 => ?_)
    refine xs_join 40 (fun q3 => [none, none]) (fun q3 => [.int q3]) (fun q3 => q2.2) (fun q3 => ?_) (fun kj4 => ?_)
    · exact xs_iret dX11_many_40 rfl rfl
    · refine xs_if_eq (n := 24) (tgt := 39) dX11_many_21 rfl rfl (fun hc5 => ?_) (fun hc5 => ?_)
      · refine xs_iconst (n := 40) (v := (-1 : Int32)) dX11_many_39 rfl rfl ?_
        exact xs_gf (xs_end (kj4 ((-1 : Int32)))) trivial
      · refine xs_aload_n (n := 25) dX11_many_24 rfl rfl ?_
        refine ys_getr (n := 28) dX11_many_25 rfl fl_X11_10 sh_0 rfl ?_
        refine ys_getr (n := 31) dX11_many_28 rfl fl_X11_115 sh_1 rfl ?_
        refine xs_iload_n (n := 32) dX11_many_31 rfl rfl ?_
        refine ys_aaload17 (n := 33) dX11_many_32 rfl sh_2 (fun hi6 => pb_r (xin_n hi6)) (fun hi6 => ?_)
        refine ys_geti (n := 36) dX11_many_33 rfl fl_X11_119 (Or.inl rfl) (bd_s (xin_n hi6)) ?_
        refine xs_goto (n := 40) dX11_many_36 rfl ?_
        exact xs_gf (xs_end (kj4 ((q2.2.1 (3 + 24 * (Int32.toNatClampNeg x0)) 4)))) trivial
def fn_X11_isGiven (m : Nat) (x0 : Int32) (u0 : xm_Y) : Option (Int32 × xm_Y) :=
  ((if x0 < (-1000000 : Int32) then (
  some ((0 : Int32))) else (
  if (1000000 : Int32) < x0 then (
  some ((0 : Int32))) else (
  some ((1 : Int32)))) : Option (Int32)).bind fun q1 =>
  xm_chk (q1 = 0 ∨ q1 = 1) (some (q1, u0)))
theorem en_X11_isGiven (m : Nat) (x0 : Int32) (u0 : xm_Y) : xs_ (fun x : Int32 => some (.int x)) sg_0 mt_X11_isGiven 0 [some (.int x0)] [] u0 0 0 (fn_X11_isGiven m x0 u0) := by
  refine xs_top ?_
  rw [fn_X11_isGiven]
  refine xs_iload_n (n := 1) dX11_isGiven_0 rfl rfl ?_
  refine xs_ldc_w (n := 4) (v := (-1000000 : Int32)) dX11_isGiven_1 rfl tw_406 ?_
  refine xs_join 19 (fun q1 => [none]) (fun q1 => [.int q1]) (fun q1 => u0) (fun q1 => ?_) (fun kj2 => ?_)
  · exact xs_zret dX11_isGiven_19 rfl rfl
  · refine xs_icmp_lt (n := 7) (tgt := 18) dX11_isGiven_4 rfl rfl (fun hc3 => ?_) (fun hc3 => ?_)
    · refine xs_iconst (n := 19) (v := (0 : Int32)) dX11_isGiven_18 rfl rfl ?_
      exact xs_gf (xs_end (kj2 ((0 : Int32)))) trivial
    · refine xs_iload_n (n := 8) dX11_isGiven_7 rfl rfl ?_
      refine xs_ldc_w (n := 11) (v := (1000000 : Int32)) dX11_isGiven_8 rfl tw_407 ?_
      refine xs_icmp_gt (n := 14) (tgt := 18) dX11_isGiven_11 rfl rfl (fun hc4 => ?_) (fun hc4 => ?_)
      · refine xs_iconst (n := 19) (v := (0 : Int32)) dX11_isGiven_18 rfl rfl ?_
        exact xs_gf (xs_end (kj2 ((0 : Int32)))) trivial
      · refine xs_iconst (n := 15) (v := (1 : Int32)) dX11_isGiven_14 rfl rfl ?_
        refine xs_goto (n := 19) dX11_isGiven_15 rfl ?_
        exact xs_gf (xs_end (kj2 ((1 : Int32)))) trivial
def fn_X11_set (m : Nat) (x0 : Int32) (x1 : Int32) (u0 : xm_Y) : Option (Int32 × xm_Y) :=
  ((fn_X7_hasNumber m x0 u0).bind fun q1 =>
  if q1.1 = 0 then (
  some ((-1 : Int32), q1.2)) else (
  ((fn_X11_isGiven m x1 q1.2).bind fun q3 =>
  if q3.1 = 0 then (
  some ((-1 : Int32), q3.2)) else (
  xm_chk (xm_in x0 3) (xm_let (w_J q3.2 123 (Int32.toNatClampNeg x0) (Int32.toInt64 x1)) fun u5 =>
  some ((0 : Int32), u5))))))
theorem en_X11_set (m : Nat) (x0 : Int32) (x1 : Int32) (u0 : xm_Y) : xs_ (fun x : Int32 => some (.int x)) sg_0 mt_X11_set 0 [some (.ref 0), some (.int x0), some (.int x1)] [] u0 0 0 (fn_X11_set m x0 x1 u0) := by
  refine xs_top ?_
  rw [fn_X11_set]
  refine xs_aload_n (n := 1) dX11_set_0 rfl rfl ?_
  refine ys_getr (n := 4) dX11_set_1 rfl fl_X11_10 sh_0 rfl ?_
  refine xs_iload_n (n := 5) dX11_set_4 rfl rfl ?_
  refine ys_callvi (n := 8) (N := mt_X7_hasNumber) dX11_set_5 rfl ok_X7_hasNumber tw_390 im_X7_hasNumber se_X7_hasNumber ⟨Nat.le_of_ble_eq_true rfl, Nat.le_of_ble_eq_true rfl⟩ [.int x0] [] rfl rfl (Nat.le_of_ble_eq_true rfl) rfl (Nat.le_of_ble_eq_true rfl) (en_X7_hasNumber m x0 u0) sh_1 (by decide) rfl (fun q1 => ?_)
  refine xs_if_eq (n := 11) (tgt := 18) dX11_set_8 rfl rfl (fun hc2 => ?_) (fun hc2 => ?_)
  · refine xs_iconst (n := 19) (v := (-1 : Int32)) dX11_set_18 rfl rfl ?_
    exact xs_iret dX11_set_19 rfl rfl
  · refine xs_iload_n (n := 12) dX11_set_11 rfl rfl ?_
    refine ys_callsi (n := 15) (N := mt_X11_isGiven) dX11_set_12 rfl ok_X11_isGiven tw_403 st_X11_isGiven ⟨Nat.le_of_ble_eq_true rfl, Nat.le_of_ble_eq_true rfl⟩ [.int x1] [] rfl rfl (Nat.le_of_ble_eq_true rfl) rfl (Nat.le_of_ble_eq_true rfl) (en_X11_isGiven m x1 q1.2) (fun q3 => ?_)
    refine xs_if_ne (n := 18) (tgt := 20) dX11_set_15 rfl rfl (fun hc4 => ?_) (fun hc4 => ?_)
    · refine xs_iconst (n := 19) (v := (-1 : Int32)) dX11_set_18 rfl rfl ?_
      exact xs_iret dX11_set_19 rfl rfl
    · refine xs_aload_n (n := 21) dX11_set_20 rfl rfl ?_
      refine ys_getr (n := 24) dX11_set_21 rfl fl_X11_16 sh_0 rfl ?_
      refine xs_iload_n (n := 25) dX11_set_24 rfl rfl ?_
      refine xs_iload_n (n := 26) dX11_set_25 rfl rfl ?_
      refine xs_i2l (n := 27) dX11_set_26 rfl ?_
      refine ys_lastore (n := 28) dX11_set_27 rfl sh_123 (fun u5 => ?_)
      refine xs_iconst (n := 29) (v := (0 : Int32)) dX11_set_28 rfl rfl ?_
      exact xs_iret dX11_set_29 rfl rfl
def fn_X11_at (m : Nat) (x0 : Int32) (u0 : xm_Y) : Option (Int64 × xm_Y) :=
  ((fn_X7_hasNumber m x0 u0).bind fun q1 =>
  ((if q1.1 = 0 then (
  some ((0 : Int64))) else (
  xm_chk (xm_in x0 3) (
  some ((q1.2.2 123 (Int32.toNatClampNeg x0))))) : Option (Int64)).bind fun q2 =>
  some (q2, q1.2)))
theorem en_X11_at (m : Nat) (x0 : Int32) (u0 : xm_Y) : xs_ (fun x : Int64 => some (.long x)) sg_0 mt_X11_at 0 [some (.ref 0), some (.int x0)] [] u0 0 0 (fn_X11_at m x0 u0) := by
  refine xs_top ?_
  rw [fn_X11_at]
  refine xs_aload_n (n := 1) dX11_at_0 rfl rfl ?_
  refine ys_getr (n := 4) dX11_at_1 rfl fl_X11_10 sh_0 rfl ?_
  refine xs_iload_n (n := 5) dX11_at_4 rfl rfl ?_
  refine ys_callvi (n := 8) (N := mt_X7_hasNumber) dX11_at_5 rfl ok_X7_hasNumber tw_390 im_X7_hasNumber se_X7_hasNumber ⟨Nat.le_of_ble_eq_true rfl, Nat.le_of_ble_eq_true rfl⟩ [.int x0] [] rfl rfl (Nat.le_of_ble_eq_true rfl) rfl (Nat.le_of_ble_eq_true rfl) (en_X7_hasNumber m x0 u0) sh_1 (by decide) rfl (fun q1 => ?_)
  refine xs_join 21 (fun q2 => [none, none]) (fun q2 => [.long q2]) (fun q2 => q1.2) (fun q2 => ?_) (fun kj3 => ?_)
  · exact xs_lret dX11_at_21 rfl rfl
  · refine xs_if_eq (n := 11) (tgt := 20) dX11_at_8 rfl rfl (fun hc4 => ?_) (fun hc4 => ?_)
    · refine xs_lconst (n := 21) (v := (0 : Int64)) dX11_at_20 rfl rfl ?_
      exact xs_gf (xs_end (kj3 ((0 : Int64)))) trivial
    · refine xs_aload_n (n := 12) dX11_at_11 rfl rfl ?_
      refine ys_getr (n := 15) dX11_at_12 rfl fl_X11_16 sh_0 rfl ?_
      refine xs_iload_n (n := 16) dX11_at_15 rfl rfl ?_
      refine ys_laload (n := 17) dX11_at_16 rfl sh_123 ?_
      refine xs_goto (n := 21) dX11_at_17 rfl ?_
      exact xs_gf (xs_end (kj3 ((q1.2.2 123 (Int32.toNatClampNeg x0))))) trivial
def fn_X11_isTurns (m : Nat) (x0 : Int32) (u0 : xm_Y) : Option (Int32 × xm_Y) :=
  ((if x0 < (1 : Int32) then (
  some ((0 : Int32))) else (
  if (10000 : Int32) < x0 then (
  some ((0 : Int32))) else (
  some ((1 : Int32)))) : Option (Int32)).bind fun q1 =>
  xm_chk (q1 = 0 ∨ q1 = 1) (some (q1, u0)))
theorem en_X11_isTurns (m : Nat) (x0 : Int32) (u0 : xm_Y) : xs_ (fun x : Int32 => some (.int x)) sg_0 mt_X11_isTurns 0 [some (.int x0)] [] u0 0 0 (fn_X11_isTurns m x0 u0) := by
  refine xs_top ?_
  rw [fn_X11_isTurns]
  refine xs_iload_n (n := 1) dX11_isTurns_0 rfl rfl ?_
  refine xs_iconst (n := 2) (v := (1 : Int32)) dX11_isTurns_1 rfl rfl ?_
  refine xs_join 17 (fun q1 => [none]) (fun q1 => [.int q1]) (fun q1 => u0) (fun q1 => ?_) (fun kj2 => ?_)
  · exact xs_zret dX11_isTurns_17 rfl rfl
  · refine xs_icmp_lt (n := 5) (tgt := 16) dX11_isTurns_2 rfl rfl (fun hc3 => ?_) (fun hc3 => ?_)
    · refine xs_iconst (n := 17) (v := (0 : Int32)) dX11_isTurns_16 rfl rfl ?_
      exact xs_gf (xs_end (kj2 ((0 : Int32)))) trivial
    · refine xs_iload_n (n := 6) dX11_isTurns_5 rfl rfl ?_
      refine xs_sipush (n := 9) (v := (10000 : Int32)) dX11_isTurns_6 rfl rfl ?_
      refine xs_icmp_gt (n := 12) (tgt := 16) dX11_isTurns_9 rfl rfl (fun hc4 => ?_) (fun hc4 => ?_)
      · refine xs_iconst (n := 17) (v := (0 : Int32)) dX11_isTurns_16 rfl rfl ?_
        exact xs_gf (xs_end (kj2 ((0 : Int32)))) trivial
      · refine xs_iconst (n := 13) (v := (1 : Int32)) dX11_isTurns_12 rfl rfl ?_
        refine xs_goto (n := 17) dX11_isTurns_13 rfl ?_
        exact xs_gf (xs_end (kj2 ((1 : Int32)))) trivial
def lp_X7_chosen_2 (m : Nat) (a1 : Nat) : Nat → Int32 → xm_Y → Option ((Int32 × xm_Y) ⊕ (Int32 × xm_Y))
  | 0, _, _ => none
  | n + 1, l2, u0 =>
  if (u0.1 1 2) ≤ l2 then (
  some (.inr (l2, u0))) else (
  xm_chk (xm_in l2 5) (
  ((fn_X1_holdsAt m (Int32.toNatClampNeg l2) a1 u0).bind fun q3 =>
  if q3.1 = 0 then (
  xm_let (α := Int32) (l2 + (1 : Int32)) fun v5 =>
  lp_X7_chosen_2 m a1 n v5 q3.2) else (
  some (.inl (l2, q3.2))))))
def fn_X7_chosen (m : Nat) (p : Nat) (u0 : xm_Y) : Option (Int32 × xm_Y) :=
  ((lp_X7_chosen_2 m p m (0 : Int32) u0).bind (Sum.elim (fun r => some r) (fun q6 =>
  some ((-1 : Int32), q6.2))))
theorem el_X7_chosen_2 (m : Nat) (a1 : Nat) (ha1 : xsh_ a1 14 3) (K : (Int32 × xm_Y) ⊕ (Int32 × xm_Y) → Option (Int32 × xm_Y)) (hK : ∀ r, K (.inl r) = some r) (kE : ∀ q : Int32 × xm_Y, xs_ (fun x : Int32 => some (.int x)) sg_0 mt_X7_chosen 31 [none, none, none] [] q.2 0 0 (K (.inr q))) : ∀ (n : Nat) (l2 : Int32) (u0 : xm_Y), xs_ (fun x : Int32 => some (.int x)) sg_0 mt_X7_chosen 2 [some (.ref 1), some (.ref a1), some (.int l2)] [] u0 0 0 ((lp_X7_chosen_2 m a1 n l2 u0).bind K) := by
  intro n
  induction n with
  | zero =>
    intro l2 u0
    exact xs_none
  | succ n ih =>
    intro l2 u0
    rw [lp_X7_chosen_2]
    refine xs_iload_n (n := 3) dX7_chosen_2 rfl rfl ?_
    refine xs_aload_n (n := 4) dX7_chosen_3 rfl rfl ?_
    refine ys_geti (n := 7) dX7_chosen_4 rfl fl_X7_22 (Or.inl rfl) sh_1 ?_
    refine xs_icmp_ge (n := 10) (tgt := 31) dX7_chosen_7 rfl rfl (fun hc1 => ?_) (fun hc1 => ?_)
    · exact xs_gf (xs_end (kE (l2, u0))) trivial
    · refine xs_aload_n (n := 11) dX7_chosen_10 rfl rfl ?_
      refine ys_getr (n := 14) dX7_chosen_11 rfl fl_X7_11 sh_1 rfl ?_
      refine xs_iload_n (n := 15) dX7_chosen_14 rfl rfl ?_
      refine ys_aaload17 (n := 16) dX7_chosen_15 rfl sh_2 (fun hi2 => pb_r (xin_n hi2)) (fun hi2 => ?_)
      refine xs_aload_n (n := 17) dX7_chosen_16 rfl rfl ?_
      refine ys_callvi (n := 20) (N := mt_X1_holdsAt) dX7_chosen_17 rfl ok_X1_holdsAt tw_427 im_X1_holdsAt se_X1_holdsAt ⟨Nat.le_of_ble_eq_true rfl, Nat.le_of_ble_eq_true rfl⟩ [.ref a1] [] rfl rfl (Nat.le_of_ble_eq_true rfl) rfl (Nat.le_of_ble_eq_true rfl) (en_X1_holdsAt m (Int32.toNatClampNeg l2) a1 (xin_n hi2) ha1 u0) (bd_s (xin_n hi2)) (by decide) rfl (fun q3 => ?_)
      refine xs_if_eq (n := 23) (tgt := 25) dX7_chosen_20 rfl rfl (fun hc4 => ?_) (fun hc4 => ?_)
      · refine xs_iincl (n := 28) (dv := (1 : Int32)) (fun v5 => [some (.ref 1), some (.ref a1), some (.int v5)]) dX7_chosen_25 rfl rfl rfl (Nat.le_of_ble_eq_true rfl) (fun _ => rfl) (fun v5 => ?_)
        refine xs_goto (n := 2) dX7_chosen_28 rfl ?_
        exact xs_gf (ih v5 q3.2) (And.intro rfl (And.intro rfl (And.intro rfl trivial)))
      · refine xs_iload_n (n := 24) dX7_chosen_23 rfl rfl ?_
        exact xs_iret dX7_chosen_24 rfl (hK _)
theorem en_X7_chosen (m : Nat) (p : Nat) (hp_ : xsh_ p 14 3) (u0 : xm_Y) : xs_ (fun x : Int32 => some (.int x)) sg_0 mt_X7_chosen 0 [some (.ref 1), some (.ref p), none] [] u0 0 0 (fn_X7_chosen m p u0) := by
  refine xs_top ?_
  rw [fn_X7_chosen]
  refine xs_iconst (n := 1) (v := (0 : Int32)) dX7_chosen_0 rfl rfl ?_
  refine xs_istore_n (n := 2) (lv' := [some (.ref 1), some (.ref p), some (.int (0 : Int32))]) dX7_chosen_1 rfl (Nat.le_of_ble_eq_true rfl) rfl ?_
  refine xs_reg ?_
  refine xs_fg (lv' := [some (.ref 1), some (.ref p), some (.int (0 : Int32))]) (And.intro rfl (And.intro rfl (And.intro rfl trivial))) ?_
  refine el_X7_chosen_2 m p hp_ _ (fun _ => rfl) (fun q6 => ?_) m (0 : Int32) u0
  refine xs_inr ?_
  refine xs_iconst (n := 32) (v := (-1 : Int32)) dX7_chosen_31 rfl rfl ?_
  exact xs_iret dX7_chosen_32 rfl rfl
def fn_X7_step (m : Nat) (p : Nat) (u0 : xm_Y) : Option (Int32 × xm_Y) :=
  ((fn_X7_chosen m p u0).bind fun q1 =>
  if 0 ≤ q1.1 then (
  xm_chk (xm_in q1.1 5) (
  ((fn_X1_move m (Int32.toNatClampNeg q1.1) p q1.2).bind fun q4 =>
  ((if q4.1 = 0 then (
  some ((2 : Int32))) else (
  some ((0 : Int32))) : Option (Int32)).bind fun q5 =>
  some (q5, q4.2))))) else (
  some ((1 : Int32), q1.2)))
theorem en_X7_step (m : Nat) (p : Nat) (hp_ : xsh_ p 14 3) (u0 : xm_Y) : xs_ (fun x : Int32 => some (.int x)) sg_0 mt_X7_step 0 [some (.ref 1), some (.ref p), none] [] u0 0 0 (fn_X7_step m p u0) := by
  refine xs_top ?_
  rw [fn_X7_step]
  refine xs_aload_n (n := 1) dX7_step_0 rfl rfl ?_
  refine xs_aload_n (n := 2) dX7_step_1 rfl rfl ?_
  refine ys_callvi (n := 5) (N := mt_X7_chosen) dX7_step_2 rfl ok_X7_chosen tw_423 im_X7_chosen se_X7_chosen ⟨Nat.le_of_ble_eq_true rfl, Nat.le_of_ble_eq_true rfl⟩ [.ref p] [] rfl rfl (Nat.le_of_ble_eq_true rfl) rfl (Nat.le_of_ble_eq_true rfl) (en_X7_chosen m p hp_ u0) sh_1 (by decide) rfl (fun q1 => ?_)
  refine xs_istore_n (n := 6) (lv' := [some (.ref 1), some (.ref p), some (.int q1.1)]) dX7_step_5 rfl (Nat.le_of_ble_eq_true rfl) rfl ?_
  refine xs_iload_n (n := 7) dX7_step_6 rfl rfl ?_
  refine xs_if_ge (n := 10) (tgt := 12) dX7_step_7 rfl rfl (fun hc2 => ?_) (fun hc2 => ?_)
  · refine xs_aload_n (n := 13) dX7_step_12 rfl rfl ?_
    refine ys_getr (n := 16) dX7_step_13 rfl fl_X7_11 sh_1 rfl ?_
    refine xs_iload_n (n := 17) dX7_step_16 rfl rfl ?_
    refine ys_aaload17 (n := 18) dX7_step_17 rfl sh_2 (fun hi3 => pb_r (xin_n hi3)) (fun hi3 => ?_)
    refine xs_aload_n (n := 19) dX7_step_18 rfl rfl ?_
    refine ys_callvi (n := 22) (N := mt_X1_move) dX7_step_19 rfl ok_X1_move tw_435 im_X1_move se_X1_move ⟨Nat.le_of_ble_eq_true rfl, Nat.le_of_ble_eq_true rfl⟩ [.ref p] [] rfl rfl (Nat.le_of_ble_eq_true rfl) rfl (Nat.le_of_ble_eq_true rfl) (en_X1_move m (Int32.toNatClampNeg q1.1) p (xin_n hi3) hp_ q1.2) (bd_s (xin_n hi3)) (by decide) rfl (fun q4 => ?_)
    refine xs_join 30 (fun q5 => [none, none, none]) (fun q5 => [.int q5]) (fun q5 => q4.2) (fun q5 => ?_) (fun kj6 => ?_)
    · exact xs_iret dX7_step_30 rfl rfl
    · refine xs_if_eq (n := 25) (tgt := 29) dX7_step_22 rfl rfl (fun hc7 => ?_) (fun hc7 => ?_)
      · refine xs_iconst (n := 30) (v := (2 : Int32)) dX7_step_29 rfl rfl ?_
        exact xs_gf (xs_end (kj6 ((2 : Int32)))) trivial
      · refine xs_iconst (n := 26) (v := (0 : Int32)) dX7_step_25 rfl rfl ?_
        refine xs_goto (n := 30) dX7_step_26 rfl ?_
        exact xs_gf (xs_end (kj6 ((0 : Int32)))) trivial
  · refine xs_iconst (n := 11) (v := (1 : Int32)) dX7_step_10 rfl rfl ?_
    exact xs_iret dX7_step_11 rfl rfl
def lp_X11_run_11 (m : Nat) (c1 : Int32) : Nat → Int32 → xm_Y → Option ((Int32 × xm_Y) ⊕ (Int32 × xm_Y))
  | 0, _, _ => none
  | n + 1, l2, u0 =>
  if c1 ≤ l2 then (
  some (.inr (l2, u0))) else (
  ((fn_X7_step m 123 u0).bind fun q4 =>
  if q4.1 = 0 then (
  xm_let (α := Int32) (l2 + (1 : Int32)) fun v6 =>
  lp_X11_run_11 m c1 n v6 q4.2) else (
  if q4.1 = (2 : Int32) then (
  some (.inl ((-4 : Int32), q4.2))) else (
  some (.inl (l2, q4.2))))))
def fn_X11_run (m : Nat) (x0 : Int32) (u0 : xm_Y) : Option (Int32 × xm_Y) :=
  ((fn_X11_isTurns m x0 u0).bind fun q1 =>
  if q1.1 = 0 then (
  some ((-1 : Int32), q1.2)) else (
  ((lp_X11_run_11 m x0 m (0 : Int32) q1.2).bind (Sum.elim (fun r => some r) (fun q8 =>
  some (x0, q8.2))))))
theorem el_X11_run_11 (m : Nat) (c1 : Int32) (K : (Int32 × xm_Y) ⊕ (Int32 × xm_Y) → Option (Int32 × xm_Y)) (hK : ∀ r, K (.inl r) = some r) (kE : ∀ q : Int32 × xm_Y, xs_ (fun x : Int32 => some (.int x)) sg_0 mt_X11_run 50 [none, some (.int c1), none, none] [] q.2 0 0 (K (.inr q))) : ∀ (n : Nat) (l2 : Int32) (u0 : xm_Y), xs_ (fun x : Int32 => some (.int x)) sg_0 mt_X11_run 11 [some (.ref 0), some (.int c1), some (.int l2), none] [] u0 0 0 ((lp_X11_run_11 m c1 n l2 u0).bind K) := by
  intro n
  induction n with
  | zero =>
    intro l2 u0
    exact xs_none
  | succ n ih =>
    intro l2 u0
    rw [lp_X11_run_11]
    refine xs_iload_n (n := 12) dX11_run_11 rfl rfl ?_
    refine xs_iload_n (n := 13) dX11_run_12 rfl rfl ?_
    refine xs_icmp_ge (n := 16) (tgt := 50) dX11_run_13 rfl rfl (fun hc3 => ?_) (fun hc3 => ?_)
    · exact xs_gf (xs_end (kE (l2, u0))) (And.intro rfl trivial)
    · refine xs_aload_n (n := 17) dX11_run_16 rfl rfl ?_
      refine ys_getr (n := 20) dX11_run_17 rfl fl_X11_10 sh_0 rfl ?_
      refine xs_aload_n (n := 21) dX11_run_20 rfl rfl ?_
      refine ys_getr (n := 24) dX11_run_21 rfl fl_X11_16 sh_0 rfl ?_
      refine ys_callvi (n := 27) (N := mt_X7_step) dX11_run_24 rfl ok_X7_step tw_419 im_X7_step se_X7_step ⟨Nat.le_of_ble_eq_true rfl, Nat.le_of_ble_eq_true rfl⟩ [.ref 123] [] rfl rfl (Nat.le_of_ble_eq_true rfl) rfl (Nat.le_of_ble_eq_true rfl) (en_X7_step m 123 sh_123 u0) sh_1 (by decide) rfl (fun q4 => ?_)
      refine xs_istore_n (n := 28) (lv' := [some (.ref 0), some (.int c1), some (.int l2), some (.int q4.1)]) dX11_run_27 rfl (Nat.le_of_ble_eq_true rfl) rfl ?_
      refine xs_iload_n (n := 29) dX11_run_28 rfl rfl ?_
      refine xs_if_eq (n := 32) (tgt := 44) dX11_run_29 rfl rfl (fun hc5 => ?_) (fun hc5 => ?_)
      · refine xs_iincl (n := 47) (dv := (1 : Int32)) (fun v6 => [some (.ref 0), some (.int c1), some (.int v6), some (.int q4.1)]) dX11_run_44 rfl rfl rfl (Nat.le_of_ble_eq_true rfl) (fun _ => rfl) (fun v6 => ?_)
        refine xs_goto (n := 11) dX11_run_47 rfl ?_
        exact xs_gf (ih v6 q4.2) (And.intro rfl (And.intro rfl (And.intro rfl trivial)))
      · refine xs_iload_n (n := 33) dX11_run_32 rfl rfl ?_
        refine xs_iconst (n := 34) (v := (2 : Int32)) dX11_run_33 rfl rfl ?_
        refine xs_icmp_ne (n := 37) (tgt := 42) dX11_run_34 rfl rfl (fun hc7 => ?_) (fun hc7 => ?_)
        · refine xs_bipush (n := 39) (v := (-4 : Int32)) dX11_run_37 rfl rfl ?_
          refine xs_goto (n := 43) dX11_run_39 rfl ?_
          exact xs_iret dX11_run_43 rfl (hK _)
        · refine xs_iload_n (n := 43) dX11_run_42 rfl rfl ?_
          exact xs_iret dX11_run_43 rfl (hK _)
theorem en_X11_run (m : Nat) (x0 : Int32) (u0 : xm_Y) : xs_ (fun x : Int32 => some (.int x)) sg_0 mt_X11_run 0 [some (.ref 0), some (.int x0), none, none] [] u0 0 0 (fn_X11_run m x0 u0) := by
  refine xs_top ?_
  rw [fn_X11_run]
  refine xs_iload_n (n := 1) dX11_run_0 rfl rfl ?_
  refine ys_callsi (n := 4) (N := mt_X11_isTurns) dX11_run_1 rfl ok_X11_isTurns tw_416 st_X11_isTurns ⟨Nat.le_of_ble_eq_true rfl, Nat.le_of_ble_eq_true rfl⟩ [.int x0] [] rfl rfl (Nat.le_of_ble_eq_true rfl) rfl (Nat.le_of_ble_eq_true rfl) (en_X11_isTurns m x0 u0) (fun q1 => ?_)
  refine xs_if_ne (n := 7) (tgt := 9) dX11_run_4 rfl rfl (fun hc2 => ?_) (fun hc2 => ?_)
  · refine xs_iconst (n := 8) (v := (-1 : Int32)) dX11_run_7 rfl rfl ?_
    exact xs_iret dX11_run_8 rfl rfl
  · refine xs_iconst (n := 10) (v := (0 : Int32)) dX11_run_9 rfl rfl ?_
    refine xs_istore_n (n := 11) (lv' := [some (.ref 0), some (.int x0), some (.int (0 : Int32)), none]) dX11_run_10 rfl (Nat.le_of_ble_eq_true rfl) rfl ?_
    refine xs_reg ?_
    refine xs_fg (lv' := [some (.ref 0), some (.int x0), some (.int (0 : Int32)), none]) (And.intro rfl (And.intro rfl (And.intro rfl trivial))) ?_
    refine el_X11_run_11 m x0 _ (fun _ => rfl) (fun q8 => ?_) m (0 : Int32) q1.2
    refine xs_inr ?_
    refine xs_iload_n (n := 51) dX11_run_50 rfl rfl ?_
    exact xs_iret dX11_run_51 rfl rfl
def fn_X11_turn (m : Nat) (u0 : xm_Y) : Option (Int32 × xm_Y) :=
  ((fn_X7_chosen m 123 u0).bind fun q1 =>
  some (q1.1, q1.2))
theorem en_X11_turn (m : Nat) (u0 : xm_Y) : xs_ (fun x : Int32 => some (.int x)) sg_0 mt_X11_turn 0 [some (.ref 0)] [] u0 0 0 (fn_X11_turn m u0) := by
  refine xs_top ?_
  rw [fn_X11_turn]
  refine xs_aload_n (n := 1) dX11_turn_0 rfl rfl ?_
  refine ys_getr (n := 4) dX11_turn_1 rfl fl_X11_10 sh_0 rfl ?_
  refine xs_aload_n (n := 5) dX11_turn_4 rfl rfl ?_
  refine ys_getr (n := 8) dX11_turn_5 rfl fl_X11_16 sh_0 rfl ?_
  refine ys_callvi (n := 11) (N := mt_X7_chosen) dX11_turn_8 rfl ok_X7_chosen tw_447 im_X7_chosen se_X7_chosen ⟨Nat.le_of_ble_eq_true rfl, Nat.le_of_ble_eq_true rfl⟩ [.ref 123] [] rfl rfl (Nat.le_of_ble_eq_true rfl) rfl (Nat.le_of_ble_eq_true rfl) (en_X7_chosen m 123 sh_123 u0) sh_1 (by decide) rfl (fun q1 => ?_)
  exact xs_iret dX11_turn_11 rfl rfl
def fn_X4_copy (m : Nat) (p1 : Nat) (p2 : Nat) (u0 : xm_Y) : Option (Unit × xm_Y) :=
  xm_chk (0 ≤ (0 : Int32) ∧ 0 ≤ (0 : Int32) ∧ 0 ≤ (3 : Int32) ∧ (Int32.toNatClampNeg (0 : Int32)) + (Int32.toNatClampNeg (3 : Int32)) ≤ 3 ∧ (Int32.toNatClampNeg (0 : Int32)) + (Int32.toNatClampNeg (3 : Int32)) ≤ 3) (xm_let (cp_J u0 p1 p2 (Int32.toNatClampNeg (0 : Int32)) (Int32.toNatClampNeg (0 : Int32)) (Int32.toNatClampNeg (3 : Int32))) fun u1 =>
  some ((), u1))
theorem en_X4_copy (m : Nat) (p1 : Nat) (p2 : Nat) (hp1_ : xsh_ p1 14 3) (hp2_ : xsh_ p2 14 3) (u0 : xm_Y) : xs_ (fun _ : Unit => none) sg_0 mt_X4_copy 0 [some (.ref p1), some (.ref p2)] [] u0 0 0 (fn_X4_copy m p1 p2 u0) := by
  refine xs_top ?_
  rw [fn_X4_copy]
  refine xs_aload_n (n := 1) dX4_copy_0 rfl rfl ?_
  refine xs_iconst (n := 2) (v := (0 : Int32)) dX4_copy_1 rfl rfl ?_
  refine xs_aload_n (n := 3) dX4_copy_2 rfl rfl ?_
  refine xs_iconst (n := 4) (v := (0 : Int32)) dX4_copy_3 rfl rfl ?_
  refine xs_iconst (n := 5) (v := (3 : Int32)) dX4_copy_4 rfl rfl ?_
  refine ys_copyl (n := 8) dX4_copy_5 rfl tw_463 hp1_ hp2_ (Nat.le_of_ble_eq_true rfl) (Nat.le_of_ble_eq_true rfl) (fun u1 => ?_)
  exact xs_vret dX4_copy_8 rfl rfl
def fn_X4_isSame (m : Nat) (u0 : xm_Y) : Option (Int32 × xm_Y) :=
  xm_chk (xm_in (0 : Int32) 3) (
  xm_chk (xm_in (0 : Int32) 3) (
  ((if (u0.2 125 (Int32.toNatClampNeg (0 : Int32))) = (u0.2 126 (Int32.toNatClampNeg (0 : Int32))) then (
  xm_chk (xm_in (1 : Int32) 3) (
  xm_chk (xm_in (1 : Int32) 3) (
  if (u0.2 125 (Int32.toNatClampNeg (1 : Int32))) = (u0.2 126 (Int32.toNatClampNeg (1 : Int32))) then (
  xm_chk (xm_in (2 : Int32) 3) (
  xm_chk (xm_in (2 : Int32) 3) (
  if (u0.2 125 (Int32.toNatClampNeg (2 : Int32))) = (u0.2 126 (Int32.toNatClampNeg (2 : Int32))) then (
  some ((1 : Int32))) else (
  some ((0 : Int32)))))) else (
  some ((0 : Int32)))))) else (
  some ((0 : Int32))) : Option (Int32)).bind fun q1 =>
  xm_chk (q1 = 0 ∨ q1 = 1) (some (q1, u0)))))
theorem en_X4_isSame (m : Nat) (u0 : xm_Y) : xs_ (fun x : Int32 => some (.int x)) sg_0 mt_X4_isSame 0 [some (.ref 124)] [] u0 0 0 (fn_X4_isSame m u0) := by
  refine xs_top ?_
  rw [fn_X4_isSame]
  refine xs_aload_n (n := 1) dX4_isSame_0 rfl rfl ?_
  refine ys_getr (n := 4) dX4_isSame_1 rfl fl_X4_9 sh_124 rfl ?_
  refine xs_iconst (n := 5) (v := (0 : Int32)) dX4_isSame_4 rfl rfl ?_
  refine ys_laload (n := 6) dX4_isSame_5 rfl sh_125 ?_
  refine xs_aload_n (n := 7) dX4_isSame_6 rfl rfl ?_
  refine ys_getr (n := 10) dX4_isSame_7 rfl fl_X4_15 sh_124 rfl ?_
  refine xs_iconst (n := 11) (v := (0 : Int32)) dX4_isSame_10 rfl rfl ?_
  refine ys_laload (n := 12) dX4_isSame_11 rfl sh_126 ?_
  refine xs_join 53 (fun q1 => [none]) (fun q1 => [.int q1]) (fun q1 => u0) (fun q1 => ?_) (fun kj2 => ?_)
  · exact xs_zret dX4_isSame_53 rfl rfl
  · refine xs_lif_ne (n := 16) (pc1 := 13) (tgt := 52) dX4_isSame_12 rfl dX4_isSame_13 rfl rfl (fun hc3 => ?_) (fun hc3 => ?_)
    · refine xs_aload_n (n := 17) dX4_isSame_16 rfl rfl ?_
      refine ys_getr (n := 20) dX4_isSame_17 rfl fl_X4_9 sh_124 rfl ?_
      refine xs_iconst (n := 21) (v := (1 : Int32)) dX4_isSame_20 rfl rfl ?_
      refine ys_laload (n := 22) dX4_isSame_21 rfl sh_125 ?_
      refine xs_aload_n (n := 23) dX4_isSame_22 rfl rfl ?_
      refine ys_getr (n := 26) dX4_isSame_23 rfl fl_X4_15 sh_124 rfl ?_
      refine xs_iconst (n := 27) (v := (1 : Int32)) dX4_isSame_26 rfl rfl ?_
      refine ys_laload (n := 28) dX4_isSame_27 rfl sh_126 ?_
      refine xs_lif_ne (n := 32) (pc1 := 29) (tgt := 52) dX4_isSame_28 rfl dX4_isSame_29 rfl rfl (fun hc4 => ?_) (fun hc4 => ?_)
      · refine xs_aload_n (n := 33) dX4_isSame_32 rfl rfl ?_
        refine ys_getr (n := 36) dX4_isSame_33 rfl fl_X4_9 sh_124 rfl ?_
        refine xs_iconst (n := 37) (v := (2 : Int32)) dX4_isSame_36 rfl rfl ?_
        refine ys_laload (n := 38) dX4_isSame_37 rfl sh_125 ?_
        refine xs_aload_n (n := 39) dX4_isSame_38 rfl rfl ?_
        refine ys_getr (n := 42) dX4_isSame_39 rfl fl_X4_15 sh_124 rfl ?_
        refine xs_iconst (n := 43) (v := (2 : Int32)) dX4_isSame_42 rfl rfl ?_
        refine ys_laload (n := 44) dX4_isSame_43 rfl sh_126 ?_
        refine xs_lif_ne (n := 48) (pc1 := 45) (tgt := 52) dX4_isSame_44 rfl dX4_isSame_45 rfl rfl (fun hc5 => ?_) (fun hc5 => ?_)
        · refine xs_iconst (n := 49) (v := (1 : Int32)) dX4_isSame_48 rfl rfl ?_
          refine xs_goto (n := 53) dX4_isSame_49 rfl ?_
          exact xs_gf (xs_end (kj2 ((1 : Int32)))) trivial
        · refine xs_iconst (n := 53) (v := (0 : Int32)) dX4_isSame_52 rfl rfl ?_
          exact xs_gf (xs_end (kj2 ((0 : Int32)))) trivial
      · refine xs_iconst (n := 53) (v := (0 : Int32)) dX4_isSame_52 rfl rfl ?_
        exact xs_gf (xs_end (kj2 ((0 : Int32)))) trivial
    · refine xs_iconst (n := 53) (v := (0 : Int32)) dX4_isSame_52 rfl rfl ?_
      exact xs_gf (xs_end (kj2 ((0 : Int32)))) trivial
def lp_X4_lengthWithin_22 (m : Nat) (c3 : Int32) : Nat → Int32 → Int32 → xm_Y → Option ((Int32 × xm_Y) ⊕ (Int32 × Int32 × xm_Y))
  | 0, _, _, _ => none
  | n + 1, l4, l5, u0 =>
  if ((2 : Int32) * c3) < l5 then (
  some (.inr (l4, l5, u0))) else (
  ((fn_X7_step m 125 u0).bind fun q4 =>
  if q4.1 = 0 then (
  ((fn_X4_isSame m q4.2).bind fun q6 =>
  if q6.1 = 0 then (
  ((if l5 = c3 then (
  ((fn_X4_copy m 125 126 q6.2).bind fun q11 =>
  some (l5, q11.2))) else (
  if c3 ≤ l5 then (
  some (l4, q6.2)) else (
  if (l5 &&& (l5 - (1 : Int32))) = 0 then (
  ((fn_X4_copy m 125 126 q6.2).bind fun q14 =>
  some (l5, q14.2))) else (
  some (l4, q6.2)))) : Option (Int32 × xm_Y)).bind fun q8 =>
  xm_let (α := Int32) (l5 + (1 : Int32)) fun v15 =>
  lp_X4_lengthWithin_22 m c3 n q8.1 v15 q8.2)) else (
  some (.inl ((l5 - l4), q6.2))))) else (
  if q4.1 = (2 : Int32) then (
  if c3 < l5 then (
  some (.inl ((0 : Int32), q4.2))) else (
  some (.inl ((-4 : Int32), q4.2)))) else (
  some (.inl ((0 : Int32), q4.2))))))
def fn_X4_lengthWithin (m : Nat) (x0 : Int32) (u0 : xm_Y) : Option (Int32 × xm_Y) :=
  ((fn_X4_copy m 123 125 u0).bind fun q1 =>
  ((fn_X4_copy m 123 126 q1.2).bind fun q2 =>
  ((lp_X4_lengthWithin_22 m x0 m (0 : Int32) (1 : Int32) q2.2).bind (Sum.elim (fun r => some r) (fun q18 =>
  some ((0 : Int32), q18.2.2))))))
theorem el_X4_lengthWithin_22 (m : Nat) (c3 : Int32) (K : (Int32 × xm_Y) ⊕ (Int32 × Int32 × xm_Y) → Option (Int32 × xm_Y)) (hK : ∀ r, K (.inl r) = some r) (kE : ∀ q : Int32 × Int32 × xm_Y, xs_ (fun x : Int32 => some (.int x)) sg_0 mt_X4_lengthWithin 120 [none, none, none, none, none, none, none] [] q.2.2 0 0 (K (.inr q))) : ∀ (n : Nat) (l4 : Int32) (l5 : Int32) (u0 : xm_Y), xs_ (fun x : Int32 => some (.int x)) sg_0 mt_X4_lengthWithin 22 [some (.ref 124), some (.ref 1), none, some (.int c3), some (.int l4), some (.int l5), none] [] u0 0 0 ((lp_X4_lengthWithin_22 m c3 n l4 l5 u0).bind K) := by
  intro n
  induction n with
  | zero =>
    intro l4 l5 u0
    exact xs_none
  | succ n ih =>
    intro l4 l5 u0
    rw [lp_X4_lengthWithin_22]
    refine xs_iload (n := 24) dX4_lengthWithin_22 rfl rfl ?_
    refine xs_iconst (n := 25) (v := (2 : Int32)) dX4_lengthWithin_24 rfl rfl ?_
    refine xs_iload_n (n := 26) dX4_lengthWithin_25 rfl rfl ?_
    refine xs_imul (n := 27) dX4_lengthWithin_26 rfl ?_
    refine xs_icmp_gt (n := 30) (tgt := 120) dX4_lengthWithin_27 rfl rfl (fun hc3 => ?_) (fun hc3 => ?_)
    · exact xs_gf (xs_end (kE (l4, l5, u0))) trivial
    · refine xs_aload_n (n := 31) dX4_lengthWithin_30 rfl rfl ?_
      refine xs_aload_n (n := 32) dX4_lengthWithin_31 rfl rfl ?_
      refine ys_getr (n := 35) dX4_lengthWithin_32 rfl fl_X4_9 sh_124 rfl ?_
      refine ys_callvi (n := 38) (N := mt_X7_step) dX4_lengthWithin_35 rfl ok_X7_step tw_466 im_X7_step se_X7_step ⟨Nat.le_of_ble_eq_true rfl, Nat.le_of_ble_eq_true rfl⟩ [.ref 125] [] rfl rfl (Nat.le_of_ble_eq_true rfl) rfl (Nat.le_of_ble_eq_true rfl) (en_X7_step m 125 sh_125 u0) sh_1 (by decide) rfl (fun q4 => ?_)
      refine xs_istore (n := 40) (lv' := [some (.ref 124), some (.ref 1), none, some (.int c3), some (.int l4), some (.int l5), some (.int q4.1)]) dX4_lengthWithin_38 rfl (Nat.le_of_ble_eq_true rfl) rfl ?_
      refine xs_iload (n := 42) dX4_lengthWithin_40 rfl rfl ?_
      refine xs_if_eq (n := 45) (tgt := 64) dX4_lengthWithin_42 rfl rfl (fun hc5 => ?_) (fun hc5 => ?_)
      · refine xs_aload_n (n := 65) dX4_lengthWithin_64 rfl rfl ?_
        refine ys_callvi (n := 68) (N := mt_X4_isSame) dX4_lengthWithin_65 rfl ok_X4_isSame tw_467 im_X4_isSame se_X4_isSame ⟨Nat.le_of_ble_eq_true rfl, Nat.le_of_ble_eq_true rfl⟩ [] [] rfl rfl (Nat.le_of_ble_eq_true rfl) rfl (Nat.le_of_ble_eq_true rfl) (en_X4_isSame m q4.2) sh_124 (by decide) rfl (fun q6 => ?_)
        refine xs_if_eq (n := 71) (tgt := 77) dX4_lengthWithin_68 rfl rfl (fun hc7 => ?_) (fun hc7 => ?_)
        · refine xs_iload (n := 79) dX4_lengthWithin_77 rfl rfl ?_
          refine xs_iload_n (n := 80) dX4_lengthWithin_79 rfl rfl ?_
          refine xs_join 114 (fun q8 => [some (.ref 124), some (.ref 1), none, some (.int c3), some (.int q8.1), some (.int l5), none]) (fun q8 => []) (fun q8 => q8.2) (fun q8 => ?_) (fun kj9 => ?_)
          · refine xs_iincl (n := 117) (dv := (1 : Int32)) (fun v15 => [some (.ref 124), some (.ref 1), none, some (.int c3), some (.int q8.1), some (.int v15), none]) dX4_lengthWithin_114 rfl rfl rfl (Nat.le_of_ble_eq_true rfl) (fun _ => rfl) (fun v15 => ?_)
            refine xs_goto (n := 22) dX4_lengthWithin_117 rfl ?_
            exact xs_gf (ih q8.1 v15 q8.2) (And.intro rfl (And.intro rfl (And.intro rfl (And.intro rfl (And.intro rfl trivial)))))
          · refine xs_icmp_eq (n := 83) (tgt := 99) dX4_lengthWithin_80 rfl rfl (fun hc10 => ?_) (fun hc10 => ?_)
            · refine xs_aload_n (n := 100) dX4_lengthWithin_99 rfl rfl ?_
              refine ys_getr (n := 103) dX4_lengthWithin_100 rfl fl_X4_9 sh_124 rfl ?_
              refine xs_aload_n (n := 104) dX4_lengthWithin_103 rfl rfl ?_
              refine ys_getr (n := 107) dX4_lengthWithin_104 rfl fl_X4_15 sh_124 rfl ?_
              refine ys_callsv (n := 110) (N := mt_X4_copy) dX4_lengthWithin_107 rfl ok_X4_copy tw_460 st_X4_copy ⟨Nat.le_of_ble_eq_true rfl, Nat.le_of_ble_eq_true rfl⟩ [.ref 125, .ref 126] [] rfl rfl (Nat.le_of_ble_eq_true rfl) rfl (Nat.le_of_ble_eq_true rfl) (en_X4_copy m 125 126 sh_125 sh_126 q6.2) (fun q11 => ?_)
              refine xs_iload (n := 112) dX4_lengthWithin_110 rfl rfl ?_
              refine xs_istore (n := 114) (lv' := [some (.ref 124), some (.ref 1), none, some (.int c3), some (.int l5), some (.int l5), some (.int q4.1)]) dX4_lengthWithin_112 rfl (Nat.le_of_ble_eq_true rfl) rfl ?_
              exact xs_gf (xs_end (kj9 (l5, q11.2))) (And.intro rfl (And.intro rfl (And.intro rfl (And.intro rfl (And.intro rfl trivial)))))
            · refine xs_iload (n := 85) dX4_lengthWithin_83 rfl rfl ?_
              refine xs_iload_n (n := 86) dX4_lengthWithin_85 rfl rfl ?_
              refine xs_icmp_ge (n := 89) (tgt := 114) dX4_lengthWithin_86 rfl rfl (fun hc12 => ?_) (fun hc12 => ?_)
              · exact xs_gf (xs_end (kj9 (l4, q6.2))) (And.intro rfl (And.intro rfl (And.intro rfl (And.intro rfl (And.intro rfl trivial)))))
              · refine xs_iload (n := 91) dX4_lengthWithin_89 rfl rfl ?_
                refine xs_iload (n := 93) dX4_lengthWithin_91 rfl rfl ?_
                refine xs_iconst (n := 94) (v := (1 : Int32)) dX4_lengthWithin_93 rfl rfl ?_
                refine xs_isub (n := 95) dX4_lengthWithin_94 rfl ?_
                refine xs_iand (n := 96) dX4_lengthWithin_95 rfl ?_
                refine xs_if_ne (n := 99) (tgt := 114) dX4_lengthWithin_96 rfl rfl (fun hc13 => ?_) (fun hc13 => ?_)
                · refine xs_aload_n (n := 100) dX4_lengthWithin_99 rfl rfl ?_
                  refine ys_getr (n := 103) dX4_lengthWithin_100 rfl fl_X4_9 sh_124 rfl ?_
                  refine xs_aload_n (n := 104) dX4_lengthWithin_103 rfl rfl ?_
                  refine ys_getr (n := 107) dX4_lengthWithin_104 rfl fl_X4_15 sh_124 rfl ?_
                  refine ys_callsv (n := 110) (N := mt_X4_copy) dX4_lengthWithin_107 rfl ok_X4_copy tw_460 st_X4_copy ⟨Nat.le_of_ble_eq_true rfl, Nat.le_of_ble_eq_true rfl⟩ [.ref 125, .ref 126] [] rfl rfl (Nat.le_of_ble_eq_true rfl) rfl (Nat.le_of_ble_eq_true rfl) (en_X4_copy m 125 126 sh_125 sh_126 q6.2) (fun q14 => ?_)
                  refine xs_iload (n := 112) dX4_lengthWithin_110 rfl rfl ?_
                  refine xs_istore (n := 114) (lv' := [some (.ref 124), some (.ref 1), none, some (.int c3), some (.int l5), some (.int l5), some (.int q4.1)]) dX4_lengthWithin_112 rfl (Nat.le_of_ble_eq_true rfl) rfl ?_
                  exact xs_gf (xs_end (kj9 (l5, q14.2))) (And.intro rfl (And.intro rfl (And.intro rfl (And.intro rfl (And.intro rfl trivial)))))
                · exact xs_gf (xs_end (kj9 (l4, q6.2))) (And.intro rfl (And.intro rfl (And.intro rfl (And.intro rfl (And.intro rfl trivial)))))
        · refine xs_iload (n := 73) dX4_lengthWithin_71 rfl rfl ?_
          refine xs_iload (n := 75) dX4_lengthWithin_73 rfl rfl ?_
          refine xs_isub (n := 76) dX4_lengthWithin_75 rfl ?_
          exact xs_iret dX4_lengthWithin_76 rfl (hK _)
      · refine xs_iload (n := 47) dX4_lengthWithin_45 rfl rfl ?_
        refine xs_iconst (n := 48) (v := (2 : Int32)) dX4_lengthWithin_47 rfl rfl ?_
        refine xs_icmp_ne (n := 51) (tgt := 62) dX4_lengthWithin_48 rfl rfl (fun hc16 => ?_) (fun hc16 => ?_)
        · refine xs_iload (n := 53) dX4_lengthWithin_51 rfl rfl ?_
          refine xs_iload_n (n := 54) dX4_lengthWithin_53 rfl rfl ?_
          refine xs_icmp_gt (n := 57) (tgt := 62) dX4_lengthWithin_54 rfl rfl (fun hc17 => ?_) (fun hc17 => ?_)
          · refine xs_iconst (n := 63) (v := (0 : Int32)) dX4_lengthWithin_62 rfl rfl ?_
            exact xs_iret dX4_lengthWithin_63 rfl (hK _)
          · refine xs_bipush (n := 59) (v := (-4 : Int32)) dX4_lengthWithin_57 rfl rfl ?_
            refine xs_goto (n := 63) dX4_lengthWithin_59 rfl ?_
            exact xs_iret dX4_lengthWithin_63 rfl (hK _)
        · refine xs_iconst (n := 63) (v := (0 : Int32)) dX4_lengthWithin_62 rfl rfl ?_
          exact xs_iret dX4_lengthWithin_63 rfl (hK _)
theorem en_X4_lengthWithin (m : Nat) (x0 : Int32) (u0 : xm_Y) : xs_ (fun x : Int32 => some (.int x)) sg_0 mt_X4_lengthWithin 0 [some (.ref 124), some (.ref 1), some (.ref 123), some (.int x0), none, none, none] [] u0 0 0 (fn_X4_lengthWithin m x0 u0) := by
  refine xs_top ?_
  rw [fn_X4_lengthWithin]
  refine xs_aload_n (n := 1) dX4_lengthWithin_0 rfl rfl ?_
  refine xs_aload_n (n := 2) dX4_lengthWithin_1 rfl rfl ?_
  refine ys_getr (n := 5) dX4_lengthWithin_2 rfl fl_X4_9 sh_124 rfl ?_
  refine ys_callsv (n := 8) (N := mt_X4_copy) dX4_lengthWithin_5 rfl ok_X4_copy tw_460 st_X4_copy ⟨Nat.le_of_ble_eq_true rfl, Nat.le_of_ble_eq_true rfl⟩ [.ref 123, .ref 125] [] rfl rfl (Nat.le_of_ble_eq_true rfl) rfl (Nat.le_of_ble_eq_true rfl) (en_X4_copy m 123 125 sh_123 sh_125 u0) (fun q1 => ?_)
  refine xs_aload_n (n := 9) dX4_lengthWithin_8 rfl rfl ?_
  refine xs_aload_n (n := 10) dX4_lengthWithin_9 rfl rfl ?_
  refine ys_getr (n := 13) dX4_lengthWithin_10 rfl fl_X4_15 sh_124 rfl ?_
  refine ys_callsv (n := 16) (N := mt_X4_copy) dX4_lengthWithin_13 rfl ok_X4_copy tw_460 st_X4_copy ⟨Nat.le_of_ble_eq_true rfl, Nat.le_of_ble_eq_true rfl⟩ [.ref 123, .ref 126] [] rfl rfl (Nat.le_of_ble_eq_true rfl) rfl (Nat.le_of_ble_eq_true rfl) (en_X4_copy m 123 126 sh_123 sh_126 q1.2) (fun q2 => ?_)
  refine xs_iconst (n := 17) (v := (0 : Int32)) dX4_lengthWithin_16 rfl rfl ?_
  refine xs_istore (n := 19) (lv' := [some (.ref 124), some (.ref 1), some (.ref 123), some (.int x0), some (.int (0 : Int32)), none, none]) dX4_lengthWithin_17 rfl (Nat.le_of_ble_eq_true rfl) rfl ?_
  refine xs_iconst (n := 20) (v := (1 : Int32)) dX4_lengthWithin_19 rfl rfl ?_
  refine xs_istore (n := 22) (lv' := [some (.ref 124), some (.ref 1), some (.ref 123), some (.int x0), some (.int (0 : Int32)), some (.int (1 : Int32)), none]) dX4_lengthWithin_20 rfl (Nat.le_of_ble_eq_true rfl) rfl ?_
  refine xs_reg ?_
  refine xs_fg (lv' := [some (.ref 124), some (.ref 1), none, some (.int x0), some (.int (0 : Int32)), some (.int (1 : Int32)), none]) (And.intro rfl (And.intro rfl (And.intro rfl (And.intro rfl (And.intro rfl trivial))))) ?_
  refine el_X4_lengthWithin_22 m x0 _ (fun _ => rfl) (fun q18 => ?_) m (0 : Int32) (1 : Int32) q2.2
  refine xs_inr ?_
  refine xs_iconst (n := 121) (v := (0 : Int32)) dX4_lengthWithin_120 rfl rfl ?_
  exact xs_iret dX4_lengthWithin_121 rfl rfl
