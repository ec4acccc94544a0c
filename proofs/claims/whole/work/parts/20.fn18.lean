def fn_X12_box (m : Nat) (x0 : Int32) (x1 : Int32) (u0 : xm_Y) : Option (Int64 × xm_Y) :=
  ((if x0 < 0 then (
  some ((-3000000000000 : Int64))) else (
  if (u0.1 150 0) ≤ x0 then (
  some ((-3000000000000 : Int64))) else (
  if x1 < 0 then (
  some ((-3000000000000 : Int64))) else (
  if (1 : Int32) < x1 then (
  some ((-3000000000000 : Int64))) else (
  xm_chk (xm_in (((2 : Int32) * x0) + x1) 6) (
  if (u0.1 156 (Int32.toNatClampNeg (((2 : Int32) * x0) + x1))) = 0 then (
  xm_chk (xm_in (((2 : Int32) * x0) + x1) 6) (
  some ((u0.2 155 (Int32.toNatClampNeg (((2 : Int32) * x0) + x1)))))) else (
  some ((-3000000000000 : Int64)))))))) : Option (Int64)).bind fun q1 =>
  some (q1, u0))
theorem en_X12_box (m : Nat) (x0 : Int32) (x1 : Int32) (u0 : xm_Y) : xs_ (fun x : Int64 => some (.long x)) sg_0 mt_X12_box 0 [some (.ref 150), some (.int x0), some (.int x1)] [] u0 0 0 (fn_X12_box m x0 x1 u0) := by
  refine xs_top ?_
  rw [fn_X12_box]
  refine xs_iload_n (n := 1) dX12_box_0 rfl rfl ?_
  refine xs_join 50 (fun q1 => [none, none, none]) (fun q1 => [.long q1]) (fun q1 => u0) (fun q1 => ?_) (fun kj2 => ?_)
  · exact xs_lret dX12_box_50 rfl rfl
  · refine xs_if_lt (n := 4) (tgt := 34) dX12_box_1 rfl rfl (fun hc3 => ?_) (fun hc3 => ?_)
    · refine xs_ldc2 (n := 37) (v := (-3000000000000 : Int64)) dX12_box_34 rfl tw_1279 ?_
      refine xs_goto (n := 50) dX12_box_37 rfl ?_
      exact xs_gf (xs_end (kj2 ((-3000000000000 : Int64)))) trivial
    · refine xs_iload_n (n := 5) dX12_box_4 rfl rfl ?_
      refine xs_aload_n (n := 6) dX12_box_5 rfl rfl ?_
      refine ys_geti (n := 9) dX12_box_6 rfl fl_X12_7 (Or.inl rfl) sh_150 ?_
      refine xs_icmp_ge (n := 12) (tgt := 34) dX12_box_9 rfl rfl (fun hc4 => ?_) (fun hc4 => ?_)
      · refine xs_ldc2 (n := 37) (v := (-3000000000000 : Int64)) dX12_box_34 rfl tw_1279 ?_
        refine xs_goto (n := 50) dX12_box_37 rfl ?_
        exact xs_gf (xs_end (kj2 ((-3000000000000 : Int64)))) trivial
      · refine xs_iload_n (n := 13) dX12_box_12 rfl rfl ?_
        refine xs_if_lt (n := 16) (tgt := 34) dX12_box_13 rfl rfl (fun hc5 => ?_) (fun hc5 => ?_)
        · refine xs_ldc2 (n := 37) (v := (-3000000000000 : Int64)) dX12_box_34 rfl tw_1279 ?_
          refine xs_goto (n := 50) dX12_box_37 rfl ?_
          exact xs_gf (xs_end (kj2 ((-3000000000000 : Int64)))) trivial
        · refine xs_iload_n (n := 17) dX12_box_16 rfl rfl ?_
          refine xs_iconst (n := 18) (v := (1 : Int32)) dX12_box_17 rfl rfl ?_
          refine xs_icmp_gt (n := 21) (tgt := 34) dX12_box_18 rfl rfl (fun hc6 => ?_) (fun hc6 => ?_)
          · refine xs_ldc2 (n := 37) (v := (-3000000000000 : Int64)) dX12_box_34 rfl tw_1279 ?_
            refine xs_goto (n := 50) dX12_box_37 rfl ?_
            exact xs_gf (xs_end (kj2 ((-3000000000000 : Int64)))) trivial
          · refine xs_aload_n (n := 22) dX12_box_21 rfl rfl ?_
            refine ys_getr (n := 25) dX12_box_22 rfl fl_X12_30 sh_150 rfl ?_
            refine xs_iconst (n := 26) (v := (2 : Int32)) dX12_box_25 rfl rfl ?_
            refine xs_iload_n (n := 27) dX12_box_26 rfl rfl ?_
            refine xs_imul (n := 28) dX12_box_27 rfl ?_
            refine xs_iload_n (n := 29) dX12_box_28 rfl rfl ?_
            refine xs_iadd (n := 30) dX12_box_29 rfl ?_
            refine ys_baload (n := 31) dX12_box_30 rfl sh_156 ?_
            refine xs_if_eq (n := 34) (tgt := 40) dX12_box_31 rfl rfl (fun hc7 => ?_) (fun hc7 => ?_)
            · refine xs_aload_n (n := 41) dX12_box_40 rfl rfl ?_
              refine ys_getr (n := 44) dX12_box_41 rfl fl_X12_27 sh_150 rfl ?_
              refine xs_iconst (n := 45) (v := (2 : Int32)) dX12_box_44 rfl rfl ?_
              refine xs_iload_n (n := 46) dX12_box_45 rfl rfl ?_
              refine xs_imul (n := 47) dX12_box_46 rfl ?_
              refine xs_iload_n (n := 48) dX12_box_47 rfl rfl ?_
              refine xs_iadd (n := 49) dX12_box_48 rfl ?_
              refine ys_laload (n := 50) dX12_box_49 rfl sh_155 ?_
              exact xs_gf (xs_end (kj2 ((u0.2 155 (Int32.toNatClampNeg (((2 : Int32) * x0) + x1)))))) trivial
            · refine xs_ldc2 (n := 37) (v := (-3000000000000 : Int64)) dX12_box_34 rfl tw_1279 ?_
              refine xs_goto (n := 50) dX12_box_37 rfl ?_
              exact xs_gf (xs_end (kj2 ((-3000000000000 : Int64)))) trivial
def fn_X12_open (m : Nat) (u0 : xm_Y) : Option (Int32 × xm_Y) :=
  ((fn_X12_openAll m u0).bind fun q1 =>
  some ((0 : Int32), q1.2))
theorem en_X12_open (m : Nat) (u0 : xm_Y) : xs_ (fun x : Int32 => some (.int x)) sg_0 mt_X12_open 0 [some (.ref 150)] [] u0 0 0 (fn_X12_open m u0) := by
  refine xs_top ?_
  rw [fn_X12_open]
  refine xs_aload_n (n := 1) dX12_open_0 rfl rfl ?_
  refine ys_callvv (n := 4) (N := mt_X12_openAll) dX12_open_1 rfl ok_X12_openAll tw_863 im_X12_openAll se_X12_openAll ⟨Nat.le_of_ble_eq_true rfl, Nat.le_of_ble_eq_true rfl⟩ [] [] rfl rfl (Nat.le_of_ble_eq_true rfl) rfl (Nat.le_of_ble_eq_true rfl) (en_X12_openAll m u0) sh_150 (by decide) rfl (fun q1 => ?_)
  refine xs_iconst (n := 5) (v := (0 : Int32)) dX12_open_4 rfl rfl ?_
  exact xs_iret dX12_open_5 rfl rfl
def fn_X12_call (m : Nat) (x0 : Int32) (x1 : Int32) (x2 : Int32) (u0 : xm_Y) : Option (Int32 × xm_Y) :=
  if x0 < 0 then (
  some ((-1 : Int32), u0)) else (
  if (7 : Int32) < x0 then (
  some ((-1 : Int32), u0)) else (
  if x1 < 0 then (
  some ((-1 : Int32), u0)) else (
  if (7 : Int32) < x1 then (
  some ((-1 : Int32), u0)) else (
  if x2 < 0 then (
  some ((-1 : Int32), u0)) else (
  if x2 < (43046721 : Int32) then (
  if (u0.1 150 36) = (40 : Int32) then (
  some ((-2 : Int32), u0)) else (
  xm_chk (xm_in (u0.1 150 36) 40) (xm_let (w_I u0 173 (Int32.toNatClampNeg (u0.1 150 36)) x0) fun u8 =>
  xm_chk (xm_in (u8.1 150 36) 40) (xm_let (w_I u8 174 (Int32.toNatClampNeg (u8.1 150 36)) x1) fun u9 =>
  xm_chk (xm_in (u9.1 150 36) 40) (xm_let (w_I u9 175 (Int32.toNatClampNeg (u9.1 150 36)) x2) fun u10 =>
  xm_let (w_I u10 150 36 ((u10.1 150 36) + (1 : Int32))) fun u11 =>
  some (((u11.1 150 36) - (1 : Int32)), u11)))))) else (
  some ((-1 : Int32), u0)))))))
theorem en_X12_call (m : Nat) (x0 : Int32) (x1 : Int32) (x2 : Int32) (u0 : xm_Y) : xs_ (fun x : Int32 => some (.int x)) sg_0 mt_X12_call 0 [some (.ref 150), some (.int x0), some (.int x1), some (.int x2)] [] u0 0 0 (fn_X12_call m x0 x1 x2 u0) := by
  refine xs_top ?_
  rw [fn_X12_call]
  refine xs_iload_n (n := 1) dX12_call_0 rfl rfl ?_
  refine xs_if_lt (n := 4) (tgt := 31) dX12_call_1 rfl rfl (fun hc1 => ?_) (fun hc1 => ?_)
  · refine xs_iconst (n := 32) (v := (-1 : Int32)) dX12_call_31 rfl rfl ?_
    exact xs_iret dX12_call_32 rfl rfl
  · refine xs_iload_n (n := 5) dX12_call_4 rfl rfl ?_
    refine xs_bipush (n := 7) (v := (7 : Int32)) dX12_call_5 rfl rfl ?_
    refine xs_icmp_gt (n := 10) (tgt := 31) dX12_call_7 rfl rfl (fun hc2 => ?_) (fun hc2 => ?_)
    · refine xs_iconst (n := 32) (v := (-1 : Int32)) dX12_call_31 rfl rfl ?_
      exact xs_iret dX12_call_32 rfl rfl
    · refine xs_iload_n (n := 11) dX12_call_10 rfl rfl ?_
      refine xs_if_lt (n := 14) (tgt := 31) dX12_call_11 rfl rfl (fun hc3 => ?_) (fun hc3 => ?_)
      · refine xs_iconst (n := 32) (v := (-1 : Int32)) dX12_call_31 rfl rfl ?_
        exact xs_iret dX12_call_32 rfl rfl
      · refine xs_iload_n (n := 15) dX12_call_14 rfl rfl ?_
        refine xs_bipush (n := 17) (v := (7 : Int32)) dX12_call_15 rfl rfl ?_
        refine xs_icmp_gt (n := 20) (tgt := 31) dX12_call_17 rfl rfl (fun hc4 => ?_) (fun hc4 => ?_)
        · refine xs_iconst (n := 32) (v := (-1 : Int32)) dX12_call_31 rfl rfl ?_
          exact xs_iret dX12_call_32 rfl rfl
        · refine xs_iload_n (n := 21) dX12_call_20 rfl rfl ?_
          refine xs_if_lt (n := 24) (tgt := 31) dX12_call_21 rfl rfl (fun hc5 => ?_) (fun hc5 => ?_)
          · refine xs_iconst (n := 32) (v := (-1 : Int32)) dX12_call_31 rfl rfl ?_
            exact xs_iret dX12_call_32 rfl rfl
          · refine xs_iload_n (n := 25) dX12_call_24 rfl rfl ?_
            refine xs_ldc_w (n := 28) (v := (43046721 : Int32)) dX12_call_25 rfl tw_1288 ?_
            refine xs_icmp_lt (n := 31) (tgt := 33) dX12_call_28 rfl rfl (fun hc6 => ?_) (fun hc6 => ?_)
            · refine xs_aload_n (n := 34) dX12_call_33 rfl rfl ?_
              refine ys_geti (n := 37) dX12_call_34 rfl fl_X12_348 (Or.inl rfl) sh_150 ?_
              refine xs_bipush (n := 39) (v := (40 : Int32)) dX12_call_37 rfl rfl ?_
              refine xs_icmp_ne (n := 42) (tgt := 45) dX12_call_39 rfl rfl (fun hc7 => ?_) (fun hc7 => ?_)
              · refine xs_bipush (n := 44) (v := (-2 : Int32)) dX12_call_42 rfl rfl ?_
                exact xs_iret dX12_call_44 rfl rfl
              · refine xs_aload_n (n := 46) dX12_call_45 rfl rfl ?_
                refine ys_getr (n := 49) dX12_call_46 rfl fl_X12_86 sh_150 rfl ?_
                refine xs_aload_n (n := 50) dX12_call_49 rfl rfl ?_
                refine ys_geti (n := 53) dX12_call_50 rfl fl_X12_348 (Or.inl rfl) sh_150 ?_
                refine xs_iload_n (n := 54) dX12_call_53 rfl rfl ?_
                refine ys_iastore (n := 55) dX12_call_54 rfl sh_173 (fun u8 => ?_)
                refine xs_aload_n (n := 56) dX12_call_55 rfl rfl ?_
                refine ys_getr (n := 59) dX12_call_56 rfl fl_X12_89 sh_150 rfl ?_
                refine xs_aload_n (n := 60) dX12_call_59 rfl rfl ?_
                refine ys_geti (n := 63) dX12_call_60 rfl fl_X12_348 (Or.inl rfl) sh_150 ?_
                refine xs_iload_n (n := 64) dX12_call_63 rfl rfl ?_
                refine ys_iastore (n := 65) dX12_call_64 rfl sh_174 (fun u9 => ?_)
                refine xs_aload_n (n := 66) dX12_call_65 rfl rfl ?_
                refine ys_getr (n := 69) dX12_call_66 rfl fl_X12_92 sh_150 rfl ?_
                refine xs_aload_n (n := 70) dX12_call_69 rfl rfl ?_
                refine ys_geti (n := 73) dX12_call_70 rfl fl_X12_348 (Or.inl rfl) sh_150 ?_
                refine xs_iload_n (n := 74) dX12_call_73 rfl rfl ?_
                refine ys_iastore (n := 75) dX12_call_74 rfl sh_175 (fun u10 => ?_)
                refine xs_aload_n (n := 76) dX12_call_75 rfl rfl ?_
                refine xs_dup (n := 77) dX12_call_76 rfl rfl ?_
                refine ys_geti (n := 80) dX12_call_77 rfl fl_X12_348 (Or.inl rfl) sh_150 ?_
                refine xs_iconst (n := 81) (v := (1 : Int32)) dX12_call_80 rfl rfl ?_
                refine xs_iadd (n := 82) dX12_call_81 rfl ?_
                refine ys_puti (n := 85) dX12_call_82 rfl fl_X12_348 rfl sh_150 (fun u11 => ?_)
                refine xs_aload_n (n := 86) dX12_call_85 rfl rfl ?_
                refine ys_geti (n := 89) dX12_call_86 rfl fl_X12_348 (Or.inl rfl) sh_150 ?_
                refine xs_iconst (n := 90) (v := (1 : Int32)) dX12_call_89 rfl rfl ?_
                refine xs_isub (n := 91) dX12_call_90 rfl ?_
                exact xs_iret dX12_call_91 rfl rfl
            · refine xs_iconst (n := 32) (v := (-1 : Int32)) dX12_call_31 rfl rfl ?_
              exact xs_iret dX12_call_32 rfl rfl
def fn_X12_clear (m : Nat) (u0 : xm_Y) : Option (Int32 × xm_Y) :=
  xm_let (α := Int32) ((u0.1 150 36)) fun v1 =>
  xm_let (w_I u0 150 36 (0 : Int32)) fun u2 =>
  some (v1, u2)
theorem en_X12_clear (m : Nat) (u0 : xm_Y) : xs_ (fun x : Int32 => some (.int x)) sg_0 mt_X12_clear 0 [some (.ref 150), none] [] u0 0 0 (fn_X12_clear m u0) := by
  refine xs_top ?_
  rw [fn_X12_clear]
  refine xs_aload_n (n := 1) dX12_clear_0 rfl rfl ?_
  refine ys_geti (n := 4) dX12_clear_1 rfl fl_X12_348 (Or.inl rfl) sh_150 ?_
  refine xs_leti (fun v1 => ?_)
  refine xs_istore_n (n := 5) (lv' := [some (.ref 150), some (.int v1)]) dX12_clear_4 rfl (Nat.le_of_ble_eq_true rfl) rfl ?_
  refine xs_aload_n (n := 6) dX12_clear_5 rfl rfl ?_
  refine xs_iconst (n := 7) (v := (0 : Int32)) dX12_clear_6 rfl rfl ?_
  refine ys_puti (n := 10) dX12_clear_7 rfl fl_X12_348 rfl sh_150 (fun u2 => ?_)
  refine xs_iload_n (n := 11) dX12_clear_10 rfl rfl ?_
  exact xs_iret dX12_clear_11 rfl rfl
def lp_X12_spread_5 (m : Nat) (a1 : Nat) : Nat → Int32 → Int32 → xm_Y → Option (Int32 × Int32 × xm_Y)
  | 0, _, _, _ => none
  | n + 1, l2, l3, u0 =>
  if l3 < 0 then (
  some (l2, l3, u0)) else (
  xm_chk (¬ (3 : Int32) = 0) (
  xm_chk (xm_in l3 16) (xm_let (w_I u0 a1 (Int32.toNatClampNeg l3) (l2 - l2 / (3 : Int32) * (3 : Int32))) fun u2 =>
  xm_chk (¬ (3 : Int32) = 0) (
  xm_let (α := Int32) ((l2 / (3 : Int32))) fun v3 =>
  xm_let (α := Int32) (l3 + (-1 : Int32)) fun v4 =>
  lp_X12_spread_5 m a1 n v3 v4 u2))))
def fn_X12_spread (m : Nat) (x0 : Int32) (w : Nat) (u0 : xm_Y) : Option (Unit × xm_Y) :=
  ((lp_X12_spread_5 m w m x0 (15 : Int32) u0).bind fun q5 =>
  some ((), q5.2.2))
theorem el_X12_spread_5 (m : Nat) (a1 : Nat) (ha1 : xsh_ a1 13 16) (K : Int32 × Int32 × xm_Y → Option (Unit × xm_Y)) (kE : ∀ q : Int32 × Int32 × xm_Y, xs_ (fun _ : Unit => none) sg_0 mt_X12_spread 25 [none, none, none, none] [] q.2.2 0 0 (K q)) : ∀ (n : Nat) (l2 : Int32) (l3 : Int32) (u0 : xm_Y), xs_ (fun _ : Unit => none) sg_0 mt_X12_spread 5 [none, some (.ref a1), some (.int l2), some (.int l3)] [] u0 0 0 ((lp_X12_spread_5 m a1 n l2 l3 u0).bind K) := by
  intro n
  induction n with
  | zero =>
    intro l2 l3 u0
    exact xs_none
  | succ n ih =>
    intro l2 l3 u0
    rw [lp_X12_spread_5]
    refine xs_iload_n (n := 6) dX12_spread_5 rfl rfl ?_
    refine xs_if_lt (n := 9) (tgt := 25) dX12_spread_6 rfl rfl (fun hc1 => ?_) (fun hc1 => ?_)
    · exact xs_gf (xs_end (kE (l2, l3, u0))) trivial
    · refine xs_aload_n (n := 10) dX12_spread_9 rfl rfl ?_
      refine xs_iload_n (n := 11) dX12_spread_10 rfl rfl ?_
      refine xs_iload_n (n := 12) dX12_spread_11 rfl rfl ?_
      refine xs_iconst (n := 13) (v := (3 : Int32)) dX12_spread_12 rfl rfl ?_
      refine xs_irem (n := 14) dX12_spread_13 rfl (fun _ => ?_)
      refine ys_iastore (n := 15) dX12_spread_14 rfl ha1 (fun u2 => ?_)
      refine xs_iload_n (n := 16) dX12_spread_15 rfl rfl ?_
      refine xs_iconst (n := 17) (v := (3 : Int32)) dX12_spread_16 rfl rfl ?_
      refine xs_idiv (n := 18) dX12_spread_17 rfl (fun _ => ?_)
      refine xs_leti (fun v3 => ?_)
      refine xs_istore_n (n := 19) (lv' := [none, some (.ref a1), some (.int v3), some (.int l3)]) dX12_spread_18 rfl (Nat.le_of_ble_eq_true rfl) rfl ?_
      refine xs_iincl (n := 22) (dv := (-1 : Int32)) (fun v4 => [none, some (.ref a1), some (.int v3), some (.int v4)]) dX12_spread_19 rfl rfl rfl (Nat.le_of_ble_eq_true rfl) (fun _ => rfl) (fun v4 => ?_)
      refine xs_goto (n := 5) dX12_spread_22 rfl ?_
      exact xs_gf (ih v3 v4 u2) (And.intro rfl (And.intro rfl (And.intro rfl trivial)))
theorem en_X12_spread (m : Nat) (x0 : Int32) (w : Nat) (hw_ : xsh_ w 13 16) (u0 : xm_Y) : xs_ (fun _ : Unit => none) sg_0 mt_X12_spread 0 [some (.int x0), some (.ref w), none, none] [] u0 0 0 (fn_X12_spread m x0 w u0) := by
  refine xs_top ?_
  rw [fn_X12_spread]
  refine xs_iload_n (n := 1) dX12_spread_0 rfl rfl ?_
  refine xs_istore_n (n := 2) (lv' := [some (.int x0), some (.ref w), some (.int x0), none]) dX12_spread_1 rfl (Nat.le_of_ble_eq_true rfl) rfl ?_
  refine xs_bipush (n := 4) (v := (15 : Int32)) dX12_spread_2 rfl rfl ?_
  refine xs_istore_n (n := 5) (lv' := [some (.int x0), some (.ref w), some (.int x0), some (.int (15 : Int32))]) dX12_spread_4 rfl (Nat.le_of_ble_eq_true rfl) rfl ?_
  refine xs_reg ?_
  refine xs_fg (lv' := [none, some (.ref w), some (.int x0), some (.int (15 : Int32))]) (And.intro rfl (And.intro rfl (And.intro rfl trivial))) ?_
  refine el_X12_spread_5 m w hw_ _ (fun q5 => ?_) m x0 (15 : Int32) u0
  exact xs_vret dX12_spread_25 rfl rfl
def lp_X12_together_42 (m : Nat) (c4 : Int32) (c5 : Int32) (u0 : xm_Y) : Nat → Int32 → Int32 → Option (Int32 × Int32)
  | 0, _, _ => none
  | n + 1, l6, l7 =>
  if (4 : Int32) ≤ l7 then (
  some (l6, l7)) else (
  xm_chk (xm_in (((4 : Int32) * c4) + l7) 16) (
  xm_let (α := Int32) ((u0.1 179 (Int32.toNatClampNeg (((4 : Int32) * c4) + l7)))) fun v6 =>
  xm_chk (xm_in (((4 : Int32) * l7) + c5) 16) (
  xm_let (α := Int32) ((u0.1 180 (Int32.toNatClampNeg (((4 : Int32) * l7) + c5)))) fun v7 =>
  ((if v6 = 0 then (
  some ((0 : Int32))) else (
  if v7 = 0 then (
  some ((0 : Int32))) else (
  if v6 = (2 : Int32) then (
  some ((2 : Int32))) else (
  if v7 = (2 : Int32) then (
  some ((2 : Int32))) else (
  some ((1 : Int32)))))) : Option (Int32)).bind fun q8 =>
  ((if q8 ≤ l6 then (
  some (l6)) else (
  some (q8)) : Option (Int32)).bind fun q14 =>
  xm_let (α := Int32) (l7 + (1 : Int32)) fun v17 =>
  lp_X12_together_42 m c4 c5 u0 n q14 v17)))))
def lp_X12_together_30 (m : Nat) (c4 : Int32) (u0 : xm_Y) : Nat → Int32 → Int32 → Option (Int32 × Int32)
  | 0, _, _ => none
  | n + 1, l3, l5 =>
  if (4 : Int32) ≤ l5 then (
  some (l3, l5)) else (
  ((lp_X12_together_42 m c4 l5 u0 m (0 : Int32) (0 : Int32)).bind fun q18 =>
  xm_let (α := Int32) ((((3 : Int32) * l3) + q18.1)) fun v19 =>
  xm_let (α := Int32) (l5 + (1 : Int32)) fun v20 =>
  lp_X12_together_30 m c4 u0 n v19 v20))
def lp_X12_together_21 (m : Nat) (u0 : xm_Y) : Nat → Int32 → Int32 → Option (Int32 × Int32)
  | 0, _, _ => none
  | n + 1, l3, l4 =>
  if (4 : Int32) ≤ l4 then (
  some (l3, l4)) else (
  ((lp_X12_together_30 m l4 u0 m l3 (0 : Int32)).bind fun q21 =>
  xm_let (α := Int32) (l4 + (1 : Int32)) fun v22 =>
  lp_X12_together_21 m u0 n q21.1 v22))
def fn_X12_together (m : Nat) (x0 : Int32) (x1 : Int32) (u0 : xm_Y) : Option (Int32 × xm_Y) :=
  ((fn_X12_spread m x0 179 u0).bind fun q1 =>
  ((fn_X12_spread m x1 180 q1.2).bind fun q2 =>
  ((lp_X12_together_21 m q2.2 m (0 : Int32) (0 : Int32)).bind fun q23 =>
  some (q23.1, q2.2))))
theorem el_X12_together_42 (m : Nat) (c4 : Int32) (c5 : Int32) (c3 : Int32) (u0 : xm_Y) (K : Int32 × Int32 → Option (Int32 × xm_Y)) (kE : ∀ q : Int32 × Int32, xs_ (fun x : Int32 => some (.int x)) sg_0 mt_X12_together 131 [some (.ref 150), none, none, some (.int c3), some (.int c4), some (.int c5), some (.int q.1), none, none, none, none] [] u0 0 0 (K q)) : ∀ (n : Nat) (l6 : Int32) (l7 : Int32), xs_ (fun x : Int32 => some (.int x)) sg_0 mt_X12_together 42 [some (.ref 150), none, none, some (.int c3), some (.int c4), some (.int c5), some (.int l6), some (.int l7), none, none, none] [] u0 0 0 ((lp_X12_together_42 m c4 c5 u0 n l6 l7).bind K) := by
  intro n
  induction n with
  | zero =>
    intro l6 l7
    exact xs_none
  | succ n ih =>
    intro l6 l7
    rw [lp_X12_together_42]
    refine xs_iload (n := 44) dX12_together_42 rfl rfl ?_
    refine xs_iconst (n := 45) (v := (4 : Int32)) dX12_together_44 rfl rfl ?_
    refine xs_icmp_ge (n := 48) (tgt := 131) dX12_together_45 rfl rfl (fun hc5 => ?_) (fun hc5 => ?_)
    · exact xs_gf (xs_end (kE (l6, l7))) (And.intro rfl (And.intro rfl (And.intro rfl (And.intro rfl (And.intro rfl trivial)))))
    · refine xs_aload_n (n := 49) dX12_together_48 rfl rfl ?_
      refine ys_getr (n := 52) dX12_together_49 rfl fl_X12_116 sh_150 rfl ?_
      refine xs_iconst (n := 53) (v := (4 : Int32)) dX12_together_52 rfl rfl ?_
      refine xs_iload (n := 55) dX12_together_53 rfl rfl ?_
      refine xs_imul (n := 56) dX12_together_55 rfl ?_
      refine xs_iload (n := 58) dX12_together_56 rfl rfl ?_
      refine xs_iadd (n := 59) dX12_together_58 rfl ?_
      refine ys_iaload (n := 60) dX12_together_59 rfl sh_179 ?_
      refine xs_leti (fun v6 => ?_)
      refine xs_istore (n := 62) (lv' := [some (.ref 150), none, none, some (.int c3), some (.int c4), some (.int c5), some (.int l6), some (.int l7), some (.int v6), none, none]) dX12_together_60 rfl (Nat.le_of_ble_eq_true rfl) rfl ?_
      refine xs_aload_n (n := 63) dX12_together_62 rfl rfl ?_
      refine ys_getr (n := 66) dX12_together_63 rfl fl_X12_119 sh_150 rfl ?_
      refine xs_iconst (n := 67) (v := (4 : Int32)) dX12_together_66 rfl rfl ?_
      refine xs_iload (n := 69) dX12_together_67 rfl rfl ?_
      refine xs_imul (n := 70) dX12_together_69 rfl ?_
      refine xs_iload (n := 72) dX12_together_70 rfl rfl ?_
      refine xs_iadd (n := 73) dX12_together_72 rfl ?_
      refine ys_iaload (n := 74) dX12_together_73 rfl sh_180 ?_
      refine xs_leti (fun v7 => ?_)
      refine xs_istore (n := 76) (lv' := [some (.ref 150), none, none, some (.int c3), some (.int c4), some (.int c5), some (.int l6), some (.int l7), some (.int v6), some (.int v7), none]) dX12_together_74 rfl (Nat.le_of_ble_eq_true rfl) rfl ?_
      refine xs_iload (n := 78) dX12_together_76 rfl rfl ?_
      refine xs_join 107 (fun q8 => [some (.ref 150), none, none, some (.int c3), some (.int c4), some (.int c5), some (.int l6), some (.int l7), none, none, none]) (fun q8 => [.int q8]) (fun q8 => u0) (fun q8 => ?_) (fun kj9 => ?_)
      · refine xs_istore (n := 109) (lv' := [some (.ref 150), none, none, some (.int c3), some (.int c4), some (.int c5), some (.int l6), some (.int l7), none, none, some (.int q8)]) dX12_together_107 rfl (Nat.le_of_ble_eq_true rfl) rfl ?_
        refine xs_iload (n := 111) dX12_together_109 rfl rfl ?_
        refine xs_iload (n := 113) dX12_together_111 rfl rfl ?_
        refine xs_join 123 (fun q14 => [some (.ref 150), none, none, some (.int c3), some (.int c4), some (.int c5), none, some (.int l7), none, none, none]) (fun q14 => [.int q14]) (fun q14 => u0) (fun q14 => ?_) (fun kj15 => ?_)
        · refine xs_istore (n := 125) (lv' := [some (.ref 150), none, none, some (.int c3), some (.int c4), some (.int c5), some (.int q14), some (.int l7), none, none, none]) dX12_together_123 rfl (Nat.le_of_ble_eq_true rfl) rfl ?_
          refine xs_iincl (n := 128) (dv := (1 : Int32)) (fun v17 => [some (.ref 150), none, none, some (.int c3), some (.int c4), some (.int c5), some (.int q14), some (.int v17), none, none, none]) dX12_together_125 rfl rfl rfl (Nat.le_of_ble_eq_true rfl) (fun _ => rfl) (fun v17 => ?_)
          refine xs_goto (n := 42) dX12_together_128 rfl ?_
          exact xs_gf (ih q14 v17) (And.intro rfl (And.intro rfl (And.intro rfl (And.intro rfl (And.intro rfl (And.intro rfl trivial))))))
        · refine xs_icmp_le (n := 116) (tgt := 121) dX12_together_113 rfl rfl (fun hc16 => ?_) (fun hc16 => ?_)
          · refine xs_iload (n := 123) dX12_together_121 rfl rfl ?_
            exact xs_gf (xs_end (kj15 (l6))) (And.intro rfl (And.intro rfl (And.intro rfl (And.intro rfl (And.intro rfl trivial)))))
          · refine xs_iload (n := 118) dX12_together_116 rfl rfl ?_
            refine xs_goto (n := 123) dX12_together_118 rfl ?_
            exact xs_gf (xs_end (kj15 (q8))) (And.intro rfl (And.intro rfl (And.intro rfl (And.intro rfl (And.intro rfl trivial)))))
      · refine xs_if_eq (n := 81) (tgt := 86) dX12_together_78 rfl rfl (fun hc10 => ?_) (fun hc10 => ?_)
        · refine xs_iconst (n := 87) (v := (0 : Int32)) dX12_together_86 rfl rfl ?_
          refine xs_goto (n := 107) dX12_together_87 rfl ?_
          exact xs_gf (xs_end (kj9 ((0 : Int32)))) (And.intro rfl (And.intro rfl (And.intro rfl (And.intro rfl (And.intro rfl (And.intro rfl trivial))))))
        · refine xs_iload (n := 83) dX12_together_81 rfl rfl ?_
          refine xs_if_ne (n := 86) (tgt := 90) dX12_together_83 rfl rfl (fun hc11 => ?_) (fun hc11 => ?_)
          · refine xs_iconst (n := 87) (v := (0 : Int32)) dX12_together_86 rfl rfl ?_
            refine xs_goto (n := 107) dX12_together_87 rfl ?_
            exact xs_gf (xs_end (kj9 ((0 : Int32)))) (And.intro rfl (And.intro rfl (And.intro rfl (And.intro rfl (And.intro rfl (And.intro rfl trivial))))))
          · refine xs_iload (n := 92) dX12_together_90 rfl rfl ?_
            refine xs_iconst (n := 93) (v := (2 : Int32)) dX12_together_92 rfl rfl ?_
            refine xs_icmp_eq (n := 96) (tgt := 102) dX12_together_93 rfl rfl (fun hc12 => ?_) (fun hc12 => ?_)
            · refine xs_iconst (n := 103) (v := (2 : Int32)) dX12_together_102 rfl rfl ?_
              refine xs_goto (n := 107) dX12_together_103 rfl ?_
              exact xs_gf (xs_end (kj9 ((2 : Int32)))) (And.intro rfl (And.intro rfl (And.intro rfl (And.intro rfl (And.intro rfl (And.intro rfl trivial))))))
            · refine xs_iload (n := 98) dX12_together_96 rfl rfl ?_
              refine xs_iconst (n := 99) (v := (2 : Int32)) dX12_together_98 rfl rfl ?_
              refine xs_icmp_ne (n := 102) (tgt := 106) dX12_together_99 rfl rfl (fun hc13 => ?_) (fun hc13 => ?_)
              · refine xs_iconst (n := 103) (v := (2 : Int32)) dX12_together_102 rfl rfl ?_
                refine xs_goto (n := 107) dX12_together_103 rfl ?_
                exact xs_gf (xs_end (kj9 ((2 : Int32)))) (And.intro rfl (And.intro rfl (And.intro rfl (And.intro rfl (And.intro rfl (And.intro rfl trivial))))))
              · refine xs_iconst (n := 107) (v := (1 : Int32)) dX12_together_106 rfl rfl ?_
                exact xs_gf (xs_end (kj9 ((1 : Int32)))) (And.intro rfl (And.intro rfl (And.intro rfl (And.intro rfl (And.intro rfl (And.intro rfl trivial))))))
theorem el_X12_together_30 (m : Nat) (c4 : Int32) (u0 : xm_Y) (K : Int32 × Int32 → Option (Int32 × xm_Y)) (kE : ∀ q : Int32 × Int32, xs_ (fun x : Int32 => some (.int x)) sg_0 mt_X12_together 144 [some (.ref 150), none, none, some (.int q.1), some (.int c4), none, none, none, none, none, none] [] u0 0 0 (K q)) : ∀ (n : Nat) (l3 : Int32) (l5 : Int32), xs_ (fun x : Int32 => some (.int x)) sg_0 mt_X12_together 30 [some (.ref 150), none, none, some (.int l3), some (.int c4), some (.int l5), none, none, none, none, none] [] u0 0 0 ((lp_X12_together_30 m c4 u0 n l3 l5).bind K) := by
  intro n
  induction n with
  | zero =>
    intro l3 l5
    exact xs_none
  | succ n ih =>
    intro l3 l5
    rw [lp_X12_together_30]
    refine xs_iload (n := 32) dX12_together_30 rfl rfl ?_
    refine xs_iconst (n := 33) (v := (4 : Int32)) dX12_together_32 rfl rfl ?_
    refine xs_icmp_ge (n := 36) (tgt := 144) dX12_together_33 rfl rfl (fun hc4 => ?_) (fun hc4 => ?_)
    · exact xs_gf (xs_end (kE (l3, l5))) (And.intro rfl (And.intro rfl (And.intro rfl trivial)))
    · refine xs_iconst (n := 37) (v := (0 : Int32)) dX12_together_36 rfl rfl ?_
      refine xs_istore (n := 39) (lv' := [some (.ref 150), none, none, some (.int l3), some (.int c4), some (.int l5), some (.int (0 : Int32)), none, none, none, none]) dX12_together_37 rfl (Nat.le_of_ble_eq_true rfl) rfl ?_
      refine xs_iconst (n := 40) (v := (0 : Int32)) dX12_together_39 rfl rfl ?_
      refine xs_istore (n := 42) (lv' := [some (.ref 150), none, none, some (.int l3), some (.int c4), some (.int l5), some (.int (0 : Int32)), some (.int (0 : Int32)), none, none, none]) dX12_together_40 rfl (Nat.le_of_ble_eq_true rfl) rfl ?_
      refine xs_reg ?_
      refine xs_fg (lv' := [some (.ref 150), none, none, some (.int l3), some (.int c4), some (.int l5), some (.int (0 : Int32)), some (.int (0 : Int32)), none, none, none]) (And.intro rfl (And.intro rfl (And.intro rfl (And.intro rfl (And.intro rfl (And.intro rfl trivial)))))) ?_
      refine el_X12_together_42 m c4 l5 l3 u0 _ (fun q18 => ?_) m (0 : Int32) (0 : Int32)
      refine xs_iconst (n := 132) (v := (3 : Int32)) dX12_together_131 rfl rfl ?_
      refine xs_iload_n (n := 133) dX12_together_132 rfl rfl ?_
      refine xs_imul (n := 134) dX12_together_133 rfl ?_
      refine xs_iload (n := 136) dX12_together_134 rfl rfl ?_
      refine xs_iadd (n := 137) dX12_together_136 rfl ?_
      refine xs_leti (fun v19 => ?_)
      refine xs_istore_n (n := 138) (lv' := [some (.ref 150), none, none, some (.int v19), some (.int c4), some (.int l5), some (.int q18.1), none, none, none, none]) dX12_together_137 rfl (Nat.le_of_ble_eq_true rfl) rfl ?_
      refine xs_iincl (n := 141) (dv := (1 : Int32)) (fun v20 => [some (.ref 150), none, none, some (.int v19), some (.int c4), some (.int v20), some (.int q18.1), none, none, none, none]) dX12_together_138 rfl rfl rfl (Nat.le_of_ble_eq_true rfl) (fun _ => rfl) (fun v20 => ?_)
      refine xs_goto (n := 30) dX12_together_141 rfl ?_
      exact xs_gf (ih v19 v20) (And.intro rfl (And.intro rfl (And.intro rfl (And.intro rfl trivial))))
theorem el_X12_together_21 (m : Nat) (u0 : xm_Y) (K : Int32 × Int32 → Option (Int32 × xm_Y)) (kE : ∀ q : Int32 × Int32, xs_ (fun x : Int32 => some (.int x)) sg_0 mt_X12_together 150 [none, none, none, some (.int q.1), none, none, none, none, none, none, none] [] u0 0 0 (K q)) : ∀ (n : Nat) (l3 : Int32) (l4 : Int32), xs_ (fun x : Int32 => some (.int x)) sg_0 mt_X12_together 21 [some (.ref 150), none, none, some (.int l3), some (.int l4), none, none, none, none, none, none] [] u0 0 0 ((lp_X12_together_21 m u0 n l3 l4).bind K) := by
  intro n
  induction n with
  | zero =>
    intro l3 l4
    exact xs_none
  | succ n ih =>
    intro l3 l4
    rw [lp_X12_together_21]
    refine xs_iload (n := 23) dX12_together_21 rfl rfl ?_
    refine xs_iconst (n := 24) (v := (4 : Int32)) dX12_together_23 rfl rfl ?_
    refine xs_icmp_ge (n := 27) (tgt := 150) dX12_together_24 rfl rfl (fun hc3 => ?_) (fun hc3 => ?_)
    · exact xs_gf (xs_end (kE (l3, l4))) (And.intro rfl trivial)
    · refine xs_iconst (n := 28) (v := (0 : Int32)) dX12_together_27 rfl rfl ?_
      refine xs_istore (n := 30) (lv' := [some (.ref 150), none, none, some (.int l3), some (.int l4), some (.int (0 : Int32)), none, none, none, none, none]) dX12_together_28 rfl (Nat.le_of_ble_eq_true rfl) rfl ?_
      refine xs_reg ?_
      refine xs_fg (lv' := [some (.ref 150), none, none, some (.int l3), some (.int l4), some (.int (0 : Int32)), none, none, none, none, none]) (And.intro rfl (And.intro rfl (And.intro rfl (And.intro rfl trivial)))) ?_
      refine el_X12_together_30 m l4 u0 _ (fun q21 => ?_) m l3 (0 : Int32)
      refine xs_iincl (n := 147) (dv := (1 : Int32)) (fun v22 => [some (.ref 150), none, none, some (.int q21.1), some (.int v22), none, none, none, none, none, none]) dX12_together_144 rfl rfl rfl (Nat.le_of_ble_eq_true rfl) (fun _ => rfl) (fun v22 => ?_)
      refine xs_goto (n := 21) dX12_together_147 rfl ?_
      exact xs_gf (ih q21.1 v22) (And.intro rfl (And.intro rfl (And.intro rfl trivial)))
theorem en_X12_together (m : Nat) (x0 : Int32) (x1 : Int32) (u0 : xm_Y) : xs_ (fun x : Int32 => some (.int x)) sg_0 mt_X12_together 0 [some (.ref 150), some (.int x0), some (.int x1), none, none, none, none, none, none, none, none] [] u0 0 0 (fn_X12_together m x0 x1 u0) := by
  refine xs_top ?_
  rw [fn_X12_together]
  refine xs_iload_n (n := 1) dX12_together_0 rfl rfl ?_
  refine xs_aload_n (n := 2) dX12_together_1 rfl rfl ?_
  refine ys_getr (n := 5) dX12_together_2 rfl fl_X12_116 sh_150 rfl ?_
  refine ys_callsv (n := 8) (N := mt_X12_spread) dX12_together_5 rfl ok_X12_spread tw_1309 st_X12_spread ⟨Nat.le_of_ble_eq_true rfl, Nat.le_of_ble_eq_true rfl⟩ [.int x0, .ref 179] [] rfl rfl (Nat.le_of_ble_eq_true rfl) rfl (Nat.le_of_ble_eq_true rfl) (en_X12_spread m x0 179 sh_179 u0) (fun q1 => ?_)
  refine xs_iload_n (n := 9) dX12_together_8 rfl rfl ?_
  refine xs_aload_n (n := 10) dX12_together_9 rfl rfl ?_
  refine ys_getr (n := 13) dX12_together_10 rfl fl_X12_119 sh_150 rfl ?_
  refine ys_callsv (n := 16) (N := mt_X12_spread) dX12_together_13 rfl ok_X12_spread tw_1309 st_X12_spread ⟨Nat.le_of_ble_eq_true rfl, Nat.le_of_ble_eq_true rfl⟩ [.int x1, .ref 180] [] rfl rfl (Nat.le_of_ble_eq_true rfl) rfl (Nat.le_of_ble_eq_true rfl) (en_X12_spread m x1 180 sh_180 q1.2) (fun q2 => ?_)
  refine xs_iconst (n := 17) (v := (0 : Int32)) dX12_together_16 rfl rfl ?_
  refine xs_istore_n (n := 18) (lv' := [some (.ref 150), some (.int x0), some (.int x1), some (.int (0 : Int32)), none, none, none, none, none, none, none]) dX12_together_17 rfl (Nat.le_of_ble_eq_true rfl) rfl ?_
  refine xs_iconst (n := 19) (v := (0 : Int32)) dX12_together_18 rfl rfl ?_
  refine xs_istore (n := 21) (lv' := [some (.ref 150), some (.int x0), some (.int x1), some (.int (0 : Int32)), some (.int (0 : Int32)), none, none, none, none, none, none]) dX12_together_19 rfl (Nat.le_of_ble_eq_true rfl) rfl ?_
  refine xs_reg ?_
  refine xs_fg (lv' := [some (.ref 150), none, none, some (.int (0 : Int32)), some (.int (0 : Int32)), none, none, none, none, none, none]) (And.intro rfl (And.intro rfl (And.intro rfl trivial))) ?_
  refine el_X12_together_21 m q2.2 _ (fun q23 => ?_) m (0 : Int32) (0 : Int32)
  refine xs_iload_n (n := 151) dX12_together_150 rfl rfl ?_
  exact xs_iret dX12_together_151 rfl rfl
def lp_X12_make_3 (m : Nat) (c1 : Int32) (c2 : Int32) (c3 : Int32) (u0 : xm_Y) : Nat → Int32 → Option ((Int32 × xm_Y) ⊕ (Int32))
  | 0, _ => none
  | n + 1, l4 =>
  if (u0.1 150 40) ≤ l4 then (
  some (.inr (l4))) else (
  xm_chk (xm_in l4 1001) (
  if (u0.1 176 (Int32.toNatClampNeg l4)) = c1 then (
  xm_chk (xm_in l4 1001) (
  if (u0.1 177 (Int32.toNatClampNeg l4)) = c2 then (
  xm_chk (xm_in l4 1001) (
  if (u0.1 178 (Int32.toNatClampNeg l4)) = c3 then (
  some (.inl ((1 : Int32), u0))) else (
  xm_let (α := Int32) (l4 + (1 : Int32)) fun v5 =>
  lp_X12_make_3 m c1 c2 c3 u0 n v5))) else (
  xm_let (α := Int32) (l4 + (1 : Int32)) fun v6 =>
  lp_X12_make_3 m c1 c2 c3 u0 n v6))) else (
  xm_let (α := Int32) (l4 + (1 : Int32)) fun v7 =>
  lp_X12_make_3 m c1 c2 c3 u0 n v7)))
def fn_X12_make (m : Nat) (x0 : Int32) (x1 : Int32) (x2 : Int32) (u0 : xm_Y) : Option (Int32 × xm_Y) :=
  ((lp_X12_make_3 m x0 x1 x2 u0 m (0 : Int32)).bind (Sum.elim (fun r => some r) (fun q8 =>
  if (u0.1 150 40) = (1000 : Int32) then (
  some ((0 : Int32), u0)) else (
  xm_chk (xm_in (u0.1 150 40) 1001) (xm_let (w_I u0 176 (Int32.toNatClampNeg (u0.1 150 40)) x0) fun u10 =>
  xm_chk (xm_in (u10.1 150 40) 1001) (xm_let (w_I u10 177 (Int32.toNatClampNeg (u10.1 150 40)) x1) fun u11 =>
  xm_chk (xm_in (u11.1 150 40) 1001) (xm_let (w_I u11 178 (Int32.toNatClampNeg (u11.1 150 40)) x2) fun u12 =>
  xm_let (w_I u12 150 40 ((u12.1 150 40) + (1 : Int32))) fun u13 =>
  some ((1 : Int32), u13))))))))
theorem el_X12_make_3 (m : Nat) (c1 : Int32) (c2 : Int32) (c3 : Int32) (u0 : xm_Y) (K : (Int32 × xm_Y) ⊕ (Int32) → Option (Int32 × xm_Y)) (hK : ∀ r, K (.inl r) = some r) (kE : ∀ q : Int32, xs_ (fun x : Int32 => some (.int x)) sg_0 mt_X12_make 53 [some (.ref 150), some (.int c1), some (.int c2), some (.int c3), none] [] u0 0 0 (K (.inr q))) : ∀ (n : Nat) (l4 : Int32), xs_ (fun x : Int32 => some (.int x)) sg_0 mt_X12_make 3 [some (.ref 150), some (.int c1), some (.int c2), some (.int c3), some (.int l4)] [] u0 0 0 ((lp_X12_make_3 m c1 c2 c3 u0 n l4).bind K) := by
  intro n
  induction n with
  | zero =>
    intro l4
    exact xs_none
  | succ n ih =>
    intro l4
    rw [lp_X12_make_3]
    refine xs_iload (n := 5) dX12_make_3 rfl rfl ?_
    refine xs_aload_n (n := 6) dX12_make_5 rfl rfl ?_
    refine ys_geti (n := 9) dX12_make_6 rfl fl_X12_104 (Or.inl rfl) sh_150 ?_
    refine xs_icmp_ge (n := 12) (tgt := 53) dX12_make_9 rfl rfl (fun hc1 => ?_) (fun hc1 => ?_)
    · exact xs_gf (xs_end (kE (l4))) (And.intro rfl (And.intro rfl (And.intro rfl (And.intro rfl trivial))))
    · refine xs_aload_n (n := 13) dX12_make_12 rfl rfl ?_
      refine ys_getr (n := 16) dX12_make_13 rfl fl_X12_95 sh_150 rfl ?_
      refine xs_iload (n := 18) dX12_make_16 rfl rfl ?_
      refine ys_iaload (n := 19) dX12_make_18 rfl sh_176 ?_
      refine xs_iload_n (n := 20) dX12_make_19 rfl rfl ?_
      refine xs_icmp_ne (n := 23) (tgt := 47) dX12_make_20 rfl rfl (fun hc2 => ?_) (fun hc2 => ?_)
      · refine xs_aload_n (n := 24) dX12_make_23 rfl rfl ?_
        refine ys_getr (n := 27) dX12_make_24 rfl fl_X12_98 sh_150 rfl ?_
        refine xs_iload (n := 29) dX12_make_27 rfl rfl ?_
        refine ys_iaload (n := 30) dX12_make_29 rfl sh_177 ?_
        refine xs_iload_n (n := 31) dX12_make_30 rfl rfl ?_
        refine xs_icmp_ne (n := 34) (tgt := 47) dX12_make_31 rfl rfl (fun hc3 => ?_) (fun hc3 => ?_)
        · refine xs_aload_n (n := 35) dX12_make_34 rfl rfl ?_
          refine ys_getr (n := 38) dX12_make_35 rfl fl_X12_101 sh_150 rfl ?_
          refine xs_iload (n := 40) dX12_make_38 rfl rfl ?_
          refine ys_iaload (n := 41) dX12_make_40 rfl sh_178 ?_
          refine xs_iload_n (n := 42) dX12_make_41 rfl rfl ?_
          refine xs_icmp_ne (n := 45) (tgt := 47) dX12_make_42 rfl rfl (fun hc4 => ?_) (fun hc4 => ?_)
          · refine xs_iconst (n := 46) (v := (1 : Int32)) dX12_make_45 rfl rfl ?_
            exact xs_zretc dX12_make_46 rfl (Or.inr rfl) (hK _)
          · refine xs_iincl (n := 50) (dv := (1 : Int32)) (fun v5 => [some (.ref 150), some (.int c1), some (.int c2), some (.int c3), some (.int v5)]) dX12_make_47 rfl rfl rfl (Nat.le_of_ble_eq_true rfl) (fun _ => rfl) (fun v5 => ?_)
            refine xs_goto (n := 3) dX12_make_50 rfl ?_
            exact xs_gf (ih v5) (And.intro rfl (And.intro rfl (And.intro rfl (And.intro rfl (And.intro rfl trivial)))))
        · refine xs_iincl (n := 50) (dv := (1 : Int32)) (fun v6 => [some (.ref 150), some (.int c1), some (.int c2), some (.int c3), some (.int v6)]) dX12_make_47 rfl rfl rfl (Nat.le_of_ble_eq_true rfl) (fun _ => rfl) (fun v6 => ?_)
          refine xs_goto (n := 3) dX12_make_50 rfl ?_
          exact xs_gf (ih v6) (And.intro rfl (And.intro rfl (And.intro rfl (And.intro rfl (And.intro rfl trivial)))))
      · refine xs_iincl (n := 50) (dv := (1 : Int32)) (fun v7 => [some (.ref 150), some (.int c1), some (.int c2), some (.int c3), some (.int v7)]) dX12_make_47 rfl rfl rfl (Nat.le_of_ble_eq_true rfl) (fun _ => rfl) (fun v7 => ?_)
        refine xs_goto (n := 3) dX12_make_50 rfl ?_
        exact xs_gf (ih v7) (And.intro rfl (And.intro rfl (And.intro rfl (And.intro rfl (And.intro rfl trivial)))))
theorem en_X12_make (m : Nat) (x0 : Int32) (x1 : Int32) (x2 : Int32) (u0 : xm_Y) : xs_ (fun x : Int32 => some (.int x)) sg_0 mt_X12_make 0 [some (.ref 150), some (.int x0), some (.int x1), some (.int x2), none] [] u0 0 0 (fn_X12_make m x0 x1 x2 u0) := by
  refine xs_top ?_
  rw [fn_X12_make]
  refine xs_iconst (n := 1) (v := (0 : Int32)) dX12_make_0 rfl rfl ?_
  refine xs_istore (n := 3) (lv' := [some (.ref 150), some (.int x0), some (.int x1), some (.int x2), some (.int (0 : Int32))]) dX12_make_1 rfl (Nat.le_of_ble_eq_true rfl) rfl ?_
  refine xs_reg ?_
  refine xs_fg (lv' := [some (.ref 150), some (.int x0), some (.int x1), some (.int x2), some (.int (0 : Int32))]) (And.intro rfl (And.intro rfl (And.intro rfl (And.intro rfl (And.intro rfl trivial))))) ?_
  refine el_X12_make_3 m x0 x1 x2 u0 _ (fun _ => rfl) (fun q8 => ?_) m (0 : Int32)
  refine xs_inr ?_
  refine xs_aload_n (n := 54) dX12_make_53 rfl rfl ?_
  refine ys_geti (n := 57) dX12_make_54 rfl fl_X12_104 (Or.inl rfl) sh_150 ?_
  refine xs_sipush (n := 60) (v := (1000 : Int32)) dX12_make_57 rfl rfl ?_
  refine xs_icmp_ne (n := 63) (tgt := 65) dX12_make_60 rfl rfl (fun hc9 => ?_) (fun hc9 => ?_)
  · refine xs_iconst (n := 64) (v := (0 : Int32)) dX12_make_63 rfl rfl ?_
    exact xs_zretc dX12_make_64 rfl (Or.inl rfl) rfl
  · refine xs_aload_n (n := 66) dX12_make_65 rfl rfl ?_
    refine ys_getr (n := 69) dX12_make_66 rfl fl_X12_95 sh_150 rfl ?_
    refine xs_aload_n (n := 70) dX12_make_69 rfl rfl ?_
    refine ys_geti (n := 73) dX12_make_70 rfl fl_X12_104 (Or.inl rfl) sh_150 ?_
    refine xs_iload_n (n := 74) dX12_make_73 rfl rfl ?_
    refine ys_iastore (n := 75) dX12_make_74 rfl sh_176 (fun u10 => ?_)
    refine xs_aload_n (n := 76) dX12_make_75 rfl rfl ?_
    refine ys_getr (n := 79) dX12_make_76 rfl fl_X12_98 sh_150 rfl ?_
    refine xs_aload_n (n := 80) dX12_make_79 rfl rfl ?_
    refine ys_geti (n := 83) dX12_make_80 rfl fl_X12_104 (Or.inl rfl) sh_150 ?_
    refine xs_iload_n (n := 84) dX12_make_83 rfl rfl ?_
    refine ys_iastore (n := 85) dX12_make_84 rfl sh_177 (fun u11 => ?_)
    refine xs_aload_n (n := 86) dX12_make_85 rfl rfl ?_
    refine ys_getr (n := 89) dX12_make_86 rfl fl_X12_101 sh_150 rfl ?_
    refine xs_aload_n (n := 90) dX12_make_89 rfl rfl ?_
    refine ys_geti (n := 93) dX12_make_90 rfl fl_X12_104 (Or.inl rfl) sh_150 ?_
    refine xs_iload_n (n := 94) dX12_make_93 rfl rfl ?_
    refine ys_iastore (n := 95) dX12_make_94 rfl sh_178 (fun u12 => ?_)
    refine xs_aload_n (n := 96) dX12_make_95 rfl rfl ?_
    refine xs_dup (n := 97) dX12_make_96 rfl rfl ?_
    refine ys_geti (n := 100) dX12_make_97 rfl fl_X12_104 (Or.inl rfl) sh_150 ?_
    refine xs_iconst (n := 101) (v := (1 : Int32)) dX12_make_100 rfl rfl ?_
    refine xs_iadd (n := 102) dX12_make_101 rfl ?_
    refine ys_puti (n := 105) dX12_make_102 rfl fl_X12_104 rfl sh_150 (fun u13 => ?_)
    refine xs_iconst (n := 106) (v := (1 : Int32)) dX12_make_105 rfl rfl ?_
    exact xs_zretc dX12_make_106 rfl (Or.inr rfl) rfl
def lp_X12_makeAll_9 (m : Nat) : Nat → Int32 → Int32 → xm_Y → Option (Int32 × Int32 × xm_Y)
  | 0, _, _, _ => none
  | n + 1, l1, l2, u0 =>
  if (u0.1 150 36) ≤ l2 then (
  some (l1, l2, u0)) else (
  if l1 = 0 then (
  some (l1, l2, u0)) else (
  xm_chk (xm_in l2 40) (
  xm_chk (xm_in l2 40) (
  xm_chk (xm_in l2 40) (
  ((fn_X12_make m (u0.1 173 (Int32.toNatClampNeg l2)) (u0.1 174 (Int32.toNatClampNeg l2)) (u0.1 175 (Int32.toNatClampNeg l2)) u0).bind fun q4 =>
  xm_let (α := Int32) (l2 + (1 : Int32)) fun v5 =>
  lp_X12_makeAll_9 m n q4.1 v5 q4.2))))))
def lp_X12_makeAll_66 (m : Nat) (c2 : Int32) : Nat → Int32 → Int32 → xm_Y → Option (Int32 × Int32 × xm_Y)
  | 0, _, _, _ => none
  | n + 1, l1, l3, u0 =>
  if (u0.1 150 36) ≤ l3 then (
  some (l1, l3, u0)) else (
  if l1 = 0 then (
  some (l1, l3, u0)) else (
  xm_chk (xm_in c2 1001) (
  xm_chk (xm_in l3 40) (
  ((if (u0.1 177 (Int32.toNatClampNeg c2)) = (u0.1 173 (Int32.toNatClampNeg l3)) then (
  xm_chk (xm_in c2 1001) (
  xm_chk (xm_in l3 40) (
  xm_chk (xm_in c2 1001) (
  xm_chk (xm_in l3 40) (
  ((fn_X12_together m (u0.1 178 (Int32.toNatClampNeg c2)) (u0.1 175 (Int32.toNatClampNeg l3)) u0).bind fun q14 =>
  ((fn_X12_make m (u0.1 176 (Int32.toNatClampNeg c2)) (u0.1 174 (Int32.toNatClampNeg l3)) q14.1 q14.2).bind fun q15 =>
  some (q15.1, q15.2)))))))) else (
  some (l1, u0)) : Option (Int32 × xm_Y)).bind fun q11 =>
  xm_let (α := Int32) (l3 + (1 : Int32)) fun v16 =>
  lp_X12_makeAll_66 m c2 n q11.1 v16 q11.2)))))
def lp_X12_makeAll_52 (m : Nat) : Nat → Int32 → Int32 → xm_Y → Option (Int32 × Int32 × xm_Y)
  | 0, _, _, _ => none
  | n + 1, l1, l2, u0 =>
  if (u0.1 150 40) ≤ l2 then (
  some (l1, l2, u0)) else (
  if l1 = 0 then (
  some (l1, l2, u0)) else (
  ((lp_X12_makeAll_66 m l2 m l1 (0 : Int32) u0).bind fun q17 =>
  xm_let (α := Int32) (l2 + (1 : Int32)) fun v18 =>
  lp_X12_makeAll_52 m n q17.1 v18 q17.2.2)))
def fn_X12_makeAll (m : Nat) (u0 : xm_Y) : Option (Int32 × xm_Y) :=
  xm_let (w_I u0 150 40 (0 : Int32)) fun u1 =>
  ((lp_X12_makeAll_9 m m (1 : Int32) (0 : Int32) u1).bind fun q6 =>
  ((lp_X12_makeAll_52 m m q6.1 (0 : Int32) q6.2.2).bind fun q19 =>
  xm_chk (q19.1 = 0 ∨ q19.1 = 1) (some (q19.1, q19.2.2))))
theorem el_X12_makeAll_9 (m : Nat) (K : Int32 × Int32 × xm_Y → Option (Int32 × xm_Y)) (kE : ∀ q : Int32 × Int32 × xm_Y, xs_ (fun x : Int32 => some (.int x)) sg_0 mt_X12_makeAll 50 [some (.ref 150), some (.int q.1), none, none] [] q.2.2 0 0 (K q)) : ∀ (n : Nat) (l1 : Int32) (l2 : Int32) (u0 : xm_Y), xs_ (fun x : Int32 => some (.int x)) sg_0 mt_X12_makeAll 9 [some (.ref 150), some (.int l1), some (.int l2), none] [] u0 0 0 ((lp_X12_makeAll_9 m n l1 l2 u0).bind K) := by
  intro n
  induction n with
  | zero =>
    intro l1 l2 u0
    exact xs_none
  | succ n ih =>
    intro l1 l2 u0
    rw [lp_X12_makeAll_9]
    refine xs_iload_n (n := 10) dX12_makeAll_9 rfl rfl ?_
    refine xs_aload_n (n := 11) dX12_makeAll_10 rfl rfl ?_
    refine ys_geti (n := 14) dX12_makeAll_11 rfl fl_X12_348 (Or.inl rfl) sh_150 ?_
    refine xs_icmp_ge (n := 17) (tgt := 50) dX12_makeAll_14 rfl rfl (fun hc2 => ?_) (fun hc2 => ?_)
    · exact xs_gf (xs_end (kE (l1, l2, u0))) (And.intro rfl (And.intro rfl trivial))
    · refine xs_iload_n (n := 18) dX12_makeAll_17 rfl rfl ?_
      refine xs_if_eq (n := 21) (tgt := 50) dX12_makeAll_18 rfl rfl (fun hc3 => ?_) (fun hc3 => ?_)
      · exact xs_gf (xs_end (kE (l1, l2, u0))) (And.intro rfl (And.intro rfl trivial))
      · refine xs_aload_n (n := 22) dX12_makeAll_21 rfl rfl ?_
        refine xs_aload_n (n := 23) dX12_makeAll_22 rfl rfl ?_
        refine ys_getr (n := 26) dX12_makeAll_23 rfl fl_X12_86 sh_150 rfl ?_
        refine xs_iload_n (n := 27) dX12_makeAll_26 rfl rfl ?_
        refine ys_iaload (n := 28) dX12_makeAll_27 rfl sh_173 ?_
        refine xs_aload_n (n := 29) dX12_makeAll_28 rfl rfl ?_
        refine ys_getr (n := 32) dX12_makeAll_29 rfl fl_X12_89 sh_150 rfl ?_
        refine xs_iload_n (n := 33) dX12_makeAll_32 rfl rfl ?_
        refine ys_iaload (n := 34) dX12_makeAll_33 rfl sh_174 ?_
        refine xs_aload_n (n := 35) dX12_makeAll_34 rfl rfl ?_
        refine ys_getr (n := 38) dX12_makeAll_35 rfl fl_X12_92 sh_150 rfl ?_
        refine xs_iload_n (n := 39) dX12_makeAll_38 rfl rfl ?_
        refine ys_iaload (n := 40) dX12_makeAll_39 rfl sh_175 ?_
        refine ys_callvi (n := 43) (N := mt_X12_make) dX12_makeAll_40 rfl ok_X12_make tw_1301 im_X12_make se_X12_make ⟨Nat.le_of_ble_eq_true rfl, Nat.le_of_ble_eq_true rfl⟩ [.int (u0.1 173 (Int32.toNatClampNeg l2)), .int (u0.1 174 (Int32.toNatClampNeg l2)), .int (u0.1 175 (Int32.toNatClampNeg l2))] [] rfl rfl (Nat.le_of_ble_eq_true rfl) rfl (Nat.le_of_ble_eq_true rfl) (en_X12_make m (u0.1 173 (Int32.toNatClampNeg l2)) (u0.1 174 (Int32.toNatClampNeg l2)) (u0.1 175 (Int32.toNatClampNeg l2)) u0) sh_150 (by decide) rfl (fun q4 => ?_)
        refine xs_istore_n (n := 44) (lv' := [some (.ref 150), some (.int q4.1), some (.int l2), none]) dX12_makeAll_43 rfl (Nat.le_of_ble_eq_true rfl) rfl ?_
        refine xs_iincl (n := 47) (dv := (1 : Int32)) (fun v5 => [some (.ref 150), some (.int q4.1), some (.int v5), none]) dX12_makeAll_44 rfl rfl rfl (Nat.le_of_ble_eq_true rfl) (fun _ => rfl) (fun v5 => ?_)
        refine xs_goto (n := 9) dX12_makeAll_47 rfl ?_
        exact xs_gf (ih q4.1 v5 q4.2) (And.intro rfl (And.intro rfl (And.intro rfl trivial)))
theorem el_X12_makeAll_66 (m : Nat) (c2 : Int32) (K : Int32 × Int32 × xm_Y → Option (Int32 × xm_Y)) (kE : ∀ q : Int32 × Int32 × xm_Y, xs_ (fun x : Int32 => some (.int x)) sg_0 mt_X12_makeAll 132 [some (.ref 150), some (.int q.1), some (.int c2), none] [] q.2.2 0 0 (K q)) : ∀ (n : Nat) (l1 : Int32) (l3 : Int32) (u0 : xm_Y), xs_ (fun x : Int32 => some (.int x)) sg_0 mt_X12_makeAll 66 [some (.ref 150), some (.int l1), some (.int c2), some (.int l3)] [] u0 0 0 ((lp_X12_makeAll_66 m c2 n l1 l3 u0).bind K) := by
  intro n
  induction n with
  | zero =>
    intro l1 l3 u0
    exact xs_none
  | succ n ih =>
    intro l1 l3 u0
    rw [lp_X12_makeAll_66]
    refine xs_iload_n (n := 67) dX12_makeAll_66 rfl rfl ?_
    refine xs_aload_n (n := 68) dX12_makeAll_67 rfl rfl ?_
    refine ys_geti (n := 71) dX12_makeAll_68 rfl fl_X12_348 (Or.inl rfl) sh_150 ?_
    refine xs_icmp_ge (n := 74) (tgt := 132) dX12_makeAll_71 rfl rfl (fun hc9 => ?_) (fun hc9 => ?_)
    · exact xs_gf (xs_end (kE (l1, l3, u0))) (And.intro rfl (And.intro rfl (And.intro rfl trivial)))
    · refine xs_iload_n (n := 75) dX12_makeAll_74 rfl rfl ?_
      refine xs_if_eq (n := 78) (tgt := 132) dX12_makeAll_75 rfl rfl (fun hc10 => ?_) (fun hc10 => ?_)
      · exact xs_gf (xs_end (kE (l1, l3, u0))) (And.intro rfl (And.intro rfl (And.intro rfl trivial)))
      · refine xs_aload_n (n := 79) dX12_makeAll_78 rfl rfl ?_
        refine ys_getr (n := 82) dX12_makeAll_79 rfl fl_X12_98 sh_150 rfl ?_
        refine xs_iload_n (n := 83) dX12_makeAll_82 rfl rfl ?_
        refine ys_iaload (n := 84) dX12_makeAll_83 rfl sh_177 ?_
        refine xs_aload_n (n := 85) dX12_makeAll_84 rfl rfl ?_
        refine ys_getr (n := 88) dX12_makeAll_85 rfl fl_X12_86 sh_150 rfl ?_
        refine xs_iload_n (n := 89) dX12_makeAll_88 rfl rfl ?_
        refine ys_iaload (n := 90) dX12_makeAll_89 rfl sh_173 ?_
        refine xs_join 126 (fun q11 => [some (.ref 150), some (.int q11.1), some (.int c2), some (.int l3)]) (fun q11 => []) (fun q11 => q11.2) (fun q11 => ?_) (fun kj12 => ?_)
        · refine xs_iincl (n := 129) (dv := (1 : Int32)) (fun v16 => [some (.ref 150), some (.int q11.1), some (.int c2), some (.int v16)]) dX12_makeAll_126 rfl rfl rfl (Nat.le_of_ble_eq_true rfl) (fun _ => rfl) (fun v16 => ?_)
          refine xs_goto (n := 66) dX12_makeAll_129 rfl ?_
          exact xs_gf (ih q11.1 v16 q11.2) (And.intro rfl (And.intro rfl (And.intro rfl (And.intro rfl trivial))))
        · refine xs_icmp_ne (n := 93) (tgt := 126) dX12_makeAll_90 rfl rfl (fun hc13 => ?_) (fun hc13 => ?_)
          · refine xs_aload_n (n := 94) dX12_makeAll_93 rfl rfl ?_
            refine xs_aload_n (n := 95) dX12_makeAll_94 rfl rfl ?_
            refine ys_getr (n := 98) dX12_makeAll_95 rfl fl_X12_95 sh_150 rfl ?_
            refine xs_iload_n (n := 99) dX12_makeAll_98 rfl rfl ?_
            refine ys_iaload (n := 100) dX12_makeAll_99 rfl sh_176 ?_
            refine xs_aload_n (n := 101) dX12_makeAll_100 rfl rfl ?_
            refine ys_getr (n := 104) dX12_makeAll_101 rfl fl_X12_89 sh_150 rfl ?_
            refine xs_iload_n (n := 105) dX12_makeAll_104 rfl rfl ?_
            refine ys_iaload (n := 106) dX12_makeAll_105 rfl sh_174 ?_
            refine xs_aload_n (n := 107) dX12_makeAll_106 rfl rfl ?_
            refine xs_aload_n (n := 108) dX12_makeAll_107 rfl rfl ?_
            refine ys_getr (n := 111) dX12_makeAll_108 rfl fl_X12_101 sh_150 rfl ?_
            refine xs_iload_n (n := 112) dX12_makeAll_111 rfl rfl ?_
            refine ys_iaload (n := 113) dX12_makeAll_112 rfl sh_178 ?_
            refine xs_aload_n (n := 114) dX12_makeAll_113 rfl rfl ?_
            refine ys_getr (n := 117) dX12_makeAll_114 rfl fl_X12_92 sh_150 rfl ?_
            refine xs_iload_n (n := 118) dX12_makeAll_117 rfl rfl ?_
            refine ys_iaload (n := 119) dX12_makeAll_118 rfl sh_175 ?_
            refine ys_callvi (n := 122) (N := mt_X12_together) dX12_makeAll_119 rfl ok_X12_together tw_1305 im_X12_together se_X12_together ⟨Nat.le_of_ble_eq_true rfl, Nat.le_of_ble_eq_true rfl⟩ [.int (u0.1 178 (Int32.toNatClampNeg c2)), .int (u0.1 175 (Int32.toNatClampNeg l3))] [.int (u0.1 174 (Int32.toNatClampNeg l3)), .int (u0.1 176 (Int32.toNatClampNeg c2)), .ref 150] rfl rfl (Nat.le_of_ble_eq_true rfl) rfl (Nat.le_of_ble_eq_true rfl) (en_X12_together m (u0.1 178 (Int32.toNatClampNeg c2)) (u0.1 175 (Int32.toNatClampNeg l3)) u0) sh_150 (by decide) rfl (fun q14 => ?_)
            refine ys_callvi (n := 125) (N := mt_X12_make) dX12_makeAll_122 rfl ok_X12_make tw_1301 im_X12_make se_X12_make ⟨Nat.le_of_ble_eq_true rfl, Nat.le_of_ble_eq_true rfl⟩ [.int (u0.1 176 (Int32.toNatClampNeg c2)), .int (u0.1 174 (Int32.toNatClampNeg l3)), .int q14.1] [] rfl rfl (Nat.le_of_ble_eq_true rfl) rfl (Nat.le_of_ble_eq_true rfl) (en_X12_make m (u0.1 176 (Int32.toNatClampNeg c2)) (u0.1 174 (Int32.toNatClampNeg l3)) q14.1 q14.2) sh_150 (by decide) rfl (fun q15 => ?_)
            refine xs_istore_n (n := 126) (lv' := [some (.ref 150), some (.int q15.1), some (.int c2), some (.int l3)]) dX12_makeAll_125 rfl (Nat.le_of_ble_eq_true rfl) rfl ?_
            exact xs_gf (xs_end (kj12 (q15.1, q15.2))) (And.intro rfl (And.intro rfl (And.intro rfl (And.intro rfl trivial))))
          · exact xs_gf (xs_end (kj12 (l1, u0))) (And.intro rfl (And.intro rfl (And.intro rfl (And.intro rfl trivial))))
theorem el_X12_makeAll_52 (m : Nat) (K : Int32 × Int32 × xm_Y → Option (Int32 × xm_Y)) (kE : ∀ q : Int32 × Int32 × xm_Y, xs_ (fun x : Int32 => some (.int x)) sg_0 mt_X12_makeAll 138 [none, some (.int q.1), none, none] [] q.2.2 0 0 (K q)) : ∀ (n : Nat) (l1 : Int32) (l2 : Int32) (u0 : xm_Y), xs_ (fun x : Int32 => some (.int x)) sg_0 mt_X12_makeAll 52 [some (.ref 150), some (.int l1), some (.int l2), none] [] u0 0 0 ((lp_X12_makeAll_52 m n l1 l2 u0).bind K) := by
  intro n
  induction n with
  | zero =>
    intro l1 l2 u0
    exact xs_none
  | succ n ih =>
    intro l1 l2 u0
    rw [lp_X12_makeAll_52]
    refine xs_iload_n (n := 53) dX12_makeAll_52 rfl rfl ?_
    refine xs_aload_n (n := 54) dX12_makeAll_53 rfl rfl ?_
    refine ys_geti (n := 57) dX12_makeAll_54 rfl fl_X12_104 (Or.inl rfl) sh_150 ?_
    refine xs_icmp_ge (n := 60) (tgt := 138) dX12_makeAll_57 rfl rfl (fun hc7 => ?_) (fun hc7 => ?_)
    · exact xs_gf (xs_end (kE (l1, l2, u0))) (And.intro rfl trivial)
    · refine xs_iload_n (n := 61) dX12_makeAll_60 rfl rfl ?_
      refine xs_if_eq (n := 64) (tgt := 138) dX12_makeAll_61 rfl rfl (fun hc8 => ?_) (fun hc8 => ?_)
      · exact xs_gf (xs_end (kE (l1, l2, u0))) (And.intro rfl trivial)
      · refine xs_iconst (n := 65) (v := (0 : Int32)) dX12_makeAll_64 rfl rfl ?_
        refine xs_istore_n (n := 66) (lv' := [some (.ref 150), some (.int l1), some (.int l2), some (.int (0 : Int32))]) dX12_makeAll_65 rfl (Nat.le_of_ble_eq_true rfl) rfl ?_
        refine xs_reg ?_
        refine xs_fg (lv' := [some (.ref 150), some (.int l1), some (.int l2), some (.int (0 : Int32))]) (And.intro rfl (And.intro rfl (And.intro rfl (And.intro rfl trivial)))) ?_
        refine el_X12_makeAll_66 m l2 _ (fun q17 => ?_) m l1 (0 : Int32) u0
        refine xs_iincl (n := 135) (dv := (1 : Int32)) (fun v18 => [some (.ref 150), some (.int q17.1), some (.int v18), none]) dX12_makeAll_132 rfl rfl rfl (Nat.le_of_ble_eq_true rfl) (fun _ => rfl) (fun v18 => ?_)
        refine xs_goto (n := 52) dX12_makeAll_135 rfl ?_
        exact xs_gf (ih q17.1 v18 q17.2.2) (And.intro rfl (And.intro rfl (And.intro rfl trivial)))
theorem en_X12_makeAll (m : Nat) (u0 : xm_Y) : xs_ (fun x : Int32 => some (.int x)) sg_0 mt_X12_makeAll 0 [some (.ref 150), none, none, none] [] u0 0 0 (fn_X12_makeAll m u0) := by
  refine xs_top ?_
  rw [fn_X12_makeAll]
  refine xs_aload_n (n := 1) dX12_makeAll_0 rfl rfl ?_
  refine xs_iconst (n := 2) (v := (0 : Int32)) dX12_makeAll_1 rfl rfl ?_
  refine ys_puti (n := 5) dX12_makeAll_2 rfl fl_X12_104 rfl sh_150 (fun u1 => ?_)
  refine xs_iconst (n := 6) (v := (1 : Int32)) dX12_makeAll_5 rfl rfl ?_
  refine xs_istore_n (n := 7) (lv' := [some (.ref 150), some (.int (1 : Int32)), none, none]) dX12_makeAll_6 rfl (Nat.le_of_ble_eq_true rfl) rfl ?_
  refine xs_iconst (n := 8) (v := (0 : Int32)) dX12_makeAll_7 rfl rfl ?_
  refine xs_istore_n (n := 9) (lv' := [some (.ref 150), some (.int (1 : Int32)), some (.int (0 : Int32)), none]) dX12_makeAll_8 rfl (Nat.le_of_ble_eq_true rfl) rfl ?_
  refine xs_reg ?_
  refine xs_fg (lv' := [some (.ref 150), some (.int (1 : Int32)), some (.int (0 : Int32)), none]) (And.intro rfl (And.intro rfl (And.intro rfl trivial))) ?_
  refine el_X12_makeAll_9 m _ (fun q6 => ?_) m (1 : Int32) (0 : Int32) u1
  refine xs_iconst (n := 51) (v := (0 : Int32)) dX12_makeAll_50 rfl rfl ?_
  refine xs_istore_n (n := 52) (lv' := [some (.ref 150), some (.int q6.1), some (.int (0 : Int32)), none]) dX12_makeAll_51 rfl (Nat.le_of_ble_eq_true rfl) rfl ?_
  refine xs_reg ?_
  refine xs_fg (lv' := [some (.ref 150), some (.int q6.1), some (.int (0 : Int32)), none]) (And.intro rfl (And.intro rfl (And.intro rfl trivial))) ?_
  refine el_X12_makeAll_52 m _ (fun q19 => ?_) m q6.1 (0 : Int32) q6.2.2
  refine xs_iload_n (n := 139) dX12_makeAll_138 rfl rfl ?_
  exact xs_zret dX12_makeAll_139 rfl rfl
def fn_X12_isAsked (m : Nat) (x0 : Int32) (u0 : xm_Y) : Option (Int32 × xm_Y) :=
  xm_chk (xm_in x0 1001) (
  xm_chk (xm_in x0 1001) (
  if (u0.1 176 (Int32.toNatClampNeg x0)) = (u0.1 177 (Int32.toNatClampNeg x0)) then (
  xm_chk (xm_in x0 1001) (
  xm_chk (xm_in x0 1001) (
  ((fn_X12_together m (u0.1 178 (Int32.toNatClampNeg x0)) (u0.1 178 (Int32.toNatClampNeg x0)) u0).bind fun q2 =>
  xm_chk (xm_in x0 1001) (
  if q2.1 = (q2.2.1 178 (Int32.toNatClampNeg x0)) then (
  xm_chk (xm_in x0 1001) (
  ((fn_X12_spread m (q2.2.1 178 (Int32.toNatClampNeg x0)) 179 q2.2).bind fun q4 =>
  xm_chk (xm_in (0 : Int32) 16) (
  ((if (q4.2.1 179 (Int32.toNatClampNeg (0 : Int32))) = (2 : Int32) then (
  some ((1 : Int32))) else (
  xm_chk (xm_in (5 : Int32) 16) (
  if (q4.2.1 179 (Int32.toNatClampNeg (5 : Int32))) = (2 : Int32) then (
  some ((1 : Int32))) else (
  xm_chk (xm_in (10 : Int32) 16) (
  if (q4.2.1 179 (Int32.toNatClampNeg (10 : Int32))) = (2 : Int32) then (
  some ((1 : Int32))) else (
  xm_chk (xm_in (15 : Int32) 16) (
  if (q4.2.1 179 (Int32.toNatClampNeg (15 : Int32))) = (2 : Int32) then (
  some ((1 : Int32))) else (
  some ((0 : Int32))))))))) : Option (Int32)).bind fun q5 =>
  xm_chk (q5 = 0 ∨ q5 = 1) (some (q5, q4.2))))))) else (
  some ((1 : Int32), q2.2))))))) else (
  some ((1 : Int32), u0))))
theorem en_X12_isAsked (m : Nat) (x0 : Int32) (u0 : xm_Y) : xs_ (fun x : Int32 => some (.int x)) sg_0 mt_X12_isAsked 0 [some (.ref 150), some (.int x0)] [] u0 0 0 (fn_X12_isAsked m x0 u0) := by
  refine xs_top ?_
  rw [fn_X12_isAsked]
  refine xs_aload_n (n := 1) dX12_isAsked_0 rfl rfl ?_
  refine ys_getr (n := 4) dX12_isAsked_1 rfl fl_X12_95 sh_150 rfl ?_
  refine xs_iload_n (n := 5) dX12_isAsked_4 rfl rfl ?_
  refine ys_iaload (n := 6) dX12_isAsked_5 rfl sh_176 ?_
  refine xs_aload_n (n := 7) dX12_isAsked_6 rfl rfl ?_
  refine ys_getr (n := 10) dX12_isAsked_7 rfl fl_X12_98 sh_150 rfl ?_
  refine xs_iload_n (n := 11) dX12_isAsked_10 rfl rfl ?_
  refine ys_iaload (n := 12) dX12_isAsked_11 rfl sh_177 ?_
  refine xs_icmp_ne (n := 15) (tgt := 40) dX12_isAsked_12 rfl rfl (fun hc1 => ?_) (fun hc1 => ?_)
  · refine xs_aload_n (n := 16) dX12_isAsked_15 rfl rfl ?_
    refine xs_aload_n (n := 17) dX12_isAsked_16 rfl rfl ?_
    refine ys_getr (n := 20) dX12_isAsked_17 rfl fl_X12_101 sh_150 rfl ?_
    refine xs_iload_n (n := 21) dX12_isAsked_20 rfl rfl ?_
    refine ys_iaload (n := 22) dX12_isAsked_21 rfl sh_178 ?_
    refine xs_aload_n (n := 23) dX12_isAsked_22 rfl rfl ?_
    refine ys_getr (n := 26) dX12_isAsked_23 rfl fl_X12_101 sh_150 rfl ?_
    refine xs_iload_n (n := 27) dX12_isAsked_26 rfl rfl ?_
    refine ys_iaload (n := 28) dX12_isAsked_27 rfl sh_178 ?_
    refine ys_callvi (n := 31) (N := mt_X12_together) dX12_isAsked_28 rfl ok_X12_together tw_1305 im_X12_together se_X12_together ⟨Nat.le_of_ble_eq_true rfl, Nat.le_of_ble_eq_true rfl⟩ [.int (u0.1 178 (Int32.toNatClampNeg x0)), .int (u0.1 178 (Int32.toNatClampNeg x0))] [] rfl rfl (Nat.le_of_ble_eq_true rfl) rfl (Nat.le_of_ble_eq_true rfl) (en_X12_together m (u0.1 178 (Int32.toNatClampNeg x0)) (u0.1 178 (Int32.toNatClampNeg x0)) u0) sh_150 (by decide) rfl (fun q2 => ?_)
    refine xs_aload_n (n := 32) dX12_isAsked_31 rfl rfl ?_
    refine ys_getr (n := 35) dX12_isAsked_32 rfl fl_X12_101 sh_150 rfl ?_
    refine xs_iload_n (n := 36) dX12_isAsked_35 rfl rfl ?_
    refine ys_iaload (n := 37) dX12_isAsked_36 rfl sh_178 ?_
    refine xs_icmp_eq (n := 40) (tgt := 42) dX12_isAsked_37 rfl rfl (fun hc3 => ?_) (fun hc3 => ?_)
    · refine xs_aload_n (n := 43) dX12_isAsked_42 rfl rfl ?_
      refine ys_getr (n := 46) dX12_isAsked_43 rfl fl_X12_101 sh_150 rfl ?_
      refine xs_iload_n (n := 47) dX12_isAsked_46 rfl rfl ?_
      refine ys_iaload (n := 48) dX12_isAsked_47 rfl sh_178 ?_
      refine xs_aload_n (n := 49) dX12_isAsked_48 rfl rfl ?_
      refine ys_getr (n := 52) dX12_isAsked_49 rfl fl_X12_116 sh_150 rfl ?_
      refine ys_callsv (n := 55) (N := mt_X12_spread) dX12_isAsked_52 rfl ok_X12_spread tw_1309 st_X12_spread ⟨Nat.le_of_ble_eq_true rfl, Nat.le_of_ble_eq_true rfl⟩ [.int (q2.2.1 178 (Int32.toNatClampNeg x0)), .ref 179] [] rfl rfl (Nat.le_of_ble_eq_true rfl) rfl (Nat.le_of_ble_eq_true rfl) (en_X12_spread m (q2.2.1 178 (Int32.toNatClampNeg x0)) 179 sh_179 q2.2) (fun q4 => ?_)
      refine xs_aload_n (n := 56) dX12_isAsked_55 rfl rfl ?_
      refine ys_getr (n := 59) dX12_isAsked_56 rfl fl_X12_116 sh_150 rfl ?_
      refine xs_iconst (n := 60) (v := (0 : Int32)) dX12_isAsked_59 rfl rfl ?_
      refine ys_iaload (n := 61) dX12_isAsked_60 rfl sh_179 ?_
      refine xs_iconst (n := 62) (v := (2 : Int32)) dX12_isAsked_61 rfl rfl ?_
      refine xs_join 102 (fun q5 => [none, none]) (fun q5 => [.int q5]) (fun q5 => q4.2) (fun q5 => ?_) (fun kj6 => ?_)
      · exact xs_zret dX12_isAsked_102 rfl rfl
      · refine xs_icmp_eq (n := 65) (tgt := 97) dX12_isAsked_62 rfl rfl (fun hc7 => ?_) (fun hc7 => ?_)
        · refine xs_iconst (n := 98) (v := (1 : Int32)) dX12_isAsked_97 rfl rfl ?_
          refine xs_goto (n := 102) dX12_isAsked_98 rfl ?_
          exact xs_gf (xs_end (kj6 ((1 : Int32)))) trivial
        · refine xs_aload_n (n := 66) dX12_isAsked_65 rfl rfl ?_
          refine ys_getr (n := 69) dX12_isAsked_66 rfl fl_X12_116 sh_150 rfl ?_
          refine xs_iconst (n := 70) (v := (5 : Int32)) dX12_isAsked_69 rfl rfl ?_
          refine ys_iaload (n := 71) dX12_isAsked_70 rfl sh_179 ?_
          refine xs_iconst (n := 72) (v := (2 : Int32)) dX12_isAsked_71 rfl rfl ?_
          refine xs_icmp_eq (n := 75) (tgt := 97) dX12_isAsked_72 rfl rfl (fun hc8 => ?_) (fun hc8 => ?_)
          · refine xs_iconst (n := 98) (v := (1 : Int32)) dX12_isAsked_97 rfl rfl ?_
            refine xs_goto (n := 102) dX12_isAsked_98 rfl ?_
            exact xs_gf (xs_end (kj6 ((1 : Int32)))) trivial
          · refine xs_aload_n (n := 76) dX12_isAsked_75 rfl rfl ?_
            refine ys_getr (n := 79) dX12_isAsked_76 rfl fl_X12_116 sh_150 rfl ?_
            refine xs_bipush (n := 81) (v := (10 : Int32)) dX12_isAsked_79 rfl rfl ?_
            refine ys_iaload (n := 82) dX12_isAsked_81 rfl sh_179 ?_
            refine xs_iconst (n := 83) (v := (2 : Int32)) dX12_isAsked_82 rfl rfl ?_
            refine xs_icmp_eq (n := 86) (tgt := 97) dX12_isAsked_83 rfl rfl (fun hc9 => ?_) (fun hc9 => ?_)
            · refine xs_iconst (n := 98) (v := (1 : Int32)) dX12_isAsked_97 rfl rfl ?_
              refine xs_goto (n := 102) dX12_isAsked_98 rfl ?_
              exact xs_gf (xs_end (kj6 ((1 : Int32)))) trivial
            · refine xs_aload_n (n := 87) dX12_isAsked_86 rfl rfl ?_
              refine ys_getr (n := 90) dX12_isAsked_87 rfl fl_X12_116 sh_150 rfl ?_
              refine xs_bipush (n := 92) (v := (15 : Int32)) dX12_isAsked_90 rfl rfl ?_
              refine ys_iaload (n := 93) dX12_isAsked_92 rfl sh_179 ?_
              refine xs_iconst (n := 94) (v := (2 : Int32)) dX12_isAsked_93 rfl rfl ?_
              refine xs_icmp_ne (n := 97) (tgt := 101) dX12_isAsked_94 rfl rfl (fun hc10 => ?_) (fun hc10 => ?_)
              · refine xs_iconst (n := 98) (v := (1 : Int32)) dX12_isAsked_97 rfl rfl ?_
                refine xs_goto (n := 102) dX12_isAsked_98 rfl ?_
                exact xs_gf (xs_end (kj6 ((1 : Int32)))) trivial
              · refine xs_iconst (n := 102) (v := (0 : Int32)) dX12_isAsked_101 rfl rfl ?_
                exact xs_gf (xs_end (kj6 ((0 : Int32)))) trivial
    · refine xs_iconst (n := 41) (v := (1 : Int32)) dX12_isAsked_40 rfl rfl ?_
      exact xs_zretc dX12_isAsked_41 rfl (Or.inr rfl) rfl
  · refine xs_iconst (n := 41) (v := (1 : Int32)) dX12_isAsked_40 rfl rfl ?_
    exact xs_zretc dX12_isAsked_41 rfl (Or.inr rfl) rfl
