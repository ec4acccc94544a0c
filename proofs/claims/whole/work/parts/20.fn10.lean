def lp_X12_openAll_2 (m : Nat) : Nat → Int32 → xm_Y → Option (Int32 × xm_Y)
  | 0, _, _ => none
  | n + 1, l1, u0 =>
  if (6 : Int32) ≤ l1 then (
  some (l1, u0)) else (
  xm_chk (xm_in l1 6) (xm_let (w_I u0 156 (Int32.toNatClampNeg l1) (vp_nar .boolean (1 : Int32))) fun u2 =>
  xm_let (α := Int32) (l1 + (1 : Int32)) fun v3 =>
  lp_X12_openAll_2 m n v3 u2))
def fn_X12_openAll (m : Nat) (u0 : xm_Y) : Option (Unit × xm_Y) :=
  ((lp_X12_openAll_2 m m (0 : Int32) u0).bind fun q4 =>
  xm_let (w_I q4.2 150 21 (0 : Int32)) fun u5 =>
  some ((), u5))
theorem el_X12_openAll_2 (m : Nat) (K : Int32 × xm_Y → Option (Unit × xm_Y)) (kE : ∀ q : Int32 × xm_Y, xs_ (fun _ : Unit => none) sg_0 mt_X12_openAll 21 [some (.ref 150), none] [] q.2 0 0 (K q)) : ∀ (n : Nat) (l1 : Int32) (u0 : xm_Y), xs_ (fun _ : Unit => none) sg_0 mt_X12_openAll 2 [some (.ref 150), some (.int l1)] [] u0 0 0 ((lp_X12_openAll_2 m n l1 u0).bind K) := by
  intro n
  induction n with
  | zero =>
    intro l1 u0
    exact xs_none
  | succ n ih =>
    intro l1 u0
    rw [lp_X12_openAll_2]
    refine xs_iload_n (n := 3) dX12_openAll_2 rfl rfl ?_
    refine xs_bipush (n := 5) (v := (6 : Int32)) dX12_openAll_3 rfl rfl ?_
    refine xs_icmp_ge (n := 8) (tgt := 21) dX12_openAll_5 rfl rfl (fun hc1 => ?_) (fun hc1 => ?_)
    · exact xs_gf (xs_end (kE (l1, u0))) (And.intro rfl trivial)
    · refine xs_aload_n (n := 9) dX12_openAll_8 rfl rfl ?_
      refine ys_getr (n := 12) dX12_openAll_9 rfl fl_X12_30 sh_150 rfl ?_
      refine xs_iload_n (n := 13) dX12_openAll_12 rfl rfl ?_
      refine xs_iconst (n := 14) (v := (1 : Int32)) dX12_openAll_13 rfl rfl ?_
      refine ys_bastore (n := 15) dX12_openAll_14 rfl sh_156 (fun u2 => ?_)
      refine xs_iincl (n := 18) (dv := (1 : Int32)) (fun v3 => [some (.ref 150), some (.int v3)]) dX12_openAll_15 rfl rfl rfl (Nat.le_of_ble_eq_true rfl) (fun _ => rfl) (fun v3 => ?_)
      refine xs_goto (n := 2) dX12_openAll_18 rfl ?_
      exact xs_gf (ih v3 u2) (And.intro rfl (And.intro rfl trivial))
theorem en_X12_openAll (m : Nat) (u0 : xm_Y) : xs_ (fun _ : Unit => none) sg_0 mt_X12_openAll 0 [some (.ref 150), none] [] u0 0 0 (fn_X12_openAll m u0) := by
  refine xs_top ?_
  rw [fn_X12_openAll]
  refine xs_iconst (n := 1) (v := (0 : Int32)) dX12_openAll_0 rfl rfl ?_
  refine xs_istore_n (n := 2) (lv' := [some (.ref 150), some (.int (0 : Int32))]) dX12_openAll_1 rfl (Nat.le_of_ble_eq_true rfl) rfl ?_
  refine xs_reg ?_
  refine xs_fg (lv' := [some (.ref 150), some (.int (0 : Int32))]) (And.intro rfl (And.intro rfl trivial)) ?_
  refine el_X12_openAll_2 m _ (fun q4 => ?_) m (0 : Int32) u0
  refine xs_aload_n (n := 22) dX12_openAll_21 rfl rfl ?_
  refine xs_iconst (n := 23) (v := (0 : Int32)) dX12_openAll_22 rfl rfl ?_
  refine ys_putzc (n := 26) dX12_openAll_23 rfl fl_X12_131 rfl sh_150 (Or.inl rfl) (fun u5 => ?_)
  exact xs_vret dX12_openAll_26 rfl rfl
def lp_X12_loop_33 (m : Nat) : Nat → Int32 → xm_Y → Option (Int32 × xm_Y)
  | 0, _, _ => none
  | n + 1, l3, u0 =>
  if (3 : Int32) ≤ l3 then (
  some (l3, u0)) else (
  xm_chk (xm_in l3 3) (xm_let (w_J u0 154 (Int32.toNatClampNeg l3) (0 : Int64)) fun u8 =>
  xm_let (α := Int32) (l3 + (1 : Int32)) fun v9 =>
  lp_X12_loop_33 m n v9 u8))
def lp_X12_loop_53 (m : Nat) : Nat → Int32 → xm_Y → Option (Int32 × xm_Y)
  | 0, _, _ => none
  | n + 1, l3, u0 =>
  if (6 : Int32) ≤ l3 then (
  some (l3, u0)) else (
  xm_chk (xm_in l3 6) (xm_let (w_J u0 157 (Int32.toNatClampNeg l3) (0 : Int64)) fun u12 =>
  xm_chk (xm_in l3 6) (xm_let (w_I u12 158 (Int32.toNatClampNeg l3) (vp_nar .boolean (0 : Int32))) fun u13 =>
  xm_let (α := Int32) (l3 + (1 : Int32)) fun v14 =>
  lp_X12_loop_53 m n v14 u13)))
def lp_X12_loop_91 (m : Nat) : Nat → Int32 → xm_Y → Option (Int32 × xm_Y)
  | 0, _, _ => none
  | n + 1, l3, u0 =>
  if (5 : Int32) ≤ l3 then (
  some (l3, u0)) else (
  xm_chk (xm_in l3 5) (xm_let (w_I u0 163 (Int32.toNatClampNeg l3) (-1 : Int32)) fun u19 =>
  xm_let (α := Int32) (l3 + (1 : Int32)) fun v20 =>
  lp_X12_loop_91 m n v20 u19))
def fn_X12_loop (m : Nat) (x0 : Int32) (u0 : xm_Y) : Option (Int32 × xm_Y) :=
  if x0 < (1 : Int32) then (
  some ((-1 : Int32), u0)) else (
  if x0 ≤ (3 : Int32) then (
  xm_let (α := Int32) ((u0.1 150 0)) fun v3 =>
  xm_let (w_I u0 150 0 x0) fun u4 =>
  xm_let (w_I u4 150 1 (0 : Int32)) fun u5 =>
  ((fn_X12_openAll m u5).bind fun q6 =>
  ((lp_X12_loop_33 m m (0 : Int32) q6.2).bind fun q10 =>
  ((lp_X12_loop_53 m m (0 : Int32) q10.2).bind fun q15 =>
  xm_let (w_I q15.2 150 19 (0 : Int32)) fun u16 =>
  xm_let (w_I u16 150 26 (-1 : Int32)) fun u17 =>
  ((lp_X12_loop_91 m m (0 : Int32) u17).bind fun q21 =>
  some (v3, q21.2)))))) else (
  some ((-1 : Int32), u0)))
theorem el_X12_loop_33 (m : Nat) (c2 : Int32) (K : Int32 × xm_Y → Option (Int32 × xm_Y)) (kE : ∀ q : Int32 × xm_Y, xs_ (fun x : Int32 => some (.int x)) sg_0 mt_X12_loop 51 [some (.ref 150), none, some (.int c2), none] [] q.2 0 0 (K q)) : ∀ (n : Nat) (l3 : Int32) (u0 : xm_Y), xs_ (fun x : Int32 => some (.int x)) sg_0 mt_X12_loop 33 [some (.ref 150), none, some (.int c2), some (.int l3)] [] u0 0 0 ((lp_X12_loop_33 m n l3 u0).bind K) := by
  intro n
  induction n with
  | zero =>
    intro l3 u0
    exact xs_none
  | succ n ih =>
    intro l3 u0
    rw [lp_X12_loop_33]
    refine xs_iload_n (n := 34) dX12_loop_33 rfl rfl ?_
    refine xs_iconst (n := 35) (v := (3 : Int32)) dX12_loop_34 rfl rfl ?_
    refine xs_icmp_ge (n := 38) (tgt := 51) dX12_loop_35 rfl rfl (fun hc7 => ?_) (fun hc7 => ?_)
    · exact xs_gf (xs_end (kE (l3, u0))) (And.intro rfl (And.intro rfl trivial))
    · refine xs_aload_n (n := 39) dX12_loop_38 rfl rfl ?_
      refine ys_getr (n := 42) dX12_loop_39 rfl fl_X12_23 sh_150 rfl ?_
      refine xs_iload_n (n := 43) dX12_loop_42 rfl rfl ?_
      refine xs_lconst (n := 44) (v := (0 : Int64)) dX12_loop_43 rfl rfl ?_
      refine ys_lastore (n := 45) dX12_loop_44 rfl sh_154 (fun u8 => ?_)
      refine xs_iincl (n := 48) (dv := (1 : Int32)) (fun v9 => [some (.ref 150), none, some (.int c2), some (.int v9)]) dX12_loop_45 rfl rfl rfl (Nat.le_of_ble_eq_true rfl) (fun _ => rfl) (fun v9 => ?_)
      refine xs_goto (n := 33) dX12_loop_48 rfl ?_
      exact xs_gf (ih v9 u8) (And.intro rfl (And.intro rfl (And.intro rfl trivial)))
theorem el_X12_loop_53 (m : Nat) (c2 : Int32) (K : Int32 × xm_Y → Option (Int32 × xm_Y)) (kE : ∀ q : Int32 × xm_Y, xs_ (fun x : Int32 => some (.int x)) sg_0 mt_X12_loop 79 [some (.ref 150), none, some (.int c2), none] [] q.2 0 0 (K q)) : ∀ (n : Nat) (l3 : Int32) (u0 : xm_Y), xs_ (fun x : Int32 => some (.int x)) sg_0 mt_X12_loop 53 [some (.ref 150), none, some (.int c2), some (.int l3)] [] u0 0 0 ((lp_X12_loop_53 m n l3 u0).bind K) := by
  intro n
  induction n with
  | zero =>
    intro l3 u0
    exact xs_none
  | succ n ih =>
    intro l3 u0
    rw [lp_X12_loop_53]
    refine xs_iload_n (n := 54) dX12_loop_53 rfl rfl ?_
    refine xs_bipush (n := 56) (v := (6 : Int32)) dX12_loop_54 rfl rfl ?_
    refine xs_icmp_ge (n := 59) (tgt := 79) dX12_loop_56 rfl rfl (fun hc11 => ?_) (fun hc11 => ?_)
    · exact xs_gf (xs_end (kE (l3, u0))) (And.intro rfl (And.intro rfl trivial))
    · refine xs_aload_n (n := 60) dX12_loop_59 rfl rfl ?_
      refine ys_getr (n := 63) dX12_loop_60 rfl fl_X12_34 sh_150 rfl ?_
      refine xs_iload_n (n := 64) dX12_loop_63 rfl rfl ?_
      refine xs_lconst (n := 65) (v := (0 : Int64)) dX12_loop_64 rfl rfl ?_
      refine ys_lastore (n := 66) dX12_loop_65 rfl sh_157 (fun u12 => ?_)
      refine xs_aload_n (n := 67) dX12_loop_66 rfl rfl ?_
      refine ys_getr (n := 70) dX12_loop_67 rfl fl_X12_37 sh_150 rfl ?_
      refine xs_iload_n (n := 71) dX12_loop_70 rfl rfl ?_
      refine xs_iconst (n := 72) (v := (0 : Int32)) dX12_loop_71 rfl rfl ?_
      refine ys_bastore (n := 73) dX12_loop_72 rfl sh_158 (fun u13 => ?_)
      refine xs_iincl (n := 76) (dv := (1 : Int32)) (fun v14 => [some (.ref 150), none, some (.int c2), some (.int v14)]) dX12_loop_73 rfl rfl rfl (Nat.le_of_ble_eq_true rfl) (fun _ => rfl) (fun v14 => ?_)
      refine xs_goto (n := 53) dX12_loop_76 rfl ?_
      exact xs_gf (ih v14 u13) (And.intro rfl (And.intro rfl (And.intro rfl trivial)))
theorem el_X12_loop_91 (m : Nat) (c2 : Int32) (K : Int32 × xm_Y → Option (Int32 × xm_Y)) (kE : ∀ q : Int32 × xm_Y, xs_ (fun x : Int32 => some (.int x)) sg_0 mt_X12_loop 109 [none, none, some (.int c2), none] [] q.2 0 0 (K q)) : ∀ (n : Nat) (l3 : Int32) (u0 : xm_Y), xs_ (fun x : Int32 => some (.int x)) sg_0 mt_X12_loop 91 [some (.ref 150), none, some (.int c2), some (.int l3)] [] u0 0 0 ((lp_X12_loop_91 m n l3 u0).bind K) := by
  intro n
  induction n with
  | zero =>
    intro l3 u0
    exact xs_none
  | succ n ih =>
    intro l3 u0
    rw [lp_X12_loop_91]
    refine xs_iload_n (n := 92) dX12_loop_91 rfl rfl ?_
    refine xs_iconst (n := 93) (v := (5 : Int32)) dX12_loop_92 rfl rfl ?_
    refine xs_icmp_ge (n := 96) (tgt := 109) dX12_loop_93 rfl rfl (fun hc18 => ?_) (fun hc18 => ?_)
    · exact xs_gf (xs_end (kE (l3, u0))) (And.intro rfl trivial)
    · refine xs_aload_n (n := 97) dX12_loop_96 rfl rfl ?_
      refine ys_getr (n := 100) dX12_loop_97 rfl fl_X12_52 sh_150 rfl ?_
      refine xs_iload_n (n := 101) dX12_loop_100 rfl rfl ?_
      refine xs_iconst (n := 102) (v := (-1 : Int32)) dX12_loop_101 rfl rfl ?_
      refine ys_iastore (n := 103) dX12_loop_102 rfl sh_163 (fun u19 => ?_)
      refine xs_iincl (n := 106) (dv := (1 : Int32)) (fun v20 => [some (.ref 150), none, some (.int c2), some (.int v20)]) dX12_loop_103 rfl rfl rfl (Nat.le_of_ble_eq_true rfl) (fun _ => rfl) (fun v20 => ?_)
      refine xs_goto (n := 91) dX12_loop_106 rfl ?_
      exact xs_gf (ih v20 u19) (And.intro rfl (And.intro rfl (And.intro rfl trivial)))
theorem en_X12_loop (m : Nat) (x0 : Int32) (u0 : xm_Y) : xs_ (fun x : Int32 => some (.int x)) sg_0 mt_X12_loop 0 [some (.ref 150), some (.int x0), none, none] [] u0 0 0 (fn_X12_loop m x0 u0) := by
  refine xs_top ?_
  rw [fn_X12_loop]
  refine xs_iload_n (n := 1) dX12_loop_0 rfl rfl ?_
  refine xs_iconst (n := 2) (v := (1 : Int32)) dX12_loop_1 rfl rfl ?_
  refine xs_icmp_lt (n := 5) (tgt := 10) dX12_loop_2 rfl rfl (fun hc1 => ?_) (fun hc1 => ?_)
  · refine xs_iconst (n := 11) (v := (-1 : Int32)) dX12_loop_10 rfl rfl ?_
    exact xs_iret dX12_loop_11 rfl rfl
  · refine xs_iload_n (n := 6) dX12_loop_5 rfl rfl ?_
    refine xs_iconst (n := 7) (v := (3 : Int32)) dX12_loop_6 rfl rfl ?_
    refine xs_icmp_le (n := 10) (tgt := 12) dX12_loop_7 rfl rfl (fun hc2 => ?_) (fun hc2 => ?_)
    · refine xs_aload_n (n := 13) dX12_loop_12 rfl rfl ?_
      refine ys_geti (n := 16) dX12_loop_13 rfl fl_X12_7 (Or.inl rfl) sh_150 ?_
      refine xs_leti (fun v3 => ?_)
      refine xs_istore_n (n := 17) (lv' := [some (.ref 150), some (.int x0), some (.int v3), none]) dX12_loop_16 rfl (Nat.le_of_ble_eq_true rfl) rfl ?_
      refine xs_aload_n (n := 18) dX12_loop_17 rfl rfl ?_
      refine xs_iload_n (n := 19) dX12_loop_18 rfl rfl ?_
      refine ys_puti (n := 22) dX12_loop_19 rfl fl_X12_7 rfl sh_150 (fun u4 => ?_)
      refine xs_aload_n (n := 23) dX12_loop_22 rfl rfl ?_
      refine xs_iconst (n := 24) (v := (0 : Int32)) dX12_loop_23 rfl rfl ?_
      refine ys_puti (n := 27) dX12_loop_24 rfl fl_X12_135 rfl sh_150 (fun u5 => ?_)
      refine xs_aload_n (n := 28) dX12_loop_27 rfl rfl ?_
      refine ys_callvv (n := 31) (N := mt_X12_openAll) dX12_loop_28 rfl ok_X12_openAll tw_863 im_X12_openAll se_X12_openAll ⟨Nat.le_of_ble_eq_true rfl, Nat.le_of_ble_eq_true rfl⟩ [] [] rfl rfl (Nat.le_of_ble_eq_true rfl) rfl (Nat.le_of_ble_eq_true rfl) (en_X12_openAll m u5) sh_150 (by decide) rfl (fun q6 => ?_)
      refine xs_iconst (n := 32) (v := (0 : Int32)) dX12_loop_31 rfl rfl ?_
      refine xs_istore_n (n := 33) (lv' := [some (.ref 150), some (.int x0), some (.int v3), some (.int (0 : Int32))]) dX12_loop_32 rfl (Nat.le_of_ble_eq_true rfl) rfl ?_
      refine xs_reg ?_
      refine xs_fg (lv' := [some (.ref 150), none, some (.int v3), some (.int (0 : Int32))]) (And.intro rfl (And.intro rfl (And.intro rfl trivial))) ?_
      refine el_X12_loop_33 m v3 _ (fun q10 => ?_) m (0 : Int32) q6.2
      refine xs_iconst (n := 52) (v := (0 : Int32)) dX12_loop_51 rfl rfl ?_
      refine xs_istore_n (n := 53) (lv' := [some (.ref 150), none, some (.int v3), some (.int (0 : Int32))]) dX12_loop_52 rfl (Nat.le_of_ble_eq_true rfl) rfl ?_
      refine xs_reg ?_
      refine xs_fg (lv' := [some (.ref 150), none, some (.int v3), some (.int (0 : Int32))]) (And.intro rfl (And.intro rfl (And.intro rfl trivial))) ?_
      refine el_X12_loop_53 m v3 _ (fun q15 => ?_) m (0 : Int32) q10.2
      refine xs_aload_n (n := 80) dX12_loop_79 rfl rfl ?_
      refine xs_iconst (n := 81) (v := (0 : Int32)) dX12_loop_80 rfl rfl ?_
      refine ys_puti (n := 84) dX12_loop_81 rfl fl_X12_138 rfl sh_150 (fun u16 => ?_)
      refine xs_aload_n (n := 85) dX12_loop_84 rfl rfl ?_
      refine xs_iconst (n := 86) (v := (-1 : Int32)) dX12_loop_85 rfl rfl ?_
      refine ys_puti (n := 89) dX12_loop_86 rfl fl_X12_65 rfl sh_150 (fun u17 => ?_)
      refine xs_iconst (n := 90) (v := (0 : Int32)) dX12_loop_89 rfl rfl ?_
      refine xs_istore_n (n := 91) (lv' := [some (.ref 150), none, some (.int v3), some (.int (0 : Int32))]) dX12_loop_90 rfl (Nat.le_of_ble_eq_true rfl) rfl ?_
      refine xs_reg ?_
      refine xs_fg (lv' := [some (.ref 150), none, some (.int v3), some (.int (0 : Int32))]) (And.intro rfl (And.intro rfl (And.intro rfl trivial))) ?_
      refine el_X12_loop_91 m v3 _ (fun q21 => ?_) m (0 : Int32) u17
      refine xs_iload_n (n := 110) dX12_loop_109 rfl rfl ?_
      exact xs_iret dX12_loop_110 rfl rfl
    · refine xs_iconst (n := 11) (v := (-1 : Int32)) dX12_loop_10 rfl rfl ?_
      exact xs_iret dX12_loop_11 rfl rfl
def lp_X12_body_39 (m : Nat) (c1 : Int32) (c2 : Int32) : Nat → Int32 → xm_Y → Option (Int32 × xm_Y)
  | 0, _, _ => none
  | n + 1, l3, u0 =>
  if (4 : Int32) ≤ l3 then (
  some (l3, u0)) else (
  ((if l3 = c2 then (
  some ((1 : Int32))) else (
  some ((0 : Int32))) : Option (Int32)).bind fun q7 =>
  xm_chk (xm_in (((((3 : Int32) * c1) + c2) * (4 : Int32)) + l3) 60) (xm_let (w_I u0 153 (Int32.toNatClampNeg (((((3 : Int32) * c1) + c2) * (4 : Int32)) + l3)) q7) fun u10 =>
  xm_let (α := Int32) (l3 + (1 : Int32)) fun v11 =>
  lp_X12_body_39 m c1 c2 n v11 u10)))
def lp_X12_body_32 (m : Nat) (c1 : Int32) : Nat → Int32 → xm_Y → Option (Int32 × xm_Y)
  | 0, _, _ => none
  | n + 1, l2, u0 =>
  if (3 : Int32) ≤ l2 then (
  some (l2, u0)) else (
  ((lp_X12_body_39 m c1 l2 m (0 : Int32) u0).bind fun q12 =>
  xm_let (α := Int32) (l2 + (1 : Int32)) fun v13 =>
  lp_X12_body_32 m c1 n v13 q12.2))
def fn_X12_body (m : Nat) (u0 : xm_Y) : Option (Int32 × xm_Y) :=
  if (u0.1 150 1) = (5 : Int32) then (
  some ((-2 : Int32), u0)) else (
  xm_let (α := Int32) ((u0.1 150 1)) fun v2 =>
  xm_chk (xm_in v2 5) (xm_let (w_I u0 151 (Int32.toNatClampNeg v2) (0 : Int32)) fun u3 =>
  xm_chk (xm_in v2 5) (xm_let (w_I u3 163 (Int32.toNatClampNeg v2) (-1 : Int32)) fun u4 =>
  ((lp_X12_body_32 m v2 m (0 : Int32) u4).bind fun q14 =>
  xm_let (w_I q14.2 150 1 ((q14.2.1 150 1) + (1 : Int32))) fun u15 =>
  ((fn_X12_openAll m u15).bind fun q16 =>
  some (v2, q16.2))))))
theorem el_X12_body_39 (m : Nat) (c1 : Int32) (c2 : Int32) (K : Int32 × xm_Y → Option (Int32 × xm_Y)) (kE : ∀ q : Int32 × xm_Y, xs_ (fun x : Int32 => some (.int x)) sg_0 mt_X12_body 74 [some (.ref 150), some (.int c1), some (.int c2), none] [] q.2 0 0 (K q)) : ∀ (n : Nat) (l3 : Int32) (u0 : xm_Y), xs_ (fun x : Int32 => some (.int x)) sg_0 mt_X12_body 39 [some (.ref 150), some (.int c1), some (.int c2), some (.int l3)] [] u0 0 0 ((lp_X12_body_39 m c1 c2 n l3 u0).bind K) := by
  intro n
  induction n with
  | zero =>
    intro l3 u0
    exact xs_none
  | succ n ih =>
    intro l3 u0
    rw [lp_X12_body_39]
    refine xs_iload_n (n := 40) dX12_body_39 rfl rfl ?_
    refine xs_iconst (n := 41) (v := (4 : Int32)) dX12_body_40 rfl rfl ?_
    refine xs_icmp_ge (n := 44) (tgt := 74) dX12_body_41 rfl rfl (fun hc6 => ?_) (fun hc6 => ?_)
    · exact xs_gf (xs_end (kE (l3, u0))) (And.intro rfl (And.intro rfl (And.intro rfl trivial)))
    · refine xs_aload_n (n := 45) dX12_body_44 rfl rfl ?_
      refine ys_getr (n := 48) dX12_body_45 rfl fl_X12_20 sh_150 rfl ?_
      refine xs_iconst (n := 49) (v := (3 : Int32)) dX12_body_48 rfl rfl ?_
      refine xs_iload_n (n := 50) dX12_body_49 rfl rfl ?_
      refine xs_imul (n := 51) dX12_body_50 rfl ?_
      refine xs_iload_n (n := 52) dX12_body_51 rfl rfl ?_
      refine xs_iadd (n := 53) dX12_body_52 rfl ?_
      refine xs_iconst (n := 54) (v := (4 : Int32)) dX12_body_53 rfl rfl ?_
      refine xs_imul (n := 55) dX12_body_54 rfl ?_
      refine xs_iload_n (n := 56) dX12_body_55 rfl rfl ?_
      refine xs_iadd (n := 57) dX12_body_56 rfl ?_
      refine xs_iload_n (n := 58) dX12_body_57 rfl rfl ?_
      refine xs_iload_n (n := 59) dX12_body_58 rfl rfl ?_
      refine xs_join 67 (fun q7 => [some (.ref 150), some (.int c1), some (.int c2), some (.int l3)]) (fun q7 => [.int q7, .int (((((3 : Int32) * c1) + c2) * (4 : Int32)) + l3), .ref 153]) (fun q7 => u0) (fun q7 => ?_) (fun kj8 => ?_)
      · refine ys_iastore (n := 68) dX12_body_67 rfl sh_153 (fun u10 => ?_)
        refine xs_iincl (n := 71) (dv := (1 : Int32)) (fun v11 => [some (.ref 150), some (.int c1), some (.int c2), some (.int v11)]) dX12_body_68 rfl rfl rfl (Nat.le_of_ble_eq_true rfl) (fun _ => rfl) (fun v11 => ?_)
        refine xs_goto (n := 39) dX12_body_71 rfl ?_
        exact xs_gf (ih v11 u10) (And.intro rfl (And.intro rfl (And.intro rfl (And.intro rfl trivial))))
      · refine xs_icmp_ne (n := 62) (tgt := 66) dX12_body_59 rfl rfl (fun hc9 => ?_) (fun hc9 => ?_)
        · refine xs_iconst (n := 63) (v := (1 : Int32)) dX12_body_62 rfl rfl ?_
          refine xs_goto (n := 67) dX12_body_63 rfl ?_
          exact xs_gf (xs_end (kj8 ((1 : Int32)))) (And.intro rfl (And.intro rfl (And.intro rfl (And.intro rfl trivial))))
        · refine xs_iconst (n := 67) (v := (0 : Int32)) dX12_body_66 rfl rfl ?_
          exact xs_gf (xs_end (kj8 ((0 : Int32)))) (And.intro rfl (And.intro rfl (And.intro rfl (And.intro rfl trivial))))
theorem el_X12_body_32 (m : Nat) (c1 : Int32) (K : Int32 × xm_Y → Option (Int32 × xm_Y)) (kE : ∀ q : Int32 × xm_Y, xs_ (fun x : Int32 => some (.int x)) sg_0 mt_X12_body 80 [some (.ref 150), some (.int c1), none, none] [] q.2 0 0 (K q)) : ∀ (n : Nat) (l2 : Int32) (u0 : xm_Y), xs_ (fun x : Int32 => some (.int x)) sg_0 mt_X12_body 32 [some (.ref 150), some (.int c1), some (.int l2), none] [] u0 0 0 ((lp_X12_body_32 m c1 n l2 u0).bind K) := by
  intro n
  induction n with
  | zero =>
    intro l2 u0
    exact xs_none
  | succ n ih =>
    intro l2 u0
    rw [lp_X12_body_32]
    refine xs_iload_n (n := 33) dX12_body_32 rfl rfl ?_
    refine xs_iconst (n := 34) (v := (3 : Int32)) dX12_body_33 rfl rfl ?_
    refine xs_icmp_ge (n := 37) (tgt := 80) dX12_body_34 rfl rfl (fun hc5 => ?_) (fun hc5 => ?_)
    · exact xs_gf (xs_end (kE (l2, u0))) (And.intro rfl (And.intro rfl trivial))
    · refine xs_iconst (n := 38) (v := (0 : Int32)) dX12_body_37 rfl rfl ?_
      refine xs_istore_n (n := 39) (lv' := [some (.ref 150), some (.int c1), some (.int l2), some (.int (0 : Int32))]) dX12_body_38 rfl (Nat.le_of_ble_eq_true rfl) rfl ?_
      refine xs_reg ?_
      refine xs_fg (lv' := [some (.ref 150), some (.int c1), some (.int l2), some (.int (0 : Int32))]) (And.intro rfl (And.intro rfl (And.intro rfl (And.intro rfl trivial)))) ?_
      refine el_X12_body_39 m c1 l2 _ (fun q12 => ?_) m (0 : Int32) u0
      refine xs_iincl (n := 77) (dv := (1 : Int32)) (fun v13 => [some (.ref 150), some (.int c1), some (.int v13), none]) dX12_body_74 rfl rfl rfl (Nat.le_of_ble_eq_true rfl) (fun _ => rfl) (fun v13 => ?_)
      refine xs_goto (n := 32) dX12_body_77 rfl ?_
      exact xs_gf (ih v13 q12.2) (And.intro rfl (And.intro rfl (And.intro rfl trivial)))
theorem en_X12_body (m : Nat) (u0 : xm_Y) : xs_ (fun x : Int32 => some (.int x)) sg_0 mt_X12_body 0 [some (.ref 150), none, none, none] [] u0 0 0 (fn_X12_body m u0) := by
  refine xs_top ?_
  rw [fn_X12_body]
  refine xs_aload_n (n := 1) dX12_body_0 rfl rfl ?_
  refine ys_geti (n := 4) dX12_body_1 rfl fl_X12_135 (Or.inl rfl) sh_150 ?_
  refine xs_iconst (n := 5) (v := (5 : Int32)) dX12_body_4 rfl rfl ?_
  refine xs_icmp_ne (n := 8) (tgt := 11) dX12_body_5 rfl rfl (fun hc1 => ?_) (fun hc1 => ?_)
  · refine xs_bipush (n := 10) (v := (-2 : Int32)) dX12_body_8 rfl rfl ?_
    exact xs_iret dX12_body_10 rfl rfl
  · refine xs_aload_n (n := 12) dX12_body_11 rfl rfl ?_
    refine ys_geti (n := 15) dX12_body_12 rfl fl_X12_135 (Or.inl rfl) sh_150 ?_
    refine xs_leti (fun v2 => ?_)
    refine xs_istore_n (n := 16) (lv' := [some (.ref 150), some (.int v2), none, none]) dX12_body_15 rfl (Nat.le_of_ble_eq_true rfl) rfl ?_
    refine xs_aload_n (n := 17) dX12_body_16 rfl rfl ?_
    refine ys_getr (n := 20) dX12_body_17 rfl fl_X12_13 sh_150 rfl ?_
    refine xs_iload_n (n := 21) dX12_body_20 rfl rfl ?_
    refine xs_iconst (n := 22) (v := (0 : Int32)) dX12_body_21 rfl rfl ?_
    refine ys_iastore (n := 23) dX12_body_22 rfl sh_151 (fun u3 => ?_)
    refine xs_aload_n (n := 24) dX12_body_23 rfl rfl ?_
    refine ys_getr (n := 27) dX12_body_24 rfl fl_X12_52 sh_150 rfl ?_
    refine xs_iload_n (n := 28) dX12_body_27 rfl rfl ?_
    refine xs_iconst (n := 29) (v := (-1 : Int32)) dX12_body_28 rfl rfl ?_
    refine ys_iastore (n := 30) dX12_body_29 rfl sh_163 (fun u4 => ?_)
    refine xs_iconst (n := 31) (v := (0 : Int32)) dX12_body_30 rfl rfl ?_
    refine xs_istore_n (n := 32) (lv' := [some (.ref 150), some (.int v2), some (.int (0 : Int32)), none]) dX12_body_31 rfl (Nat.le_of_ble_eq_true rfl) rfl ?_
    refine xs_reg ?_
    refine xs_fg (lv' := [some (.ref 150), some (.int v2), some (.int (0 : Int32)), none]) (And.intro rfl (And.intro rfl (And.intro rfl trivial))) ?_
    refine el_X12_body_32 m v2 _ (fun q14 => ?_) m (0 : Int32) u4
    refine xs_aload_n (n := 81) dX12_body_80 rfl rfl ?_
    refine xs_dup (n := 82) dX12_body_81 rfl rfl ?_
    refine ys_geti (n := 85) dX12_body_82 rfl fl_X12_135 (Or.inl rfl) sh_150 ?_
    refine xs_iconst (n := 86) (v := (1 : Int32)) dX12_body_85 rfl rfl ?_
    refine xs_iadd (n := 87) dX12_body_86 rfl ?_
    refine ys_puti (n := 90) dX12_body_87 rfl fl_X12_135 rfl sh_150 (fun u15 => ?_)
    refine xs_aload_n (n := 91) dX12_body_90 rfl rfl ?_
    refine ys_callvv (n := 94) (N := mt_X12_openAll) dX12_body_91 rfl ok_X12_openAll tw_863 im_X12_openAll se_X12_openAll ⟨Nat.le_of_ble_eq_true rfl, Nat.le_of_ble_eq_true rfl⟩ [] [] rfl rfl (Nat.le_of_ble_eq_true rfl) rfl (Nat.le_of_ble_eq_true rfl) (en_X12_openAll m u15) sh_150 (by decide) rfl (fun q16 => ?_)
    refine xs_iload_n (n := 95) dX12_body_94 rfl rfl ?_
    exact xs_iret dX12_body_95 rfl rfl
def fn_X12_areWeights (m : Nat) (x0 : Int32) (x1 : Int32) (u0 : xm_Y) : Option (Int32 × xm_Y) :=
  ((if x0 < 0 then (
  some ((0 : Int32))) else (
  if (68921 : Int32) ≤ x0 then (
  some ((0 : Int32))) else (
  if x1 < (-1000 : Int32) then (
  some ((0 : Int32))) else (
  if (1000 : Int32) < x1 then (
  some ((0 : Int32))) else (
  some ((1 : Int32)))))) : Option (Int32)).bind fun q1 =>
  xm_chk (q1 = 0 ∨ q1 = 1) (some (q1, u0)))
theorem en_X12_areWeights (m : Nat) (x0 : Int32) (x1 : Int32) (u0 : xm_Y) : xs_ (fun x : Int32 => some (.int x)) sg_0 mt_X12_areWeights 0 [some (.int x0), some (.int x1)] [] u0 0 0 (fn_X12_areWeights m x0 x1 u0) := by
  refine xs_top ?_
  rw [fn_X12_areWeights]
  refine xs_iload_n (n := 1) dX12_areWeights_0 rfl rfl ?_
  refine xs_join 29 (fun q1 => [none, none]) (fun q1 => [.int q1]) (fun q1 => u0) (fun q1 => ?_) (fun kj2 => ?_)
  · exact xs_zret dX12_areWeights_29 rfl rfl
  · refine xs_if_lt (n := 4) (tgt := 28) dX12_areWeights_1 rfl rfl (fun hc3 => ?_) (fun hc3 => ?_)
    · refine xs_iconst (n := 29) (v := (0 : Int32)) dX12_areWeights_28 rfl rfl ?_
      exact xs_gf (xs_end (kj2 ((0 : Int32)))) trivial
    · refine xs_iload_n (n := 5) dX12_areWeights_4 rfl rfl ?_
      refine xs_ldc (n := 7) (v := (68921 : Int32)) dX12_areWeights_5 rfl tw_1038 ?_
      refine xs_icmp_ge (n := 10) (tgt := 28) dX12_areWeights_7 rfl rfl (fun hc4 => ?_) (fun hc4 => ?_)
      · refine xs_iconst (n := 29) (v := (0 : Int32)) dX12_areWeights_28 rfl rfl ?_
        exact xs_gf (xs_end (kj2 ((0 : Int32)))) trivial
      · refine xs_iload_n (n := 11) dX12_areWeights_10 rfl rfl ?_
        refine xs_sipush (n := 14) (v := (-1000 : Int32)) dX12_areWeights_11 rfl rfl ?_
        refine xs_icmp_lt (n := 17) (tgt := 28) dX12_areWeights_14 rfl rfl (fun hc5 => ?_) (fun hc5 => ?_)
        · refine xs_iconst (n := 29) (v := (0 : Int32)) dX12_areWeights_28 rfl rfl ?_
          exact xs_gf (xs_end (kj2 ((0 : Int32)))) trivial
        · refine xs_iload_n (n := 18) dX12_areWeights_17 rfl rfl ?_
          refine xs_sipush (n := 21) (v := (1000 : Int32)) dX12_areWeights_18 rfl rfl ?_
          refine xs_icmp_gt (n := 24) (tgt := 28) dX12_areWeights_21 rfl rfl (fun hc6 => ?_) (fun hc6 => ?_)
          · refine xs_iconst (n := 29) (v := (0 : Int32)) dX12_areWeights_28 rfl rfl ?_
            exact xs_gf (xs_end (kj2 ((0 : Int32)))) trivial
          · refine xs_iconst (n := 25) (v := (1 : Int32)) dX12_areWeights_24 rfl rfl ?_
            refine xs_goto (n := 29) dX12_areWeights_25 rfl ?_
            exact xs_gf (xs_end (kj2 ((1 : Int32)))) trivial
def lp_X12_lay_51 (m : Nat) (a1 : Nat) (n1 : Nat) (c2 : Int32) : Nat → Int32 → xm_Y → Option (Int32 × xm_Y)
  | 0, _, _ => none
  | n + 1, l5, u0 =>
  if (3 : Int32) ≤ l5 then (
  some (l5, u0)) else (
  xm_chk (xm_in (c2 + l5) n1) (xm_let (w_I u0 a1 (Int32.toNatClampNeg (c2 + l5)) (0 : Int32)) fun u7 =>
  xm_let (α := Int32) (l5 + (1 : Int32)) fun v8 =>
  lp_X12_lay_51 m a1 n1 c2 n v8 u7))
def fn_X12_lay (m : Nat) (w : Nat) (wn : Nat) (x0 : Int32) (x1 : Int32) (x2 : Int32) (u0 : xm_Y) : Option (Unit × xm_Y) :=
  xm_chk (¬ (1681 : Int32) = 0) (
  xm_chk (xm_in x0 wn) (xm_let (w_I u0 w (Int32.toNatClampNeg x0) ((x1 / (1681 : Int32)) - (20 : Int32))) fun u1 =>
  xm_chk (¬ (41 : Int32) = 0) (
  xm_chk (¬ (41 : Int32) = 0) (
  xm_chk (xm_in (x0 + (1 : Int32)) wn) (xm_let (w_I u1 w (Int32.toNatClampNeg (x0 + (1 : Int32))) (((x1 / (41 : Int32)) - (x1 / (41 : Int32)) / (41 : Int32) * (41 : Int32)) - (20 : Int32))) fun u2 =>
  xm_chk (¬ (41 : Int32) = 0) (
  xm_chk (xm_in (x0 + (2 : Int32)) wn) (xm_let (w_I u2 w (Int32.toNatClampNeg (x0 + (2 : Int32))) ((x1 - x1 / (41 : Int32) * (41 : Int32)) - (20 : Int32))) fun u3 =>
  xm_chk (xm_in (x0 + (3 : Int32)) wn) (xm_let (w_I u3 w (Int32.toNatClampNeg (x0 + (3 : Int32))) x2) fun u4 =>
  xm_let (α := Int32) ((u4.1 150 0)) fun v5 =>
  ((lp_X12_lay_51 m w wn x0 m v5 u4).bind fun q9 =>
  some ((), q9.2))))))))))
theorem el_X12_lay_51 (m : Nat) (a1 : Nat) (n1 : Nat) (c2 : Int32) (ha1 : xsh_ a1 13 n1) (K : Int32 × xm_Y → Option (Unit × xm_Y)) (kE : ∀ q : Int32 × xm_Y, xs_ (fun _ : Unit => none) sg_0 mt_X12_lay 70 [none, none, none, none, none, none] [] q.2 0 0 (K q)) : ∀ (n : Nat) (l5 : Int32) (u0 : xm_Y), xs_ (fun _ : Unit => none) sg_0 mt_X12_lay 51 [none, some (.ref a1), some (.int c2), none, none, some (.int l5)] [] u0 0 0 ((lp_X12_lay_51 m a1 n1 c2 n l5 u0).bind K) := by
  intro n
  induction n with
  | zero =>
    intro l5 u0
    exact xs_none
  | succ n ih =>
    intro l5 u0
    rw [lp_X12_lay_51]
    refine xs_iload (n := 53) dX12_lay_51 rfl rfl ?_
    refine xs_iconst (n := 54) (v := (3 : Int32)) dX12_lay_53 rfl rfl ?_
    refine xs_icmp_ge (n := 57) (tgt := 70) dX12_lay_54 rfl rfl (fun hc6 => ?_) (fun hc6 => ?_)
    · exact xs_gf (xs_end (kE (l5, u0))) trivial
    · refine xs_aload_n (n := 58) dX12_lay_57 rfl rfl ?_
      refine xs_iload_n (n := 59) dX12_lay_58 rfl rfl ?_
      refine xs_iload (n := 61) dX12_lay_59 rfl rfl ?_
      refine xs_iadd (n := 62) dX12_lay_61 rfl ?_
      refine xs_iconst (n := 63) (v := (0 : Int32)) dX12_lay_62 rfl rfl ?_
      refine ys_iastore (n := 64) dX12_lay_63 rfl ha1 (fun u7 => ?_)
      refine xs_iincl (n := 67) (dv := (1 : Int32)) (fun v8 => [none, some (.ref a1), some (.int c2), none, none, some (.int v8)]) dX12_lay_64 rfl rfl rfl (Nat.le_of_ble_eq_true rfl) (fun _ => rfl) (fun v8 => ?_)
      refine xs_goto (n := 51) dX12_lay_67 rfl ?_
      exact xs_gf (ih v8 u7) (And.intro rfl (And.intro rfl (And.intro rfl trivial)))
theorem en_X12_lay (m : Nat) (w : Nat) (wn : Nat) (x0 : Int32) (x1 : Int32) (x2 : Int32) (hw_ : xsh_ w 13 wn) (u0 : xm_Y) : xs_ (fun _ : Unit => none) sg_0 mt_X12_lay 0 [some (.ref 150), some (.ref w), some (.int x0), some (.int x1), some (.int x2), none] [] u0 0 0 (fn_X12_lay m w wn x0 x1 x2 u0) := by
  refine xs_top ?_
  rw [fn_X12_lay]
  refine xs_aload_n (n := 1) dX12_lay_0 rfl rfl ?_
  refine xs_iload_n (n := 2) dX12_lay_1 rfl rfl ?_
  refine xs_iload_n (n := 3) dX12_lay_2 rfl rfl ?_
  refine xs_sipush (n := 6) (v := (1681 : Int32)) dX12_lay_3 rfl rfl ?_
  refine xs_idiv (n := 7) dX12_lay_6 rfl (fun _ => ?_)
  refine xs_bipush (n := 9) (v := (20 : Int32)) dX12_lay_7 rfl rfl ?_
  refine xs_isub (n := 10) dX12_lay_9 rfl ?_
  refine ys_iastore (n := 11) dX12_lay_10 rfl hw_ (fun u1 => ?_)
  refine xs_aload_n (n := 12) dX12_lay_11 rfl rfl ?_
  refine xs_iload_n (n := 13) dX12_lay_12 rfl rfl ?_
  refine xs_iconst (n := 14) (v := (1 : Int32)) dX12_lay_13 rfl rfl ?_
  refine xs_iadd (n := 15) dX12_lay_14 rfl ?_
  refine xs_iload_n (n := 16) dX12_lay_15 rfl rfl ?_
  refine xs_bipush (n := 18) (v := (41 : Int32)) dX12_lay_16 rfl rfl ?_
  refine xs_idiv (n := 19) dX12_lay_18 rfl (fun _ => ?_)
  refine xs_bipush (n := 21) (v := (41 : Int32)) dX12_lay_19 rfl rfl ?_
  refine xs_irem (n := 22) dX12_lay_21 rfl (fun _ => ?_)
  refine xs_bipush (n := 24) (v := (20 : Int32)) dX12_lay_22 rfl rfl ?_
  refine xs_isub (n := 25) dX12_lay_24 rfl ?_
  refine ys_iastore (n := 26) dX12_lay_25 rfl hw_ (fun u2 => ?_)
  refine xs_aload_n (n := 27) dX12_lay_26 rfl rfl ?_
  refine xs_iload_n (n := 28) dX12_lay_27 rfl rfl ?_
  refine xs_iconst (n := 29) (v := (2 : Int32)) dX12_lay_28 rfl rfl ?_
  refine xs_iadd (n := 30) dX12_lay_29 rfl ?_
  refine xs_iload_n (n := 31) dX12_lay_30 rfl rfl ?_
  refine xs_bipush (n := 33) (v := (41 : Int32)) dX12_lay_31 rfl rfl ?_
  refine xs_irem (n := 34) dX12_lay_33 rfl (fun _ => ?_)
  refine xs_bipush (n := 36) (v := (20 : Int32)) dX12_lay_34 rfl rfl ?_
  refine xs_isub (n := 37) dX12_lay_36 rfl ?_
  refine ys_iastore (n := 38) dX12_lay_37 rfl hw_ (fun u3 => ?_)
  refine xs_aload_n (n := 39) dX12_lay_38 rfl rfl ?_
  refine xs_iload_n (n := 40) dX12_lay_39 rfl rfl ?_
  refine xs_iconst (n := 41) (v := (3 : Int32)) dX12_lay_40 rfl rfl ?_
  refine xs_iadd (n := 42) dX12_lay_41 rfl ?_
  refine xs_iload (n := 44) dX12_lay_42 rfl rfl ?_
  refine ys_iastore (n := 45) dX12_lay_44 rfl hw_ (fun u4 => ?_)
  refine xs_aload_n (n := 46) dX12_lay_45 rfl rfl ?_
  refine ys_geti (n := 49) dX12_lay_46 rfl fl_X12_7 (Or.inl rfl) sh_150 ?_
  refine xs_leti (fun v5 => ?_)
  refine xs_istore (n := 51) (lv' := [some (.ref 150), some (.ref w), some (.int x0), some (.int x1), some (.int x2), some (.int v5)]) dX12_lay_49 rfl (Nat.le_of_ble_eq_true rfl) rfl ?_
  refine xs_reg ?_
  refine xs_fg (lv' := [none, some (.ref w), some (.int x0), none, none, some (.int v5)]) (And.intro rfl (And.intro rfl (And.intro rfl trivial))) ?_
  refine el_X12_lay_51 m w wn x0 hw_ _ (fun q9 => ?_) m v5 u4
  exact xs_vret dX12_lay_70 rfl rfl
def fn_X12_isBody (m : Nat) (x0 : Int32) (u0 : xm_Y) : Option (Int32 × xm_Y) :=
  ((if x0 < 0 then (
  some ((0 : Int32))) else (
  if (u0.1 150 1) ≤ x0 then (
  some ((0 : Int32))) else (
  some ((1 : Int32)))) : Option (Int32)).bind fun q1 =>
  xm_chk (q1 = 0 ∨ q1 = 1) (some (q1, u0)))
theorem en_X12_isBody (m : Nat) (x0 : Int32) (u0 : xm_Y) : xs_ (fun x : Int32 => some (.int x)) sg_0 mt_X12_isBody 0 [some (.ref 150), some (.int x0)] [] u0 0 0 (fn_X12_isBody m x0 u0) := by
  refine xs_top ?_
  rw [fn_X12_isBody]
  refine xs_iload_n (n := 1) dX12_isBody_0 rfl rfl ?_
  refine xs_join 17 (fun q1 => [none, none]) (fun q1 => [.int q1]) (fun q1 => u0) (fun q1 => ?_) (fun kj2 => ?_)
  · exact xs_zret dX12_isBody_17 rfl rfl
  · refine xs_if_lt (n := 4) (tgt := 16) dX12_isBody_1 rfl rfl (fun hc3 => ?_) (fun hc3 => ?_)
    · refine xs_iconst (n := 17) (v := (0 : Int32)) dX12_isBody_16 rfl rfl ?_
      exact xs_gf (xs_end (kj2 ((0 : Int32)))) trivial
    · refine xs_iload_n (n := 5) dX12_isBody_4 rfl rfl ?_
      refine xs_aload_n (n := 6) dX12_isBody_5 rfl rfl ?_
      refine ys_geti (n := 9) dX12_isBody_6 rfl fl_X12_135 (Or.inl rfl) sh_150 ?_
      refine xs_icmp_ge (n := 12) (tgt := 16) dX12_isBody_9 rfl rfl (fun hc4 => ?_) (fun hc4 => ?_)
      · refine xs_iconst (n := 17) (v := (0 : Int32)) dX12_isBody_16 rfl rfl ?_
        exact xs_gf (xs_end (kj2 ((0 : Int32)))) trivial
      · refine xs_iconst (n := 13) (v := (1 : Int32)) dX12_isBody_12 rfl rfl ?_
        refine xs_goto (n := 17) dX12_isBody_13 rfl ?_
        exact xs_gf (xs_end (kj2 ((1 : Int32)))) trivial
def fn_X12_guard (m : Nat) (x0 : Int32) (x1 : Int32) (x2 : Int32) (u0 : xm_Y) : Option (Int32 × xm_Y) :=
  ((fn_X12_isBody m x0 u0).bind fun q1 =>
  if q1.1 = 0 then (
  some ((-1 : Int32), q1.2)) else (
  ((fn_X12_areWeights m x1 x2 q1.2).bind fun q3 =>
  if q3.1 = 0 then (
  some ((-1 : Int32), q3.2)) else (
  xm_chk (xm_in x0 5) (
  if (q3.2.1 151 (Int32.toNatClampNeg x0)) = (6 : Int32) then (
  some ((-2 : Int32), q3.2)) else (
  xm_chk (xm_in x0 5) (
  ((fn_X12_lay m 152 120 ((((6 : Int32) * x0) + (q3.2.1 151 (Int32.toNatClampNeg x0))) * (4 : Int32)) x1 x2 q3.2).bind fun q6 =>
  xm_chk (xm_in x0 5) (
  xm_chk (xm_in x0 5) (xm_let (w_I q6.2 151 (Int32.toNatClampNeg x0) ((q6.2.1 151 (Int32.toNatClampNeg x0)) + (1 : Int32))) fun u7 =>
  ((fn_X12_openAll m u7).bind fun q8 =>
  xm_chk (xm_in x0 5) (
  some ((q8.2.1 151 (Int32.toNatClampNeg x0)), q8.2)))))))))))))
theorem en_X12_guard (m : Nat) (x0 : Int32) (x1 : Int32) (x2 : Int32) (u0 : xm_Y) : xs_ (fun x : Int32 => some (.int x)) sg_0 mt_X12_guard 0 [some (.ref 150), some (.int x0), some (.int x1), some (.int x2)] [] u0 0 0 (fn_X12_guard m x0 x1 x2 u0) := by
  refine xs_top ?_
  rw [fn_X12_guard]
  refine xs_aload_n (n := 1) dX12_guard_0 rfl rfl ?_
  refine xs_iload_n (n := 2) dX12_guard_1 rfl rfl ?_
  refine ys_callvi (n := 5) (N := mt_X12_isBody) dX12_guard_2 rfl ok_X12_isBody tw_1031 im_X12_isBody se_X12_isBody ⟨Nat.le_of_ble_eq_true rfl, Nat.le_of_ble_eq_true rfl⟩ [.int x0] [] rfl rfl (Nat.le_of_ble_eq_true rfl) rfl (Nat.le_of_ble_eq_true rfl) (en_X12_isBody m x0 u0) sh_150 (by decide) rfl (fun q1 => ?_)
  refine xs_if_eq (n := 8) (tgt := 16) dX12_guard_5 rfl rfl (fun hc2 => ?_) (fun hc2 => ?_)
  · refine xs_iconst (n := 17) (v := (-1 : Int32)) dX12_guard_16 rfl rfl ?_
    exact xs_iret dX12_guard_17 rfl rfl
  · refine xs_iload_n (n := 9) dX12_guard_8 rfl rfl ?_
    refine xs_iload_n (n := 10) dX12_guard_9 rfl rfl ?_
    refine ys_callsi (n := 13) (N := mt_X12_areWeights) dX12_guard_10 rfl ok_X12_areWeights tw_1035 st_X12_areWeights ⟨Nat.le_of_ble_eq_true rfl, Nat.le_of_ble_eq_true rfl⟩ [.int x1, .int x2] [] rfl rfl (Nat.le_of_ble_eq_true rfl) rfl (Nat.le_of_ble_eq_true rfl) (en_X12_areWeights m x1 x2 q1.2) (fun q3 => ?_)
    refine xs_if_ne (n := 16) (tgt := 18) dX12_guard_13 rfl rfl (fun hc4 => ?_) (fun hc4 => ?_)
    · refine xs_iconst (n := 17) (v := (-1 : Int32)) dX12_guard_16 rfl rfl ?_
      exact xs_iret dX12_guard_17 rfl rfl
    · refine xs_aload_n (n := 19) dX12_guard_18 rfl rfl ?_
      refine ys_getr (n := 22) dX12_guard_19 rfl fl_X12_13 sh_150 rfl ?_
      refine xs_iload_n (n := 23) dX12_guard_22 rfl rfl ?_
      refine ys_iaload (n := 24) dX12_guard_23 rfl sh_151 ?_
      refine xs_bipush (n := 26) (v := (6 : Int32)) dX12_guard_24 rfl rfl ?_
      refine xs_icmp_ne (n := 29) (tgt := 32) dX12_guard_26 rfl rfl (fun hc5 => ?_) (fun hc5 => ?_)
      · refine xs_bipush (n := 31) (v := (-2 : Int32)) dX12_guard_29 rfl rfl ?_
        exact xs_iret dX12_guard_31 rfl rfl
      · refine xs_aload_n (n := 33) dX12_guard_32 rfl rfl ?_
        refine xs_aload_n (n := 34) dX12_guard_33 rfl rfl ?_
        refine ys_getr (n := 37) dX12_guard_34 rfl fl_X12_17 sh_150 rfl ?_
        refine xs_bipush (n := 39) (v := (6 : Int32)) dX12_guard_37 rfl rfl ?_
        refine xs_iload_n (n := 40) dX12_guard_39 rfl rfl ?_
        refine xs_imul (n := 41) dX12_guard_40 rfl ?_
        refine xs_aload_n (n := 42) dX12_guard_41 rfl rfl ?_
        refine ys_getr (n := 45) dX12_guard_42 rfl fl_X12_13 sh_150 rfl ?_
        refine xs_iload_n (n := 46) dX12_guard_45 rfl rfl ?_
        refine ys_iaload (n := 47) dX12_guard_46 rfl sh_151 ?_
        refine xs_iadd (n := 48) dX12_guard_47 rfl ?_
        refine xs_iconst (n := 49) (v := (4 : Int32)) dX12_guard_48 rfl rfl ?_
        refine xs_imul (n := 50) dX12_guard_49 rfl ?_
        refine xs_iload_n (n := 51) dX12_guard_50 rfl rfl ?_
        refine xs_iload_n (n := 52) dX12_guard_51 rfl rfl ?_
        refine ys_callvv (n := 55) (N := mt_X12_lay) dX12_guard_52 rfl ok_X12_lay tw_1039 im_X12_lay se_X12_lay ⟨Nat.le_of_ble_eq_true rfl, Nat.le_of_ble_eq_true rfl⟩ [.ref 152, .int ((((6 : Int32) * x0) + (q3.2.1 151 (Int32.toNatClampNeg x0))) * (4 : Int32)), .int x1, .int x2] [] rfl rfl (Nat.le_of_ble_eq_true rfl) rfl (Nat.le_of_ble_eq_true rfl) (en_X12_lay m 152 120 ((((6 : Int32) * x0) + (q3.2.1 151 (Int32.toNatClampNeg x0))) * (4 : Int32)) x1 x2 sh_152 q3.2) sh_150 (by decide) rfl (fun q6 => ?_)
        refine xs_aload_n (n := 56) dX12_guard_55 rfl rfl ?_
        refine ys_getr (n := 59) dX12_guard_56 rfl fl_X12_13 sh_150 rfl ?_
        refine xs_iload_n (n := 60) dX12_guard_59 rfl rfl ?_
        refine xs_dup2_11 (n := 61) dX12_guard_60 rfl rfl rfl ?_
        refine ys_iaload (n := 62) dX12_guard_61 rfl sh_151 ?_
        refine xs_iconst (n := 63) (v := (1 : Int32)) dX12_guard_62 rfl rfl ?_
        refine xs_iadd (n := 64) dX12_guard_63 rfl ?_
        refine ys_iastore (n := 65) dX12_guard_64 rfl sh_151 (fun u7 => ?_)
        refine xs_aload_n (n := 66) dX12_guard_65 rfl rfl ?_
        refine ys_callvv (n := 69) (N := mt_X12_openAll) dX12_guard_66 rfl ok_X12_openAll tw_863 im_X12_openAll se_X12_openAll ⟨Nat.le_of_ble_eq_true rfl, Nat.le_of_ble_eq_true rfl⟩ [] [] rfl rfl (Nat.le_of_ble_eq_true rfl) rfl (Nat.le_of_ble_eq_true rfl) (en_X12_openAll m u7) sh_150 (by decide) rfl (fun q8 => ?_)
        refine xs_aload_n (n := 70) dX12_guard_69 rfl rfl ?_
        refine ys_getr (n := 73) dX12_guard_70 rfl fl_X12_13 sh_150 rfl ?_
        refine xs_iload_n (n := 74) dX12_guard_73 rfl rfl ?_
        refine ys_iaload (n := 75) dX12_guard_74 rfl sh_151 ?_
        exact xs_iret dX12_guard_75 rfl rfl
def fn_X12_rule (m : Nat) (x0 : Int32) (x1 : Int32) (x2 : Int32) (x3 : Int32) (u0 : xm_Y) : Option (Int32 × xm_Y) :=
  ((fn_X12_isBody m x0 u0).bind fun q1 =>
  if q1.1 = 0 then (
  some ((-1 : Int32), q1.2)) else (
  if x1 < 0 then (
  some ((-1 : Int32), q1.2)) else (
  if (q1.2.1 150 0) ≤ x1 then (
  some ((-1 : Int32), q1.2)) else (
  ((fn_X12_areWeights m x2 x3 q1.2).bind fun q5 =>
  if q5.1 = 0 then (
  some ((-1 : Int32), q5.2)) else (
  ((fn_X12_lay m 153 60 ((((3 : Int32) * x0) + x1) * (4 : Int32)) x2 x3 q5.2).bind fun q7 =>
  ((fn_X12_openAll m q7.2).bind fun q8 =>
  some ((0 : Int32), q8.2)))))))))
theorem en_X12_rule (m : Nat) (x0 : Int32) (x1 : Int32) (x2 : Int32) (x3 : Int32) (u0 : xm_Y) : xs_ (fun x : Int32 => some (.int x)) sg_0 mt_X12_rule 0 [some (.ref 150), some (.int x0), some (.int x1), some (.int x2), some (.int x3)] [] u0 0 0 (fn_X12_rule m x0 x1 x2 x3 u0) := by
  refine xs_top ?_
  rw [fn_X12_rule]
  refine xs_aload_n (n := 1) dX12_rule_0 rfl rfl ?_
  refine xs_iload_n (n := 2) dX12_rule_1 rfl rfl ?_
  refine ys_callvi (n := 5) (N := mt_X12_isBody) dX12_rule_2 rfl ok_X12_isBody tw_1031 im_X12_isBody se_X12_isBody ⟨Nat.le_of_ble_eq_true rfl, Nat.le_of_ble_eq_true rfl⟩ [.int x0] [] rfl rfl (Nat.le_of_ble_eq_true rfl) rfl (Nat.le_of_ble_eq_true rfl) (en_X12_isBody m x0 u0) sh_150 (by decide) rfl (fun q1 => ?_)
  refine xs_if_eq (n := 8) (tgt := 29) dX12_rule_5 rfl rfl (fun hc2 => ?_) (fun hc2 => ?_)
  · refine xs_iconst (n := 30) (v := (-1 : Int32)) dX12_rule_29 rfl rfl ?_
    exact xs_iret dX12_rule_30 rfl rfl
  · refine xs_iload_n (n := 9) dX12_rule_8 rfl rfl ?_
    refine xs_if_lt (n := 12) (tgt := 29) dX12_rule_9 rfl rfl (fun hc3 => ?_) (fun hc3 => ?_)
    · refine xs_iconst (n := 30) (v := (-1 : Int32)) dX12_rule_29 rfl rfl ?_
      exact xs_iret dX12_rule_30 rfl rfl
    · refine xs_iload_n (n := 13) dX12_rule_12 rfl rfl ?_
      refine xs_aload_n (n := 14) dX12_rule_13 rfl rfl ?_
      refine ys_geti (n := 17) dX12_rule_14 rfl fl_X12_7 (Or.inl rfl) sh_150 ?_
      refine xs_icmp_ge (n := 20) (tgt := 29) dX12_rule_17 rfl rfl (fun hc4 => ?_) (fun hc4 => ?_)
      · refine xs_iconst (n := 30) (v := (-1 : Int32)) dX12_rule_29 rfl rfl ?_
        exact xs_iret dX12_rule_30 rfl rfl
      · refine xs_iload_n (n := 21) dX12_rule_20 rfl rfl ?_
        refine xs_iload (n := 23) dX12_rule_21 rfl rfl ?_
        refine ys_callsi (n := 26) (N := mt_X12_areWeights) dX12_rule_23 rfl ok_X12_areWeights tw_1035 st_X12_areWeights ⟨Nat.le_of_ble_eq_true rfl, Nat.le_of_ble_eq_true rfl⟩ [.int x2, .int x3] [] rfl rfl (Nat.le_of_ble_eq_true rfl) rfl (Nat.le_of_ble_eq_true rfl) (en_X12_areWeights m x2 x3 q1.2) (fun q5 => ?_)
        refine xs_if_ne (n := 29) (tgt := 31) dX12_rule_26 rfl rfl (fun hc6 => ?_) (fun hc6 => ?_)
        · refine xs_iconst (n := 30) (v := (-1 : Int32)) dX12_rule_29 rfl rfl ?_
          exact xs_iret dX12_rule_30 rfl rfl
        · refine xs_aload_n (n := 32) dX12_rule_31 rfl rfl ?_
          refine xs_aload_n (n := 33) dX12_rule_32 rfl rfl ?_
          refine ys_getr (n := 36) dX12_rule_33 rfl fl_X12_20 sh_150 rfl ?_
          refine xs_iconst (n := 37) (v := (3 : Int32)) dX12_rule_36 rfl rfl ?_
          refine xs_iload_n (n := 38) dX12_rule_37 rfl rfl ?_
          refine xs_imul (n := 39) dX12_rule_38 rfl ?_
          refine xs_iload_n (n := 40) dX12_rule_39 rfl rfl ?_
          refine xs_iadd (n := 41) dX12_rule_40 rfl ?_
          refine xs_iconst (n := 42) (v := (4 : Int32)) dX12_rule_41 rfl rfl ?_
          refine xs_imul (n := 43) dX12_rule_42 rfl ?_
          refine xs_iload_n (n := 44) dX12_rule_43 rfl rfl ?_
          refine xs_iload (n := 46) dX12_rule_44 rfl rfl ?_
          refine ys_callvv (n := 49) (N := mt_X12_lay) dX12_rule_46 rfl ok_X12_lay tw_1039 im_X12_lay se_X12_lay ⟨Nat.le_of_ble_eq_true rfl, Nat.le_of_ble_eq_true rfl⟩ [.ref 153, .int ((((3 : Int32) * x0) + x1) * (4 : Int32)), .int x2, .int x3] [] rfl rfl (Nat.le_of_ble_eq_true rfl) rfl (Nat.le_of_ble_eq_true rfl) (en_X12_lay m 153 60 ((((3 : Int32) * x0) + x1) * (4 : Int32)) x2 x3 sh_153 q5.2) sh_150 (by decide) rfl (fun q7 => ?_)
          refine xs_aload_n (n := 50) dX12_rule_49 rfl rfl ?_
          refine ys_callvv (n := 53) (N := mt_X12_openAll) dX12_rule_50 rfl ok_X12_openAll tw_863 im_X12_openAll se_X12_openAll ⟨Nat.le_of_ble_eq_true rfl, Nat.le_of_ble_eq_true rfl⟩ [] [] rfl rfl (Nat.le_of_ble_eq_true rfl) rfl (Nat.le_of_ble_eq_true rfl) (en_X12_openAll m q7.2) sh_150 (by decide) rfl (fun q8 => ?_)
          refine xs_iconst (n := 54) (v := (0 : Int32)) dX12_rule_53 rfl rfl ?_
          exact xs_iret dX12_rule_54 rfl rfl
def fn_X12_many (m : Nat) (x0 : Int32) (u0 : xm_Y) : Option (Int32 × xm_Y) :=
  ((if x0 = (-1 : Int32) then (
  some ((u0.1 150 1), u0)) else (
  ((fn_X12_isBody m x0 u0).bind fun q4 =>
  if q4.1 = 0 then (
  some ((-1 : Int32), q4.2)) else (
  xm_chk (xm_in x0 5) (
  some ((q4.2.1 151 (Int32.toNatClampNeg x0)), q4.2))))) : Option (Int32 × xm_Y)).bind fun q1 =>
  some (q1.1, q1.2))
theorem en_X12_many (m : Nat) (x0 : Int32) (u0 : xm_Y) : xs_ (fun x : Int32 => some (.int x)) sg_0 mt_X12_many 0 [some (.ref 150), some (.int x0)] [] u0 0 0 (fn_X12_many m x0 u0) := by
  refine xs_top ?_
  rw [fn_X12_many]
  refine xs_iload_n (n := 1) dX12_many_0 rfl rfl ?_
  refine xs_iconst (n := 2) (v := (-1 : Int32)) dX12_many_1 rfl rfl ?_
  refine xs_join 30 (fun q1 => [none, none]) (fun q1 => [.int q1.1]) (fun q1 => q1.2) (fun q1 => ?_) (fun kj2 => ?_)
  · exact xs_iret dX12_many_30 rfl rfl
  · refine xs_icmp_ne (n := 5) (tgt := 12) dX12_many_2 rfl rfl (fun hc3 => ?_) (fun hc3 => ?_)
    · refine xs_aload_n (n := 6) dX12_many_5 rfl rfl ?_
      refine ys_geti (n := 9) dX12_many_6 rfl fl_X12_135 (Or.inl rfl) sh_150 ?_
      refine xs_goto (n := 30) dX12_many_9 rfl ?_
      exact xs_gf (xs_end (kj2 ((u0.1 150 1), u0))) trivial
    · refine xs_aload_n (n := 13) dX12_many_12 rfl rfl ?_
      refine xs_iload_n (n := 14) dX12_many_13 rfl rfl ?_
      refine ys_callvi (n := 17) (N := mt_X12_isBody) dX12_many_14 rfl ok_X12_isBody tw_1031 im_X12_isBody se_X12_isBody ⟨Nat.le_of_ble_eq_true rfl, Nat.le_of_ble_eq_true rfl⟩ [.int x0] [] rfl rfl (Nat.le_of_ble_eq_true rfl) rfl (Nat.le_of_ble_eq_true rfl) (en_X12_isBody m x0 u0) sh_150 (by decide) rfl (fun q4 => ?_)
      refine xs_if_eq (n := 20) (tgt := 29) dX12_many_17 rfl rfl (fun hc5 => ?_) (fun hc5 => ?_)
      · refine xs_iconst (n := 30) (v := (-1 : Int32)) dX12_many_29 rfl rfl ?_
        exact xs_gf (xs_end (kj2 ((-1 : Int32), q4.2))) trivial
      · refine xs_aload_n (n := 21) dX12_many_20 rfl rfl ?_
        refine ys_getr (n := 24) dX12_many_21 rfl fl_X12_13 sh_150 rfl ?_
        refine xs_iload_n (n := 25) dX12_many_24 rfl rfl ?_
        refine ys_iaload (n := 26) dX12_many_25 rfl sh_151 ?_
        refine xs_goto (n := 30) dX12_many_26 rfl ?_
        exact xs_gf (xs_end (kj2 ((q4.2.1 151 (Int32.toNatClampNeg x0)), q4.2))) trivial
def fn_X12_set (m : Nat) (x0 : Int32) (x1 : Int32) (u0 : xm_Y) : Option (Int32 × xm_Y) :=
  if x0 < 0 then (
  some ((-1 : Int32), u0)) else (
  if (u0.1 150 0) ≤ x0 then (
  some ((-1 : Int32), u0)) else (
  if x1 < (-1000000 : Int32) then (
  some ((-1 : Int32), u0)) else (
  if x1 ≤ (1000000 : Int32) then (
  xm_chk (xm_in x0 3) (xm_let (w_J u0 154 (Int32.toNatClampNeg x0) (Int32.toInt64 x1)) fun u5 =>
  some ((0 : Int32), u5))) else (
  some ((-1 : Int32), u0)))))
theorem en_X12_set (m : Nat) (x0 : Int32) (x1 : Int32) (u0 : xm_Y) : xs_ (fun x : Int32 => some (.int x)) sg_0 mt_X12_set 0 [some (.ref 150), some (.int x0), some (.int x1)] [] u0 0 0 (fn_X12_set m x0 x1 u0) := by
  refine xs_top ?_
  rw [fn_X12_set]
  refine xs_iload_n (n := 1) dX12_set_0 rfl rfl ?_
  refine xs_if_lt (n := 4) (tgt := 24) dX12_set_1 rfl rfl (fun hc1 => ?_) (fun hc1 => ?_)
  · refine xs_iconst (n := 25) (v := (-1 : Int32)) dX12_set_24 rfl rfl ?_
    exact xs_iret dX12_set_25 rfl rfl
  · refine xs_iload_n (n := 5) dX12_set_4 rfl rfl ?_
    refine xs_aload_n (n := 6) dX12_set_5 rfl rfl ?_
    refine ys_geti (n := 9) dX12_set_6 rfl fl_X12_7 (Or.inl rfl) sh_150 ?_
    refine xs_icmp_ge (n := 12) (tgt := 24) dX12_set_9 rfl rfl (fun hc2 => ?_) (fun hc2 => ?_)
    · refine xs_iconst (n := 25) (v := (-1 : Int32)) dX12_set_24 rfl rfl ?_
      exact xs_iret dX12_set_25 rfl rfl
    · refine xs_iload_n (n := 13) dX12_set_12 rfl rfl ?_
      refine xs_ldc (n := 15) (v := (-1000000 : Int32)) dX12_set_13 rfl tw_1055 ?_
      refine xs_icmp_lt (n := 18) (tgt := 24) dX12_set_15 rfl rfl (fun hc3 => ?_) (fun hc3 => ?_)
      · refine xs_iconst (n := 25) (v := (-1 : Int32)) dX12_set_24 rfl rfl ?_
        exact xs_iret dX12_set_25 rfl rfl
      · refine xs_iload_n (n := 19) dX12_set_18 rfl rfl ?_
        refine xs_ldc (n := 21) (v := (1000000 : Int32)) dX12_set_19 rfl tw_1056 ?_
        refine xs_icmp_le (n := 24) (tgt := 26) dX12_set_21 rfl rfl (fun hc4 => ?_) (fun hc4 => ?_)
        · refine xs_aload_n (n := 27) dX12_set_26 rfl rfl ?_
          refine ys_getr (n := 30) dX12_set_27 rfl fl_X12_23 sh_150 rfl ?_
          refine xs_iload_n (n := 31) dX12_set_30 rfl rfl ?_
          refine xs_iload_n (n := 32) dX12_set_31 rfl rfl ?_
          refine xs_i2l (n := 33) dX12_set_32 rfl ?_
          refine ys_lastore (n := 34) dX12_set_33 rfl sh_154 (fun u5 => ?_)
          refine xs_iconst (n := 35) (v := (0 : Int32)) dX12_set_34 rfl rfl ?_
          exact xs_iret dX12_set_35 rfl rfl
        · refine xs_iconst (n := 25) (v := (-1 : Int32)) dX12_set_24 rfl rfl ?_
          exact xs_iret dX12_set_25 rfl rfl
def fn_X12_at (m : Nat) (x0 : Int32) (u0 : xm_Y) : Option (Int64 × xm_Y) :=
  ((if x0 < 0 then (
  some ((0 : Int64))) else (
  if (u0.1 150 0) ≤ x0 then (
  some ((0 : Int64))) else (
  xm_chk (xm_in x0 3) (
  some ((u0.2 154 (Int32.toNatClampNeg x0)))))) : Option (Int64)).bind fun q1 =>
  some (q1, u0))
theorem en_X12_at (m : Nat) (x0 : Int32) (u0 : xm_Y) : xs_ (fun x : Int64 => some (.long x)) sg_0 mt_X12_at 0 [some (.ref 150), some (.int x0)] [] u0 0 0 (fn_X12_at m x0 u0) := by
  refine xs_top ?_
  rw [fn_X12_at]
  refine xs_iload_n (n := 1) dX12_at_0 rfl rfl ?_
  refine xs_join 22 (fun q1 => [none, none]) (fun q1 => [.long q1]) (fun q1 => u0) (fun q1 => ?_) (fun kj2 => ?_)
  · exact xs_lret dX12_at_22 rfl rfl
  · refine xs_if_lt (n := 4) (tgt := 21) dX12_at_1 rfl rfl (fun hc3 => ?_) (fun hc3 => ?_)
    · refine xs_lconst (n := 22) (v := (0 : Int64)) dX12_at_21 rfl rfl ?_
      exact xs_gf (xs_end (kj2 ((0 : Int64)))) trivial
    · refine xs_iload_n (n := 5) dX12_at_4 rfl rfl ?_
      refine xs_aload_n (n := 6) dX12_at_5 rfl rfl ?_
      refine ys_geti (n := 9) dX12_at_6 rfl fl_X12_7 (Or.inl rfl) sh_150 ?_
      refine xs_icmp_ge (n := 12) (tgt := 21) dX12_at_9 rfl rfl (fun hc4 => ?_) (fun hc4 => ?_)
      · refine xs_lconst (n := 22) (v := (0 : Int64)) dX12_at_21 rfl rfl ?_
        exact xs_gf (xs_end (kj2 ((0 : Int64)))) trivial
      · refine xs_aload_n (n := 13) dX12_at_12 rfl rfl ?_
        refine ys_getr (n := 16) dX12_at_13 rfl fl_X12_23 sh_150 rfl ?_
        refine xs_iload_n (n := 17) dX12_at_16 rfl rfl ?_
        refine ys_laload (n := 18) dX12_at_17 rfl sh_154 ?_
        refine xs_goto (n := 22) dX12_at_18 rfl ?_
        exact xs_gf (xs_end (kj2 ((u0.2 154 (Int32.toNatClampNeg x0))))) trivial
def fn_X12_of (m : Nat) (w : Nat) (wn : Nat) (x0 : Int32) (p : Nat) (u0 : xm_Y) : Option (Int64 × xm_Y) :=
  xm_chk (xm_in x0 wn) (
  xm_chk (xm_in (0 : Int32) 3) (
  xm_chk (xm_in (x0 + (1 : Int32)) wn) (
  xm_chk (xm_in (1 : Int32) 3) (
  xm_chk (xm_in (x0 + (2 : Int32)) wn) (
  xm_chk (xm_in (2 : Int32) 3) (
  xm_chk (xm_in (x0 + (3 : Int32)) wn) (
  some ((((((Int32.toInt64 (u0.1 w (Int32.toNatClampNeg x0))) * (u0.2 p (Int32.toNatClampNeg (0 : Int32)))) + ((Int32.toInt64 (u0.1 w (Int32.toNatClampNeg (x0 + (1 : Int32))))) * (u0.2 p (Int32.toNatClampNeg (1 : Int32))))) + ((Int32.toInt64 (u0.1 w (Int32.toNatClampNeg (x0 + (2 : Int32))))) * (u0.2 p (Int32.toNatClampNeg (2 : Int32))))) + (Int32.toInt64 (u0.1 w (Int32.toNatClampNeg (x0 + (3 : Int32)))))), u0))))))))
theorem en_X12_of (m : Nat) (w : Nat) (wn : Nat) (x0 : Int32) (p : Nat) (hw_ : xsh_ w 13 wn) (hp_ : xsh_ p 14 3) (u0 : xm_Y) : xs_ (fun x : Int64 => some (.long x)) sg_0 mt_X12_of 0 [some (.ref w), some (.int x0), some (.ref p)] [] u0 0 0 (fn_X12_of m w wn x0 p u0) := by
  refine xs_top ?_
  rw [fn_X12_of]
  refine xs_aload_n (n := 1) dX12_of_0 rfl rfl ?_
  refine xs_iload_n (n := 2) dX12_of_1 rfl rfl ?_
  refine ys_iaload (n := 3) dX12_of_2 rfl hw_ ?_
  refine xs_i2l (n := 4) dX12_of_3 rfl ?_
  refine xs_aload_n (n := 5) dX12_of_4 rfl rfl ?_
  refine xs_iconst (n := 6) (v := (0 : Int32)) dX12_of_5 rfl rfl ?_
  refine ys_laload (n := 7) dX12_of_6 rfl hp_ ?_
  refine xs_lmul (n := 8) dX12_of_7 rfl ?_
  refine xs_aload_n (n := 9) dX12_of_8 rfl rfl ?_
  refine xs_iload_n (n := 10) dX12_of_9 rfl rfl ?_
  refine xs_iconst (n := 11) (v := (1 : Int32)) dX12_of_10 rfl rfl ?_
  refine xs_iadd (n := 12) dX12_of_11 rfl ?_
  refine ys_iaload (n := 13) dX12_of_12 rfl hw_ ?_
  refine xs_i2l (n := 14) dX12_of_13 rfl ?_
  refine xs_aload_n (n := 15) dX12_of_14 rfl rfl ?_
  refine xs_iconst (n := 16) (v := (1 : Int32)) dX12_of_15 rfl rfl ?_
  refine ys_laload (n := 17) dX12_of_16 rfl hp_ ?_
  refine xs_lmul (n := 18) dX12_of_17 rfl ?_
  refine xs_ladd (n := 19) dX12_of_18 rfl ?_
  refine xs_aload_n (n := 20) dX12_of_19 rfl rfl ?_
  refine xs_iload_n (n := 21) dX12_of_20 rfl rfl ?_
  refine xs_iconst (n := 22) (v := (2 : Int32)) dX12_of_21 rfl rfl ?_
  refine xs_iadd (n := 23) dX12_of_22 rfl ?_
  refine ys_iaload (n := 24) dX12_of_23 rfl hw_ ?_
  refine xs_i2l (n := 25) dX12_of_24 rfl ?_
  refine xs_aload_n (n := 26) dX12_of_25 rfl rfl ?_
  refine xs_iconst (n := 27) (v := (2 : Int32)) dX12_of_26 rfl rfl ?_
  refine ys_laload (n := 28) dX12_of_27 rfl hp_ ?_
  refine xs_lmul (n := 29) dX12_of_28 rfl ?_
  refine xs_ladd (n := 30) dX12_of_29 rfl ?_
  refine xs_aload_n (n := 31) dX12_of_30 rfl rfl ?_
  refine xs_iload_n (n := 32) dX12_of_31 rfl rfl ?_
  refine xs_iconst (n := 33) (v := (3 : Int32)) dX12_of_32 rfl rfl ?_
  refine xs_iadd (n := 34) dX12_of_33 rfl ?_
  refine ys_iaload (n := 35) dX12_of_34 rfl hw_ ?_
  refine xs_i2l (n := 36) dX12_of_35 rfl ?_
  refine xs_ladd (n := 37) dX12_of_36 rfl ?_
  exact xs_lret dX12_of_37 rfl rfl
def lp_X12_turnAt_15 (m : Nat) (a1 : Nat) (c2 : Int32) : Nat → Int32 → Int32 → xm_Y → Option (Int32 × Int32 × xm_Y)
  | 0, _, _, _ => none
  | n + 1, l3, l4, u0 =>
  xm_chk (xm_in c2 5) (
  if (u0.1 151 (Int32.toNatClampNeg c2)) ≤ l4 then (
  some (l3, l4, u0)) else (
  ((if l3 = 0 then (
  some ((0 : Int32), u0)) else (
  ((fn_X12_of m 152 120 ((((6 : Int32) * c2) + l4) * (4 : Int32)) a1 u0).bind fun q6 =>
  if q6.1 < (0 : Int64) then (
  some ((0 : Int32), q6.2)) else (
  some ((1 : Int32), q6.2)))) : Option (Int32 × xm_Y)).bind fun q3 =>
  xm_let (α := Int32) (l4 + (1 : Int32)) fun v8 =>
  lp_X12_turnAt_15 m a1 c2 n q3.1 v8 q3.2)))
def lp_X12_turnAt_2 (m : Nat) (a1 : Nat) : Nat → Int32 → xm_Y → Option ((Int32 × xm_Y) ⊕ (Int32 × xm_Y))
  | 0, _, _ => none
  | n + 1, l2, u0 =>
  if (u0.1 150 1) ≤ l2 then (
  some (.inr (l2, u0))) else (
  ((lp_X12_turnAt_15 m a1 l2 m (1 : Int32) (0 : Int32) u0).bind fun q9 =>
  if q9.1 = 0 then (
  xm_let (α := Int32) (l2 + (1 : Int32)) fun v11 =>
  lp_X12_turnAt_2 m a1 n v11 q9.2.2) else (
  some (.inl (l2, q9.2.2)))))
def fn_X12_turnAt (m : Nat) (p : Nat) (u0 : xm_Y) : Option (Int32 × xm_Y) :=
  ((lp_X12_turnAt_2 m p m (0 : Int32) u0).bind (Sum.elim (fun r => some r) (fun q12 =>
  some ((-1 : Int32), q12.2))))
theorem el_X12_turnAt_15 (m : Nat) (a1 : Nat) (c2 : Int32) (ha1 : xsh_ a1 14 3) (K : Int32 × Int32 × xm_Y → Option (Int32 × xm_Y)) (kE : ∀ q : Int32 × Int32 × xm_Y, xs_ (fun x : Int32 => some (.int x)) sg_0 mt_X12_turnAt 64 [some (.ref 150), some (.ref a1), some (.int c2), some (.int q.1), none] [] q.2.2 0 0 (K q)) : ∀ (n : Nat) (l3 : Int32) (l4 : Int32) (u0 : xm_Y), xs_ (fun x : Int32 => some (.int x)) sg_0 mt_X12_turnAt 15 [some (.ref 150), some (.ref a1), some (.int c2), some (.int l3), some (.int l4)] [] u0 0 0 ((lp_X12_turnAt_15 m a1 c2 n l3 l4 u0).bind K) := by
  intro n
  induction n with
  | zero =>
    intro l3 l4 u0
    exact xs_none
  | succ n ih =>
    intro l3 l4 u0
    rw [lp_X12_turnAt_15]
    refine xs_iload (n := 17) dX12_turnAt_15 rfl rfl ?_
    refine xs_aload_n (n := 18) dX12_turnAt_17 rfl rfl ?_
    refine ys_getr (n := 21) dX12_turnAt_18 rfl fl_X12_13 sh_150 rfl ?_
    refine xs_iload_n (n := 22) dX12_turnAt_21 rfl rfl ?_
    refine ys_iaload (n := 23) dX12_turnAt_22 rfl sh_151 ?_
    refine xs_icmp_ge (n := 26) (tgt := 64) dX12_turnAt_23 rfl rfl (fun hc2 => ?_) (fun hc2 => ?_)
    · exact xs_gf (xs_end (kE (l3, l4, u0))) (And.intro rfl (And.intro rfl (And.intro rfl (And.intro rfl trivial))))
    · refine xs_iload_n (n := 27) dX12_turnAt_26 rfl rfl ?_
      refine xs_join 57 (fun q3 => [some (.ref 150), some (.ref a1), some (.int c2), none, some (.int l4)]) (fun q3 => [.int q3.1]) (fun q3 => q3.2) (fun q3 => ?_) (fun kj4 => ?_)
      · refine xs_istore_n (n := 58) (lv' := [some (.ref 150), some (.ref a1), some (.int c2), some (.int q3.1), some (.int l4)]) dX12_turnAt_57 rfl (Nat.le_of_ble_eq_true rfl) rfl ?_
        refine xs_iincl (n := 61) (dv := (1 : Int32)) (fun v8 => [some (.ref 150), some (.ref a1), some (.int c2), some (.int q3.1), some (.int v8)]) dX12_turnAt_58 rfl rfl rfl (Nat.le_of_ble_eq_true rfl) (fun _ => rfl) (fun v8 => ?_)
        refine xs_goto (n := 15) dX12_turnAt_61 rfl ?_
        exact xs_gf (ih q3.1 v8 q3.2) (And.intro rfl (And.intro rfl (And.intro rfl (And.intro rfl (And.intro rfl trivial)))))
      · refine xs_if_eq (n := 30) (tgt := 56) dX12_turnAt_27 rfl rfl (fun hc5 => ?_) (fun hc5 => ?_)
        · refine xs_iconst (n := 57) (v := (0 : Int32)) dX12_turnAt_56 rfl rfl ?_
          exact xs_gf (xs_end (kj4 ((0 : Int32), u0))) (And.intro rfl (And.intro rfl (And.intro rfl (And.intro rfl trivial))))
        · refine xs_aload_n (n := 31) dX12_turnAt_30 rfl rfl ?_
          refine ys_getr (n := 34) dX12_turnAt_31 rfl fl_X12_17 sh_150 rfl ?_
          refine xs_bipush (n := 36) (v := (6 : Int32)) dX12_turnAt_34 rfl rfl ?_
          refine xs_iload_n (n := 37) dX12_turnAt_36 rfl rfl ?_
          refine xs_imul (n := 38) dX12_turnAt_37 rfl ?_
          refine xs_iload (n := 40) dX12_turnAt_38 rfl rfl ?_
          refine xs_iadd (n := 41) dX12_turnAt_40 rfl ?_
          refine xs_iconst (n := 42) (v := (4 : Int32)) dX12_turnAt_41 rfl rfl ?_
          refine xs_imul (n := 43) dX12_turnAt_42 rfl ?_
          refine xs_aload_n (n := 44) dX12_turnAt_43 rfl rfl ?_
          refine ys_callsl (n := 47) (N := mt_X12_of) dX12_turnAt_44 rfl ok_X12_of tw_1073 st_X12_of ⟨Nat.le_of_ble_eq_true rfl, Nat.le_of_ble_eq_true rfl⟩ [.ref 152, .int ((((6 : Int32) * c2) + l4) * (4 : Int32)), .ref a1] [] rfl rfl (Nat.le_of_ble_eq_true rfl) rfl (Nat.le_of_ble_eq_true rfl) (en_X12_of m 152 120 ((((6 : Int32) * c2) + l4) * (4 : Int32)) a1 sh_152 ha1 u0) (fun q6 => ?_)
          refine xs_lconst (n := 48) (v := (0 : Int64)) dX12_turnAt_47 rfl rfl ?_
          refine xs_lif_lt (n := 52) (pc1 := 49) (tgt := 56) dX12_turnAt_48 rfl dX12_turnAt_49 rfl rfl (fun hc7 => ?_) (fun hc7 => ?_)
          · refine xs_iconst (n := 57) (v := (0 : Int32)) dX12_turnAt_56 rfl rfl ?_
            exact xs_gf (xs_end (kj4 ((0 : Int32), q6.2))) (And.intro rfl (And.intro rfl (And.intro rfl (And.intro rfl trivial))))
          · refine xs_iconst (n := 53) (v := (1 : Int32)) dX12_turnAt_52 rfl rfl ?_
            refine xs_goto (n := 57) dX12_turnAt_53 rfl ?_
            exact xs_gf (xs_end (kj4 ((1 : Int32), q6.2))) (And.intro rfl (And.intro rfl (And.intro rfl (And.intro rfl trivial))))
theorem el_X12_turnAt_2 (m : Nat) (a1 : Nat) (ha1 : xsh_ a1 14 3) (K : (Int32 × xm_Y) ⊕ (Int32 × xm_Y) → Option (Int32 × xm_Y)) (hK : ∀ r, K (.inl r) = some r) (kE : ∀ q : Int32 × xm_Y, xs_ (fun x : Int32 => some (.int x)) sg_0 mt_X12_turnAt 76 [none, none, none, none, none] [] q.2 0 0 (K (.inr q))) : ∀ (n : Nat) (l2 : Int32) (u0 : xm_Y), xs_ (fun x : Int32 => some (.int x)) sg_0 mt_X12_turnAt 2 [some (.ref 150), some (.ref a1), some (.int l2), none, none] [] u0 0 0 ((lp_X12_turnAt_2 m a1 n l2 u0).bind K) := by
  intro n
  induction n with
  | zero =>
    intro l2 u0
    exact xs_none
  | succ n ih =>
    intro l2 u0
    rw [lp_X12_turnAt_2]
    refine xs_iload_n (n := 3) dX12_turnAt_2 rfl rfl ?_
    refine xs_aload_n (n := 4) dX12_turnAt_3 rfl rfl ?_
    refine ys_geti (n := 7) dX12_turnAt_4 rfl fl_X12_135 (Or.inl rfl) sh_150 ?_
    refine xs_icmp_ge (n := 10) (tgt := 76) dX12_turnAt_7 rfl rfl (fun hc1 => ?_) (fun hc1 => ?_)
    · exact xs_gf (xs_end (kE (l2, u0))) trivial
    · refine xs_iconst (n := 11) (v := (1 : Int32)) dX12_turnAt_10 rfl rfl ?_
      refine xs_istore_n (n := 12) (lv' := [some (.ref 150), some (.ref a1), some (.int l2), some (.int (1 : Int32)), none]) dX12_turnAt_11 rfl (Nat.le_of_ble_eq_true rfl) rfl ?_
      refine xs_iconst (n := 13) (v := (0 : Int32)) dX12_turnAt_12 rfl rfl ?_
      refine xs_istore (n := 15) (lv' := [some (.ref 150), some (.ref a1), some (.int l2), some (.int (1 : Int32)), some (.int (0 : Int32))]) dX12_turnAt_13 rfl (Nat.le_of_ble_eq_true rfl) rfl ?_
      refine xs_reg ?_
      refine xs_fg (lv' := [some (.ref 150), some (.ref a1), some (.int l2), some (.int (1 : Int32)), some (.int (0 : Int32))]) (And.intro rfl (And.intro rfl (And.intro rfl (And.intro rfl (And.intro rfl trivial))))) ?_
      refine el_X12_turnAt_15 m a1 l2 ha1 _ (fun q9 => ?_) m (1 : Int32) (0 : Int32) u0
      refine xs_iload_n (n := 65) dX12_turnAt_64 rfl rfl ?_
      refine xs_if_eq (n := 68) (tgt := 70) dX12_turnAt_65 rfl rfl (fun hc10 => ?_) (fun hc10 => ?_)
      · refine xs_iincl (n := 73) (dv := (1 : Int32)) (fun v11 => [some (.ref 150), some (.ref a1), some (.int v11), some (.int q9.1), none]) dX12_turnAt_70 rfl rfl rfl (Nat.le_of_ble_eq_true rfl) (fun _ => rfl) (fun v11 => ?_)
        refine xs_goto (n := 2) dX12_turnAt_73 rfl ?_
        exact xs_gf (ih v11 q9.2.2) (And.intro rfl (And.intro rfl (And.intro rfl trivial)))
      · refine xs_iload_n (n := 69) dX12_turnAt_68 rfl rfl ?_
        exact xs_iret dX12_turnAt_69 rfl (hK _)
theorem en_X12_turnAt (m : Nat) (p : Nat) (hp_ : xsh_ p 14 3) (u0 : xm_Y) : xs_ (fun x : Int32 => some (.int x)) sg_0 mt_X12_turnAt 0 [some (.ref 150), some (.ref p), none, none, none] [] u0 0 0 (fn_X12_turnAt m p u0) := by
  refine xs_top ?_
  rw [fn_X12_turnAt]
  refine xs_iconst (n := 1) (v := (0 : Int32)) dX12_turnAt_0 rfl rfl ?_
  refine xs_istore_n (n := 2) (lv' := [some (.ref 150), some (.ref p), some (.int (0 : Int32)), none, none]) dX12_turnAt_1 rfl (Nat.le_of_ble_eq_true rfl) rfl ?_
  refine xs_reg ?_
  refine xs_fg (lv' := [some (.ref 150), some (.ref p), some (.int (0 : Int32)), none, none]) (And.intro rfl (And.intro rfl (And.intro rfl trivial))) ?_
  refine el_X12_turnAt_2 m p hp_ _ (fun _ => rfl) (fun q12 => ?_) m (0 : Int32) u0
  refine xs_inr ?_
  refine xs_iconst (n := 77) (v := (-1 : Int32)) dX12_turnAt_76 rfl rfl ?_
  exact xs_iret dX12_turnAt_77 rfl rfl
