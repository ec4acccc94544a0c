def lp_X5_seekRow_14 (m : Nat) : Nat → Int32 → xm_Y → Option ((Int32 × xm_Y) ⊕ (Int32 × xm_Y))
  | 0, _, _ => none
  | n + 1, l3, u0 =>
  if (4000 : Int32) ≤ l3 then (
  some (.inr (l3, u0))) else (
  ((fn_X10_next m u0).bind fun q3 =>
  if q3.1 = 0 then (
  some (.inr (l3, q3.2))) else (
  ((fn_X5_isRow m q3.2).bind fun q5 =>
  if q5.1 = 0 then (
  xm_let (α := Int32) (l3 + (1 : Int32)) fun v7 =>
  lp_X5_seekRow_14 m n v7 q5.2) else (
  some (.inl ((1 : Int32), q5.2)))))))
def fn_X5_seekRow (m : Nat) (x0 : Int32) (u0 : xm_Y) : Option (Int32 × xm_Y) :=
  ((fn_X10_start m x0 (u0.1 1 1) u0).bind fun q1 =>
  ((lp_X5_seekRow_14 m m (0 : Int32) q1.2).bind (Sum.elim (fun r => some r) (fun q8 =>
  some ((0 : Int32), q8.2)))))
theorem el_X5_seekRow_14 (m : Nat) (K : (Int32 × xm_Y) ⊕ (Int32 × xm_Y) → Option (Int32 × xm_Y)) (hK : ∀ r, K (.inl r) = some r) (kE : ∀ q : Int32 × xm_Y, xs_ (fun x : Int32 => some (.int x)) sg_0 mt_X5_seekRow 54 [none, none, none, none] [] q.2 0 0 (K (.inr q))) : ∀ (n : Nat) (l3 : Int32) (u0 : xm_Y), xs_ (fun x : Int32 => some (.int x)) sg_0 mt_X5_seekRow 14 [some (.ref 139), some (.ref 1), none, some (.int l3)] [] u0 0 0 ((lp_X5_seekRow_14 m n l3 u0).bind K) := by
  intro n
  induction n with
  | zero =>
    intro l3 u0
    exact xs_none
  | succ n ih =>
    intro l3 u0
    rw [lp_X5_seekRow_14]
    refine xs_iload_n (n := 15) dX5_seekRow_14 rfl rfl ?_
    refine xs_sipush (n := 18) (v := (4000 : Int32)) dX5_seekRow_15 rfl rfl ?_
    refine xs_icmp_ge (n := 21) (tgt := 54) dX5_seekRow_18 rfl rfl (fun hc2 => ?_) (fun hc2 => ?_)
    · exact xs_gf (xs_end (kE (l3, u0))) trivial
    · refine xs_aload_n (n := 22) dX5_seekRow_21 rfl rfl ?_
      refine ys_getr (n := 25) dX5_seekRow_22 rfl fl_X5_12 sh_139 rfl ?_
      refine ys_callvi (n := 28) (N := mt_X10_next) dX5_seekRow_25 rfl ok_X10_next tw_630 im_X10_next se_X10_next ⟨Nat.le_of_ble_eq_true rfl, Nat.le_of_ble_eq_true rfl⟩ [] [] rfl rfl (Nat.le_of_ble_eq_true rfl) rfl (Nat.le_of_ble_eq_true rfl) (en_X10_next m u0) sh_140 (by decide) rfl (fun q3 => ?_)
      refine xs_if_eq (n := 31) (tgt := 54) dX5_seekRow_28 rfl rfl (fun hc4 => ?_) (fun hc4 => ?_)
      · exact xs_gf (xs_end (kE (l3, q3.2))) trivial
      · refine xs_aload_n (n := 32) dX5_seekRow_31 rfl rfl ?_
        refine xs_aload_n (n := 33) dX5_seekRow_32 rfl rfl ?_
        refine xs_aload_n (n := 34) dX5_seekRow_33 rfl rfl ?_
        refine ys_getr (n := 37) dX5_seekRow_34 rfl fl_X5_12 sh_139 rfl ?_
        refine ys_getr (n := 40) dX5_seekRow_37 rfl fl_X5_55 sh_140 rfl ?_
        refine ys_callvi (n := 43) (N := mt_X5_isRow) dX5_seekRow_40 rfl ok_X5_isRow tw_660 im_X5_isRow se_X5_isRow ⟨Nat.le_of_ble_eq_true rfl, Nat.le_of_ble_eq_true rfl⟩ [.ref 1, .ref 141] [] rfl rfl (Nat.le_of_ble_eq_true rfl) rfl (Nat.le_of_ble_eq_true rfl) (en_X5_isRow m q3.2) sh_139 (by decide) rfl (fun q5 => ?_)
        refine xs_if_eq (n := 46) (tgt := 48) dX5_seekRow_43 rfl rfl (fun hc6 => ?_) (fun hc6 => ?_)
        · refine xs_iincl (n := 51) (dv := (1 : Int32)) (fun v7 => [some (.ref 139), some (.ref 1), none, some (.int v7)]) dX5_seekRow_48 rfl rfl rfl (Nat.le_of_ble_eq_true rfl) (fun _ => rfl) (fun v7 => ?_)
          refine xs_goto (n := 14) dX5_seekRow_51 rfl ?_
          exact xs_gf (ih v7 q5.2) (And.intro rfl (And.intro rfl (And.intro rfl trivial)))
        · refine xs_iconst (n := 47) (v := (1 : Int32)) dX5_seekRow_46 rfl rfl ?_
          exact xs_zretc dX5_seekRow_47 rfl (Or.inr rfl) (hK _)
theorem en_X5_seekRow (m : Nat) (x0 : Int32) (u0 : xm_Y) : xs_ (fun x : Int32 => some (.int x)) sg_0 mt_X5_seekRow 0 [some (.ref 139), some (.ref 1), some (.int x0), none] [] u0 0 0 (fn_X5_seekRow m x0 u0) := by
  refine xs_top ?_
  rw [fn_X5_seekRow]
  refine xs_aload_n (n := 1) dX5_seekRow_0 rfl rfl ?_
  refine ys_getr (n := 4) dX5_seekRow_1 rfl fl_X5_12 sh_139 rfl ?_
  refine xs_iload_n (n := 5) dX5_seekRow_4 rfl rfl ?_
  refine xs_aload_n (n := 6) dX5_seekRow_5 rfl rfl ?_
  refine ys_geti (n := 9) dX5_seekRow_6 rfl fl_X5_42 (Or.inl rfl) sh_1 ?_
  refine ys_callvv (n := 12) (N := mt_X10_start) dX5_seekRow_9 rfl ok_X10_start tw_626 im_X10_start se_X10_start ⟨Nat.le_of_ble_eq_true rfl, Nat.le_of_ble_eq_true rfl⟩ [.int x0, .int (u0.1 1 1)] [] rfl rfl (Nat.le_of_ble_eq_true rfl) rfl (Nat.le_of_ble_eq_true rfl) (en_X10_start m x0 (u0.1 1 1) u0) sh_140 (by decide) rfl (fun q1 => ?_)
  refine xs_iconst (n := 13) (v := (0 : Int32)) dX5_seekRow_12 rfl rfl ?_
  refine xs_istore_n (n := 14) (lv' := [some (.ref 139), some (.ref 1), some (.int x0), some (.int (0 : Int32))]) dX5_seekRow_13 rfl (Nat.le_of_ble_eq_true rfl) rfl ?_
  refine xs_reg ?_
  refine xs_fg (lv' := [some (.ref 139), some (.ref 1), none, some (.int (0 : Int32))]) (And.intro rfl (And.intro rfl (And.intro rfl trivial))) ?_
  refine el_X5_seekRow_14 m _ (fun _ => rfl) (fun q8 => ?_) m (0 : Int32) q1.2
  refine xs_inr ?_
  refine xs_iconst (n := 55) (v := (0 : Int32)) dX5_seekRow_54 rfl rfl ?_
  exact xs_zretc dX5_seekRow_55 rfl (Or.inl rfl) rfl
def lp_X5_release_5 (m : Nat) (c2 : Int32) : Nat → Int32 → Int32 → xm_Y → Option (Int32 × Int32 × xm_Y)
  | 0, _, _, _ => none
  | n + 1, l3, l4, u0 =>
  if (u0.1 1 2) ≤ l4 then (
  some (l3, l4, u0)) else (
  xm_chk (xm_in l4 5) (
  ((if (u0.1 143 (Int32.toNatClampNeg l4)) = (-1 : Int32) then (
  xm_chk (xm_in l4 5) (
  ((fn_X1_ranksBy m (Int32.toNatClampNeg l4) 141 u0).bind fun q6 =>
  if q6.1 = 0 then (
  some (l3, q6.2)) else (
  xm_chk (xm_in l4 5) (xm_let (w_I q6.2 143 (Int32.toNatClampNeg l4) c2) fun u8 =>
  xm_let (α := Int32) (l3 + (1 : Int32)) fun v9 =>
  some (v9, u8)))))) else (
  some (l3, u0)) : Option (Int32 × xm_Y)).bind fun q2 =>
  xm_let (α := Int32) (l4 + (1 : Int32)) fun v10 =>
  lp_X5_release_5 m c2 n q2.1 v10 q2.2)))
def fn_X5_release (m : Nat) (x0 : Int32) (u0 : xm_Y) : Option (Int32 × xm_Y) :=
  ((lp_X5_release_5 m x0 m (0 : Int32) (0 : Int32) u0).bind fun q11 =>
  some (q11.1, q11.2.2))
theorem el_X5_release_5 (m : Nat) (c2 : Int32) (K : Int32 × Int32 × xm_Y → Option (Int32 × xm_Y)) (kE : ∀ q : Int32 × Int32 × xm_Y, xs_ (fun x : Int32 => some (.int x)) sg_0 mt_X5_release 62 [none, none, none, some (.int q.1), none] [] q.2.2 0 0 (K q)) : ∀ (n : Nat) (l3 : Int32) (l4 : Int32) (u0 : xm_Y), xs_ (fun x : Int32 => some (.int x)) sg_0 mt_X5_release 5 [some (.ref 139), some (.ref 1), some (.int c2), some (.int l3), some (.int l4)] [] u0 0 0 ((lp_X5_release_5 m c2 n l3 l4 u0).bind K) := by
  intro n
  induction n with
  | zero =>
    intro l3 l4 u0
    exact xs_none
  | succ n ih =>
    intro l3 l4 u0
    rw [lp_X5_release_5]
    refine xs_iload (n := 7) dX5_release_5 rfl rfl ?_
    refine xs_aload_n (n := 8) dX5_release_7 rfl rfl ?_
    refine ys_geti (n := 11) dX5_release_8 rfl fl_X5_80 (Or.inl rfl) sh_1 ?_
    refine xs_icmp_ge (n := 14) (tgt := 62) dX5_release_11 rfl rfl (fun hc1 => ?_) (fun hc1 => ?_)
    · exact xs_gf (xs_end (kE (l3, l4, u0))) (And.intro rfl trivial)
    · refine xs_aload_n (n := 15) dX5_release_14 rfl rfl ?_
      refine ys_getr (n := 18) dX5_release_15 rfl fl_X5_22 sh_139 rfl ?_
      refine xs_iload (n := 20) dX5_release_18 rfl rfl ?_
      refine ys_iaload (n := 21) dX5_release_20 rfl sh_143 ?_
      refine xs_iconst (n := 22) (v := (-1 : Int32)) dX5_release_21 rfl rfl ?_
      refine xs_join 56 (fun q2 => [some (.ref 139), some (.ref 1), some (.int c2), some (.int q2.1), some (.int l4)]) (fun q2 => []) (fun q2 => q2.2) (fun q2 => ?_) (fun kj3 => ?_)
      · refine xs_iincl (n := 59) (dv := (1 : Int32)) (fun v10 => [some (.ref 139), some (.ref 1), some (.int c2), some (.int q2.1), some (.int v10)]) dX5_release_56 rfl rfl rfl (Nat.le_of_ble_eq_true rfl) (fun _ => rfl) (fun v10 => ?_)
        refine xs_goto (n := 5) dX5_release_59 rfl ?_
        exact xs_gf (ih q2.1 v10 q2.2) (And.intro rfl (And.intro rfl (And.intro rfl (And.intro rfl (And.intro rfl trivial)))))
      · refine xs_icmp_ne (n := 25) (tgt := 56) dX5_release_22 rfl rfl (fun hc4 => ?_) (fun hc4 => ?_)
        · refine xs_aload_n (n := 26) dX5_release_25 rfl rfl ?_
          refine ys_getr (n := 29) dX5_release_26 rfl fl_X5_93 sh_1 rfl ?_
          refine xs_iload (n := 31) dX5_release_29 rfl rfl ?_
          refine ys_aaload17 (n := 32) dX5_release_31 rfl sh_2 (fun hi5 => pb_r (xin_n hi5)) (fun hi5 => ?_)
          refine xs_aload_n (n := 33) dX5_release_32 rfl rfl ?_
          refine ys_getr (n := 36) dX5_release_33 rfl fl_X5_12 sh_139 rfl ?_
          refine ys_getr (n := 39) dX5_release_36 rfl fl_X5_55 sh_140 rfl ?_
          refine ys_callvi (n := 42) (N := mt_X1_ranksBy) dX5_release_39 rfl ok_X1_ranksBy tw_665 im_X1_ranksBy se_X1_ranksBy ⟨Nat.le_of_ble_eq_true rfl, Nat.le_of_ble_eq_true rfl⟩ [.ref 141] [] rfl rfl (Nat.le_of_ble_eq_true rfl) rfl (Nat.le_of_ble_eq_true rfl) (en_X1_ranksBy m (Int32.toNatClampNeg l4) 141 (xin_n hi5) sh_141 u0) (bd_s (xin_n hi5)) (by decide) rfl (fun q6 => ?_)
          refine xs_if_eq (n := 45) (tgt := 56) dX5_release_42 rfl rfl (fun hc7 => ?_) (fun hc7 => ?_)
          · exact xs_gf (xs_end (kj3 (l3, q6.2))) (And.intro rfl (And.intro rfl (And.intro rfl (And.intro rfl (And.intro rfl trivial)))))
          · refine xs_aload_n (n := 46) dX5_release_45 rfl rfl ?_
            refine ys_getr (n := 49) dX5_release_46 rfl fl_X5_22 sh_139 rfl ?_
            refine xs_iload (n := 51) dX5_release_49 rfl rfl ?_
            refine xs_iload_n (n := 52) dX5_release_51 rfl rfl ?_
            refine ys_iastore (n := 53) dX5_release_52 rfl sh_143 (fun u8 => ?_)
            refine xs_iincl (n := 56) (dv := (1 : Int32)) (fun v9 => [some (.ref 139), some (.ref 1), some (.int c2), some (.int v9), some (.int l4)]) dX5_release_53 rfl rfl rfl (Nat.le_of_ble_eq_true rfl) (fun _ => rfl) (fun v9 => ?_)
            exact xs_gf (xs_end (kj3 (v9, u8))) (And.intro rfl (And.intro rfl (And.intro rfl (And.intro rfl (And.intro rfl trivial)))))
        · exact xs_gf (xs_end (kj3 (l3, u0))) (And.intro rfl (And.intro rfl (And.intro rfl (And.intro rfl (And.intro rfl trivial)))))
theorem en_X5_release (m : Nat) (x0 : Int32) (u0 : xm_Y) : xs_ (fun x : Int32 => some (.int x)) sg_0 mt_X5_release 0 [some (.ref 139), some (.ref 1), some (.int x0), none, none] [] u0 0 0 (fn_X5_release m x0 u0) := by
  refine xs_top ?_
  rw [fn_X5_release]
  refine xs_iconst (n := 1) (v := (0 : Int32)) dX5_release_0 rfl rfl ?_
  refine xs_istore_n (n := 2) (lv' := [some (.ref 139), some (.ref 1), some (.int x0), some (.int (0 : Int32)), none]) dX5_release_1 rfl (Nat.le_of_ble_eq_true rfl) rfl ?_
  refine xs_iconst (n := 3) (v := (0 : Int32)) dX5_release_2 rfl rfl ?_
  refine xs_istore (n := 5) (lv' := [some (.ref 139), some (.ref 1), some (.int x0), some (.int (0 : Int32)), some (.int (0 : Int32))]) dX5_release_3 rfl (Nat.le_of_ble_eq_true rfl) rfl ?_
  refine xs_reg ?_
  refine xs_fg (lv' := [some (.ref 139), some (.ref 1), some (.int x0), some (.int (0 : Int32)), some (.int (0 : Int32))]) (And.intro rfl (And.intro rfl (And.intro rfl (And.intro rfl (And.intro rfl trivial))))) ?_
  refine el_X5_release_5 m x0 _ (fun q11 => ?_) m (0 : Int32) (0 : Int32) u0
  refine xs_iload_n (n := 63) dX5_release_62 rfl rfl ?_
  exact xs_iret dX5_release_63 rfl rfl
def lp_X5_seekRows_16 (m : Nat) (c2 : Int32) : Nat → Int32 → Int32 → xm_Y → Option (Int32 × Int32 × xm_Y)
  | 0, _, _, _ => none
  | n + 1, l3, l4, u0 =>
  if l3 ≤ 0 then (
  some (l3, l4, u0)) else (
  if (5 : Int32) ≤ l4 then (
  some (l3, l4, u0)) else (
  ((fn_X5_seekRow m c2 u0).bind fun q5 =>
  if q5.1 = 0 then (
  some (l3, l4, q5.2)) else (
  ((fn_X5_keep m l4 q5.2).bind fun q7 =>
  ((fn_X5_release m l4 q7.2).bind fun q8 =>
  xm_let (α := Int32) ((l3 - q8.1)) fun v9 =>
  xm_let (α := Int32) (l4 + (1 : Int32)) fun v10 =>
  lp_X5_seekRows_16 m c2 n v9 v10 q8.2))))))
def fn_X5_seekRows (m : Nat) (x0 : Int32) (u0 : xm_Y) : Option (Int32 × xm_Y) :=
  ((fn_J7_fill_53178 m 143 5 (-1 : Int32) u0).bind fun q1 =>
  xm_let (α := Int32) ((q1.2.1 1 2)) fun v2 =>
  ((lp_X5_seekRows_16 m x0 m v2 (0 : Int32) q1.2).bind fun q11 =>
  ((if q11.2.1 ≤ 0 then (
  some (q11.2.2)) else (
  xm_let (w_I q11.2.2 139 2 q11.2.1) fun u15 =>
  some (u15)) : Option (xm_Y)).bind fun q12 =>
  ((if q11.1 = 0 then (
  some (q11.2.1)) else (
  some ((-3 : Int32))) : Option (Int32)).bind fun q16 =>
  some (q16, q12)))))
theorem el_X5_seekRows_16 (m : Nat) (c2 : Int32) (K : Int32 × Int32 × xm_Y → Option (Int32 × xm_Y)) (kE : ∀ q : Int32 × Int32 × xm_Y, xs_ (fun x : Int32 => some (.int x)) sg_0 mt_X5_seekRows 57 [some (.ref 139), none, none, some (.int q.1), some (.int q.2.1)] [] q.2.2 0 0 (K q)) : ∀ (n : Nat) (l3 : Int32) (l4 : Int32) (u0 : xm_Y), xs_ (fun x : Int32 => some (.int x)) sg_0 mt_X5_seekRows 16 [some (.ref 139), some (.ref 1), some (.int c2), some (.int l3), some (.int l4)] [] u0 0 0 ((lp_X5_seekRows_16 m c2 n l3 l4 u0).bind K) := by
  intro n
  induction n with
  | zero =>
    intro l3 l4 u0
    exact xs_none
  | succ n ih =>
    intro l3 l4 u0
    rw [lp_X5_seekRows_16]
    refine xs_iload_n (n := 17) dX5_seekRows_16 rfl rfl ?_
    refine xs_if_le (n := 20) (tgt := 57) dX5_seekRows_17 rfl rfl (fun hc3 => ?_) (fun hc3 => ?_)
    · exact xs_gf (xs_end (kE (l3, l4, u0))) (And.intro rfl (And.intro rfl (And.intro rfl trivial)))
    · refine xs_iload (n := 22) dX5_seekRows_20 rfl rfl ?_
      refine xs_iconst (n := 23) (v := (5 : Int32)) dX5_seekRows_22 rfl rfl ?_
      refine xs_icmp_ge (n := 26) (tgt := 57) dX5_seekRows_23 rfl rfl (fun hc4 => ?_) (fun hc4 => ?_)
      · exact xs_gf (xs_end (kE (l3, l4, u0))) (And.intro rfl (And.intro rfl (And.intro rfl trivial)))
      · refine xs_aload_n (n := 27) dX5_seekRows_26 rfl rfl ?_
        refine xs_aload_n (n := 28) dX5_seekRows_27 rfl rfl ?_
        refine xs_iload_n (n := 29) dX5_seekRows_28 rfl rfl ?_
        refine ys_callvi (n := 32) (N := mt_X5_seekRow) dX5_seekRows_29 rfl ok_X5_seekRow tw_656 im_X5_seekRow se_X5_seekRow ⟨Nat.le_of_ble_eq_true rfl, Nat.le_of_ble_eq_true rfl⟩ [.ref 1, .int c2] [] rfl rfl (Nat.le_of_ble_eq_true rfl) rfl (Nat.le_of_ble_eq_true rfl) (en_X5_seekRow m c2 u0) sh_139 (by decide) rfl (fun q5 => ?_)
        refine xs_if_eq (n := 35) (tgt := 57) dX5_seekRows_32 rfl rfl (fun hc6 => ?_) (fun hc6 => ?_)
        · exact xs_gf (xs_end (kE (l3, l4, q5.2))) (And.intro rfl (And.intro rfl (And.intro rfl trivial)))
        · refine xs_aload_n (n := 36) dX5_seekRows_35 rfl rfl ?_
          refine xs_iload (n := 38) dX5_seekRows_36 rfl rfl ?_
          refine ys_callvv (n := 41) (N := mt_X5_keep) dX5_seekRows_38 rfl ok_X5_keep tw_644 im_X5_keep se_X5_keep ⟨Nat.le_of_ble_eq_true rfl, Nat.le_of_ble_eq_true rfl⟩ [.int l4] [] rfl rfl (Nat.le_of_ble_eq_true rfl) rfl (Nat.le_of_ble_eq_true rfl) (en_X5_keep m l4 q5.2) sh_139 (by decide) rfl (fun q7 => ?_)
          refine xs_iload_n (n := 42) dX5_seekRows_41 rfl rfl ?_
          refine xs_aload_n (n := 43) dX5_seekRows_42 rfl rfl ?_
          refine xs_aload_n (n := 44) dX5_seekRows_43 rfl rfl ?_
          refine xs_iload (n := 46) dX5_seekRows_44 rfl rfl ?_
          refine ys_callvi (n := 49) (N := mt_X5_release) dX5_seekRows_46 rfl ok_X5_release tw_666 im_X5_release se_X5_release ⟨Nat.le_of_ble_eq_true rfl, Nat.le_of_ble_eq_true rfl⟩ [.ref 1, .int l4] [.int l3] rfl rfl (Nat.le_of_ble_eq_true rfl) rfl (Nat.le_of_ble_eq_true rfl) (en_X5_release m l4 q7.2) sh_139 (by decide) rfl (fun q8 => ?_)
          refine xs_isub (n := 50) dX5_seekRows_49 rfl ?_
          refine xs_leti (fun v9 => ?_)
          refine xs_istore_n (n := 51) (lv' := [some (.ref 139), some (.ref 1), some (.int c2), some (.int v9), some (.int l4)]) dX5_seekRows_50 rfl (Nat.le_of_ble_eq_true rfl) rfl ?_
          refine xs_iincl (n := 54) (dv := (1 : Int32)) (fun v10 => [some (.ref 139), some (.ref 1), some (.int c2), some (.int v9), some (.int v10)]) dX5_seekRows_51 rfl rfl rfl (Nat.le_of_ble_eq_true rfl) (fun _ => rfl) (fun v10 => ?_)
          refine xs_goto (n := 16) dX5_seekRows_54 rfl ?_
          exact xs_gf (ih v9 v10 q8.2) (And.intro rfl (And.intro rfl (And.intro rfl (And.intro rfl (And.intro rfl trivial)))))
theorem en_X5_seekRows (m : Nat) (x0 : Int32) (u0 : xm_Y) : xs_ (fun x : Int32 => some (.int x)) sg_0 mt_X5_seekRows 0 [some (.ref 139), some (.ref 1), some (.int x0), none, none] [] u0 0 0 (fn_X5_seekRows m x0 u0) := by
  refine xs_top ?_
  rw [fn_X5_seekRows]
  refine xs_aload_n (n := 1) dX5_seekRows_0 rfl rfl ?_
  refine ys_getr (n := 4) dX5_seekRows_1 rfl fl_X5_22 sh_139 rfl ?_
  refine xs_iconst (n := 5) (v := (-1 : Int32)) dX5_seekRows_4 rfl rfl ?_
  refine ys_callsv (n := 8) (N := mt_J7_fill_53178) dX5_seekRows_5 rfl ok_J7_fill_53178 tw_216 st_J7_fill_53178 ⟨Nat.le_of_ble_eq_true rfl, Nat.le_of_ble_eq_true rfl⟩ [.ref 143, .int (-1 : Int32)] [] rfl rfl (Nat.le_of_ble_eq_true rfl) rfl (Nat.le_of_ble_eq_true rfl) (en_J7_fill_53178 m 143 5 (-1 : Int32) sh_143 u0) (fun q1 => ?_)
  refine xs_aload_n (n := 9) dX5_seekRows_8 rfl rfl ?_
  refine ys_geti (n := 12) dX5_seekRows_9 rfl fl_X5_80 (Or.inl rfl) sh_1 ?_
  refine xs_leti (fun v2 => ?_)
  refine xs_istore_n (n := 13) (lv' := [some (.ref 139), some (.ref 1), some (.int x0), some (.int v2), none]) dX5_seekRows_12 rfl (Nat.le_of_ble_eq_true rfl) rfl ?_
  refine xs_iconst (n := 14) (v := (0 : Int32)) dX5_seekRows_13 rfl rfl ?_
  refine xs_istore (n := 16) (lv' := [some (.ref 139), some (.ref 1), some (.int x0), some (.int v2), some (.int (0 : Int32))]) dX5_seekRows_14 rfl (Nat.le_of_ble_eq_true rfl) rfl ?_
  refine xs_reg ?_
  refine xs_fg (lv' := [some (.ref 139), some (.ref 1), some (.int x0), some (.int v2), some (.int (0 : Int32))]) (And.intro rfl (And.intro rfl (And.intro rfl (And.intro rfl (And.intro rfl trivial))))) ?_
  refine el_X5_seekRows_16 m x0 _ (fun q11 => ?_) m v2 (0 : Int32) q1.2
  refine xs_iload (n := 59) dX5_seekRows_57 rfl rfl ?_
  refine xs_join 68 (fun q12 => [none, none, none, some (.int q11.1), some (.int q11.2.1)]) (fun q12 => []) (fun q12 => q12) (fun q12 => ?_) (fun kj13 => ?_)
  · refine xs_iload_n (n := 69) dX5_seekRows_68 rfl rfl ?_
    refine xs_join 79 (fun q16 => [none, none, none, none, none]) (fun q16 => [.int q16]) (fun q16 => q12) (fun q16 => ?_) (fun kj17 => ?_)
    · exact xs_iret dX5_seekRows_79 rfl rfl
    · refine xs_if_ne (n := 72) (tgt := 77) dX5_seekRows_69 rfl rfl (fun hc18 => ?_) (fun hc18 => ?_)
      · refine xs_iload (n := 74) dX5_seekRows_72 rfl rfl ?_
        refine xs_goto (n := 79) dX5_seekRows_74 rfl ?_
        exact xs_gf (xs_end (kj17 (q11.2.1))) trivial
      · refine xs_bipush (n := 79) (v := (-3 : Int32)) dX5_seekRows_77 rfl rfl ?_
        exact xs_gf (xs_end (kj17 ((-3 : Int32)))) trivial
  · refine xs_if_le (n := 62) (tgt := 68) dX5_seekRows_59 rfl rfl (fun hc14 => ?_) (fun hc14 => ?_)
    · exact xs_gf (xs_end (kj13 (q11.2.2))) (And.intro rfl (And.intro rfl trivial))
    · refine xs_aload_n (n := 63) dX5_seekRows_62 rfl rfl ?_
      refine xs_iload (n := 65) dX5_seekRows_63 rfl rfl ?_
      refine ys_puti (n := 68) dX5_seekRows_65 rfl fl_X5_34 rfl sh_139 (fun u15 => ?_)
      exact xs_gf (xs_end (kj13 (u15))) (And.intro rfl (And.intro rfl trivial))
def fn_X11_rows (m : Nat) (x0 : Int32) (u0 : xm_Y) : Option (Int32 × xm_Y) :=
  ((fn_X11_isSize m x0 u0).bind fun q1 =>
  if q1.1 = 0 then (
  some ((-1 : Int32), q1.2)) else (
  ((fn_X11_learnPlaces m q1.2).bind fun q3 =>
  ((fn_X5_seekRows m x0 q3.2).bind fun q4 =>
  some (q4.1, q4.2)))))
theorem en_X11_rows (m : Nat) (x0 : Int32) (u0 : xm_Y) : xs_ (fun x : Int32 => some (.int x)) sg_0 mt_X11_rows 0 [some (.ref 0), some (.int x0)] [] u0 0 0 (fn_X11_rows m x0 u0) := by
  refine xs_top ?_
  rw [fn_X11_rows]
  refine xs_iload_n (n := 1) dX11_rows_0 rfl rfl ?_
  refine ys_callsi (n := 4) (N := mt_X11_isSize) dX11_rows_1 rfl ok_X11_isSize tw_619 st_X11_isSize ⟨Nat.le_of_ble_eq_true rfl, Nat.le_of_ble_eq_true rfl⟩ [.int x0] [] rfl rfl (Nat.le_of_ble_eq_true rfl) rfl (Nat.le_of_ble_eq_true rfl) (en_X11_isSize m x0 u0) (fun q1 => ?_)
  refine xs_if_ne (n := 7) (tgt := 9) dX11_rows_4 rfl rfl (fun hc2 => ?_) (fun hc2 => ?_)
  · refine xs_iconst (n := 8) (v := (-1 : Int32)) dX11_rows_7 rfl rfl ?_
    exact xs_iret dX11_rows_8 rfl rfl
  · refine xs_aload_n (n := 10) dX11_rows_9 rfl rfl ?_
    refine ys_callvv (n := 13) (N := mt_X11_learnPlaces) dX11_rows_10 rfl ok_X11_learnPlaces tw_487 im_X11_learnPlaces se_X11_learnPlaces ⟨Nat.le_of_ble_eq_true rfl, Nat.le_of_ble_eq_true rfl⟩ [] [] rfl rfl (Nat.le_of_ble_eq_true rfl) rfl (Nat.le_of_ble_eq_true rfl) (en_X11_learnPlaces m q1.2) sh_0 (by decide) rfl (fun q3 => ?_)
    refine xs_aload_n (n := 14) dX11_rows_13 rfl rfl ?_
    refine ys_getr (n := 17) dX11_rows_14 rfl fl_X11_54 sh_0 rfl ?_
    refine xs_aload_n (n := 18) dX11_rows_17 rfl rfl ?_
    refine ys_getr (n := 21) dX11_rows_18 rfl fl_X11_10 sh_0 rfl ?_
    refine xs_iload_n (n := 22) dX11_rows_21 rfl rfl ?_
    refine ys_callvi (n := 25) (N := mt_X5_seekRows) dX11_rows_22 rfl ok_X5_seekRows tw_652 im_X5_seekRows se_X5_seekRows ⟨Nat.le_of_ble_eq_true rfl, Nat.le_of_ble_eq_true rfl⟩ [.ref 1, .int x0] [] rfl rfl (Nat.le_of_ble_eq_true rfl) rfl (Nat.le_of_ble_eq_true rfl) (en_X5_seekRows m x0 q3.2) sh_139 (by decide) rfl (fun q4 => ?_)
    exact xs_iret dX11_rows_25 rfl rfl
def fn_X5_weightOf (m : Nat) (x0 : Int32) (x1 : Int32) (u0 : xm_Y) : Option (Int32 × xm_Y) :=
  if x0 < 0 then (
  some ((-1000 : Int32), u0)) else (
  if (u0.1 139 2) ≤ x0 then (
  some ((-1000 : Int32), u0)) else (
  if x1 < 0 then (
  some ((-1000 : Int32), u0)) else (
  if x1 < (3 : Int32) then (
  xm_chk (xm_in (((3 : Int32) * x0) + x1) 15) (
  some ((u0.1 142 (Int32.toNatClampNeg (((3 : Int32) * x0) + x1))), u0))) else (
  some ((-1000 : Int32), u0)))))
theorem en_X5_weightOf (m : Nat) (x0 : Int32) (x1 : Int32) (u0 : xm_Y) : xs_ (fun x : Int32 => some (.int x)) sg_0 mt_X5_weightOf 0 [some (.ref 139), some (.int x0), some (.int x1)] [] u0 0 0 (fn_X5_weightOf m x0 x1 u0) := by
  refine xs_top ?_
  rw [fn_X5_weightOf]
  refine xs_iload_n (n := 1) dX5_weightOf_0 rfl rfl ?_
  refine xs_if_lt (n := 4) (tgt := 21) dX5_weightOf_1 rfl rfl (fun hc1 => ?_) (fun hc1 => ?_)
  · refine xs_sipush (n := 24) (v := (-1000 : Int32)) dX5_weightOf_21 rfl rfl ?_
    exact xs_iret dX5_weightOf_24 rfl rfl
  · refine xs_iload_n (n := 5) dX5_weightOf_4 rfl rfl ?_
    refine xs_aload_n (n := 6) dX5_weightOf_5 rfl rfl ?_
    refine ys_geti (n := 9) dX5_weightOf_6 rfl fl_X5_34 (Or.inl rfl) sh_139 ?_
    refine xs_icmp_ge (n := 12) (tgt := 21) dX5_weightOf_9 rfl rfl (fun hc2 => ?_) (fun hc2 => ?_)
    · refine xs_sipush (n := 24) (v := (-1000 : Int32)) dX5_weightOf_21 rfl rfl ?_
      exact xs_iret dX5_weightOf_24 rfl rfl
    · refine xs_iload_n (n := 13) dX5_weightOf_12 rfl rfl ?_
      refine xs_if_lt (n := 16) (tgt := 21) dX5_weightOf_13 rfl rfl (fun hc3 => ?_) (fun hc3 => ?_)
      · refine xs_sipush (n := 24) (v := (-1000 : Int32)) dX5_weightOf_21 rfl rfl ?_
        exact xs_iret dX5_weightOf_24 rfl rfl
      · refine xs_iload_n (n := 17) dX5_weightOf_16 rfl rfl ?_
        refine xs_iconst (n := 18) (v := (3 : Int32)) dX5_weightOf_17 rfl rfl ?_
        refine xs_icmp_lt (n := 21) (tgt := 25) dX5_weightOf_18 rfl rfl (fun hc4 => ?_) (fun hc4 => ?_)
        · refine xs_aload_n (n := 26) dX5_weightOf_25 rfl rfl ?_
          refine ys_getr (n := 29) dX5_weightOf_26 rfl fl_X5_18 sh_139 rfl ?_
          refine xs_iconst (n := 30) (v := (3 : Int32)) dX5_weightOf_29 rfl rfl ?_
          refine xs_iload_n (n := 31) dX5_weightOf_30 rfl rfl ?_
          refine xs_imul (n := 32) dX5_weightOf_31 rfl ?_
          refine xs_iload_n (n := 33) dX5_weightOf_32 rfl rfl ?_
          refine xs_iadd (n := 34) dX5_weightOf_33 rfl ?_
          refine ys_iaload (n := 35) dX5_weightOf_34 rfl sh_142 ?_
          exact xs_iret dX5_weightOf_35 rfl rfl
        · refine xs_sipush (n := 24) (v := (-1000 : Int32)) dX5_weightOf_21 rfl rfl ?_
          exact xs_iret dX5_weightOf_24 rfl rfl
def fn_X11_found (m : Nat) (x0 : Int32) (x1 : Int32) (u0 : xm_Y) : Option (Int32 × xm_Y) :=
  ((fn_X5_weightOf m x0 x1 u0).bind fun q1 =>
  some (q1.1, q1.2))
theorem en_X11_found (m : Nat) (x0 : Int32) (x1 : Int32) (u0 : xm_Y) : xs_ (fun x : Int32 => some (.int x)) sg_0 mt_X11_found 0 [some (.ref 0), some (.int x0), some (.int x1)] [] u0 0 0 (fn_X11_found m x0 x1 u0) := by
  refine xs_top ?_
  rw [fn_X11_found]
  refine xs_aload_n (n := 1) dX11_found_0 rfl rfl ?_
  refine ys_getr (n := 4) dX11_found_1 rfl fl_X11_54 sh_0 rfl ?_
  refine xs_iload_n (n := 5) dX11_found_4 rfl rfl ?_
  refine xs_iload_n (n := 6) dX11_found_5 rfl rfl ?_
  refine ys_callvi (n := 9) (N := mt_X5_weightOf) dX11_found_6 rfl ok_X5_weightOf tw_674 im_X5_weightOf se_X5_weightOf ⟨Nat.le_of_ble_eq_true rfl, Nat.le_of_ble_eq_true rfl⟩ [.int x0, .int x1] [] rfl rfl (Nat.le_of_ble_eq_true rfl) rfl (Nat.le_of_ble_eq_true rfl) (en_X5_weightOf m x0 x1 u0) sh_139 (by decide) rfl (fun q1 => ?_)
  exact xs_iret dX11_found_9 rfl rfl
def fn_X11_by (m : Nat) (x0 : Int32) (u0 : xm_Y) : Option (Int32 × xm_Y) :=
  ((fn_X7_has m x0 u0).bind fun q1 =>
  ((if q1.1 = 0 then (
  some ((-1 : Int32))) else (
  xm_chk (xm_in x0 5) (
  some ((q1.2.1 143 (Int32.toNatClampNeg x0))))) : Option (Int32)).bind fun q2 =>
  some (q2, q1.2)))
theorem en_X11_by (m : Nat) (x0 : Int32) (u0 : xm_Y) : xs_ (fun x : Int32 => some (.int x)) sg_0 mt_X11_by 0 [some (.ref 0), some (.int x0)] [] u0 0 0 (fn_X11_by m x0 u0) := by
  refine xs_top ?_
  rw [fn_X11_by]
  refine xs_aload_n (n := 1) dX11_by_0 rfl rfl ?_
  refine ys_getr (n := 4) dX11_by_1 rfl fl_X11_10 sh_0 rfl ?_
  refine xs_iload_n (n := 5) dX11_by_4 rfl rfl ?_
  refine ys_callvi (n := 8) (N := mt_X7_has) dX11_by_5 rfl ok_X7_has tw_367 im_X7_has se_X7_has ⟨Nat.le_of_ble_eq_true rfl, Nat.le_of_ble_eq_true rfl⟩ [.int x0] [] rfl rfl (Nat.le_of_ble_eq_true rfl) rfl (Nat.le_of_ble_eq_true rfl) (en_X7_has m x0 u0) sh_1 (by decide) rfl (fun q1 => ?_)
  refine xs_join 24 (fun q2 => [none, none]) (fun q2 => [.int q2]) (fun q2 => q1.2) (fun q2 => ?_) (fun kj3 => ?_)
  · exact xs_iret dX11_by_24 rfl rfl
  · refine xs_if_eq (n := 11) (tgt := 23) dX11_by_8 rfl rfl (fun hc4 => ?_) (fun hc4 => ?_)
    · refine xs_iconst (n := 24) (v := (-1 : Int32)) dX11_by_23 rfl rfl ?_
      exact xs_gf (xs_end (kj3 ((-1 : Int32)))) trivial
    · refine xs_aload_n (n := 12) dX11_by_11 rfl rfl ?_
      refine ys_getr (n := 15) dX11_by_12 rfl fl_X11_54 sh_0 rfl ?_
      refine ys_getr (n := 18) dX11_by_15 rfl fl_X11_205 sh_139 rfl ?_
      refine xs_iload_n (n := 19) dX11_by_18 rfl rfl ?_
      refine ys_iaload (n := 20) dX11_by_19 rfl sh_143 ?_
      refine xs_goto (n := 24) dX11_by_20 rfl ?_
      exact xs_gf (xs_end (kj3 ((q1.2.1 143 (Int32.toNatClampNeg x0))))) trivial
def lp_X2_encloses_2 (m : Nat) (a0 : Nat) (a1 : Nat) : Nat → Int32 → xm_Y → Option ((Int32 × xm_Y) ⊕ (Int32 × xm_Y))
  | 0, _, _ => none
  | n + 1, l2, u0 =>
  if (3 : Int32) ≤ l2 then (
  some (.inr (l2, u0))) else (
  ((fn_X2_end m a0 l2 (0 : Int32) u0).bind fun q2 =>
  ((fn_X2_end m a0 l2 (1 : Int32) q2.2).bind fun q3 =>
  if q2.1 = (-3000000000000 : Int64) then (
  if q3.1 = (-3000000000000 : Int64) then (
  xm_let (α := Int32) (l2 + (1 : Int32)) fun v6 =>
  lp_X2_encloses_2 m a0 a1 n v6 q3.2) else (
  xm_chk (xm_in l2 3) (
  if (q3.2.2 a1 (Int32.toNatClampNeg l2)) ≤ q3.1 then (
  xm_let (α := Int32) (l2 + (1 : Int32)) fun v8 =>
  lp_X2_encloses_2 m a0 a1 n v8 q3.2) else (
  some (.inl ((0 : Int32), q3.2)))))) else (
  xm_chk (xm_in l2 3) (
  if q2.1 ≤ (q3.2.2 a1 (Int32.toNatClampNeg l2)) then (
  if q3.1 = (-3000000000000 : Int64) then (
  xm_let (α := Int32) (l2 + (1 : Int32)) fun v11 =>
  lp_X2_encloses_2 m a0 a1 n v11 q3.2) else (
  xm_chk (xm_in l2 3) (
  if (q3.2.2 a1 (Int32.toNatClampNeg l2)) ≤ q3.1 then (
  xm_let (α := Int32) (l2 + (1 : Int32)) fun v13 =>
  lp_X2_encloses_2 m a0 a1 n v13 q3.2) else (
  some (.inl ((0 : Int32), q3.2)))))) else (
  some (.inl ((0 : Int32), q3.2))))))))
def fn_X2_encloses (m : Nat) (o : Nat) (p : Nat) (u0 : xm_Y) : Option (Int32 × xm_Y) :=
  ((lp_X2_encloses_2 m o p m (0 : Int32) u0).bind (Sum.elim (fun r => some r) (fun q14 =>
  some ((1 : Int32), q14.2))))
theorem el_X2_encloses_2 (m : Nat) (a0 : Nat) (a1 : Nat) (ha0 : bx_ok a0) (ha1 : xsh_ a1 14 3) (K : (Int32 × xm_Y) ⊕ (Int32 × xm_Y) → Option (Int32 × xm_Y)) (hK : ∀ r, K (.inl r) = some r) (kE : ∀ q : Int32 × xm_Y, xs_ (fun x : Int32 => some (.int x)) sg_0 mt_X2_encloses 66 [none, none, none, none, none, none, none] [] q.2 0 0 (K (.inr q))) : ∀ (n : Nat) (l2 : Int32) (u0 : xm_Y), xs_ (fun x : Int32 => some (.int x)) sg_0 mt_X2_encloses 2 [some (.ref a0), some (.ref a1), some (.int l2), none, none, none, none] [] u0 0 0 ((lp_X2_encloses_2 m a0 a1 n l2 u0).bind K) := by
  intro n
  induction n with
  | zero =>
    intro l2 u0
    exact xs_none
  | succ n ih =>
    intro l2 u0
    rw [lp_X2_encloses_2]
    refine xs_iload_n (n := 3) dX2_encloses_2 rfl rfl ?_
    refine xs_iconst (n := 4) (v := (3 : Int32)) dX2_encloses_3 rfl rfl ?_
    refine xs_icmp_ge (n := 7) (tgt := 66) dX2_encloses_4 rfl rfl (fun hc1 => ?_) (fun hc1 => ?_)
    · exact xs_gf (xs_end (kE (l2, u0))) trivial
    · refine xs_aload_n (n := 8) dX2_encloses_7 rfl rfl ?_
      refine xs_iload_n (n := 9) dX2_encloses_8 rfl rfl ?_
      refine xs_iconst (n := 10) (v := (0 : Int32)) dX2_encloses_9 rfl rfl ?_
      refine ys_callvl (n := 13) (N := mt_X2_end) dX2_encloses_10 rfl ok_X2_end tw_691 im_X2_end se_X2_end ⟨Nat.le_of_ble_eq_true rfl, Nat.le_of_ble_eq_true rfl⟩ [.int l2, .int (0 : Int32)] [] rfl rfl (Nat.le_of_ble_eq_true rfl) rfl (Nat.le_of_ble_eq_true rfl) (en_X2_end m a0 l2 (0 : Int32) ha0 u0) ha0.1 (by decide) rfl (fun q2 => ?_)
      refine xs_lstore_n (n := 14) (lv' := [some (.ref a0), some (.ref a1), some (.int l2), some (.long q2.1), none, none, none]) dX2_encloses_13 rfl (Nat.le_of_ble_eq_true rfl) rfl ?_
      refine xs_aload_n (n := 15) dX2_encloses_14 rfl rfl ?_
      refine xs_iload_n (n := 16) dX2_encloses_15 rfl rfl ?_
      refine xs_iconst (n := 17) (v := (1 : Int32)) dX2_encloses_16 rfl rfl ?_
      refine ys_callvl (n := 20) (N := mt_X2_end) dX2_encloses_17 rfl ok_X2_end tw_691 im_X2_end se_X2_end ⟨Nat.le_of_ble_eq_true rfl, Nat.le_of_ble_eq_true rfl⟩ [.int l2, .int (1 : Int32)] [] rfl rfl (Nat.le_of_ble_eq_true rfl) rfl (Nat.le_of_ble_eq_true rfl) (en_X2_end m a0 l2 (1 : Int32) ha0 q2.2) ha0.1 (by decide) rfl (fun q3 => ?_)
      refine xs_lstore (n := 22) (lv' := [some (.ref a0), some (.ref a1), some (.int l2), some (.long q2.1), none, some (.long q3.1), none]) dX2_encloses_20 rfl (Nat.le_of_ble_eq_true rfl) rfl ?_
      refine xs_lload_n (n := 23) dX2_encloses_22 rfl rfl ?_
      refine xs_ldc2 (n := 26) (v := (-3000000000000 : Int64)) dX2_encloses_23 rfl tw_283 ?_
      refine xs_lif_eq (n := 30) (pc1 := 27) (tgt := 40) dX2_encloses_26 rfl dX2_encloses_27 rfl rfl (fun hc4 => ?_) (fun hc4 => ?_)
      · refine xs_lload (n := 42) dX2_encloses_40 rfl rfl ?_
        refine xs_ldc2 (n := 45) (v := (-3000000000000 : Int64)) dX2_encloses_42 rfl tw_283 ?_
        refine xs_lif_eq (n := 49) (pc1 := 46) (tgt := 60) dX2_encloses_45 rfl dX2_encloses_46 rfl rfl (fun hc5 => ?_) (fun hc5 => ?_)
        · refine xs_iincl (n := 63) (dv := (1 : Int32)) (fun v6 => [some (.ref a0), some (.ref a1), some (.int v6), some (.long q2.1), none, some (.long q3.1), none]) dX2_encloses_60 rfl rfl rfl (Nat.le_of_ble_eq_true rfl) (fun _ => rfl) (fun v6 => ?_)
          refine xs_goto (n := 2) dX2_encloses_63 rfl ?_
          exact xs_gf (ih v6 q3.2) (And.intro rfl (And.intro rfl (And.intro rfl trivial)))
        · refine xs_aload_n (n := 50) dX2_encloses_49 rfl rfl ?_
          refine xs_iload_n (n := 51) dX2_encloses_50 rfl rfl ?_
          refine ys_laload (n := 52) dX2_encloses_51 rfl ha1 ?_
          refine xs_lload (n := 54) dX2_encloses_52 rfl rfl ?_
          refine xs_lif_le (n := 58) (pc1 := 55) (tgt := 60) dX2_encloses_54 rfl dX2_encloses_55 rfl rfl (fun hc7 => ?_) (fun hc7 => ?_)
          · refine xs_iincl (n := 63) (dv := (1 : Int32)) (fun v8 => [some (.ref a0), some (.ref a1), some (.int v8), some (.long q2.1), none, some (.long q3.1), none]) dX2_encloses_60 rfl rfl rfl (Nat.le_of_ble_eq_true rfl) (fun _ => rfl) (fun v8 => ?_)
            refine xs_goto (n := 2) dX2_encloses_63 rfl ?_
            exact xs_gf (ih v8 q3.2) (And.intro rfl (And.intro rfl (And.intro rfl trivial)))
          · refine xs_iconst (n := 59) (v := (0 : Int32)) dX2_encloses_58 rfl rfl ?_
            exact xs_zretc dX2_encloses_59 rfl (Or.inl rfl) (hK _)
      · refine xs_aload_n (n := 31) dX2_encloses_30 rfl rfl ?_
        refine xs_iload_n (n := 32) dX2_encloses_31 rfl rfl ?_
        refine ys_laload (n := 33) dX2_encloses_32 rfl ha1 ?_
        refine xs_lload_n (n := 34) dX2_encloses_33 rfl rfl ?_
        refine xs_lif_ge (n := 38) (pc1 := 35) (tgt := 40) dX2_encloses_34 rfl dX2_encloses_35 rfl rfl (fun hc9 => ?_) (fun hc9 => ?_)
        · refine xs_lload (n := 42) dX2_encloses_40 rfl rfl ?_
          refine xs_ldc2 (n := 45) (v := (-3000000000000 : Int64)) dX2_encloses_42 rfl tw_283 ?_
          refine xs_lif_eq (n := 49) (pc1 := 46) (tgt := 60) dX2_encloses_45 rfl dX2_encloses_46 rfl rfl (fun hc10 => ?_) (fun hc10 => ?_)
          · refine xs_iincl (n := 63) (dv := (1 : Int32)) (fun v11 => [some (.ref a0), some (.ref a1), some (.int v11), some (.long q2.1), none, some (.long q3.1), none]) dX2_encloses_60 rfl rfl rfl (Nat.le_of_ble_eq_true rfl) (fun _ => rfl) (fun v11 => ?_)
            refine xs_goto (n := 2) dX2_encloses_63 rfl ?_
            exact xs_gf (ih v11 q3.2) (And.intro rfl (And.intro rfl (And.intro rfl trivial)))
          · refine xs_aload_n (n := 50) dX2_encloses_49 rfl rfl ?_
            refine xs_iload_n (n := 51) dX2_encloses_50 rfl rfl ?_
            refine ys_laload (n := 52) dX2_encloses_51 rfl ha1 ?_
            refine xs_lload (n := 54) dX2_encloses_52 rfl rfl ?_
            refine xs_lif_le (n := 58) (pc1 := 55) (tgt := 60) dX2_encloses_54 rfl dX2_encloses_55 rfl rfl (fun hc12 => ?_) (fun hc12 => ?_)
            · refine xs_iincl (n := 63) (dv := (1 : Int32)) (fun v13 => [some (.ref a0), some (.ref a1), some (.int v13), some (.long q2.1), none, some (.long q3.1), none]) dX2_encloses_60 rfl rfl rfl (Nat.le_of_ble_eq_true rfl) (fun _ => rfl) (fun v13 => ?_)
              refine xs_goto (n := 2) dX2_encloses_63 rfl ?_
              exact xs_gf (ih v13 q3.2) (And.intro rfl (And.intro rfl (And.intro rfl trivial)))
            · refine xs_iconst (n := 59) (v := (0 : Int32)) dX2_encloses_58 rfl rfl ?_
              exact xs_zretc dX2_encloses_59 rfl (Or.inl rfl) (hK _)
        · refine xs_iconst (n := 39) (v := (0 : Int32)) dX2_encloses_38 rfl rfl ?_
          exact xs_zretc dX2_encloses_39 rfl (Or.inl rfl) (hK _)
theorem en_X2_encloses (m : Nat) (o : Nat) (p : Nat) (ho : bx_ok o) (hp_ : xsh_ p 14 3) (u0 : xm_Y) : xs_ (fun x : Int32 => some (.int x)) sg_0 mt_X2_encloses 0 [some (.ref o), some (.ref p), none, none, none, none, none] [] u0 0 0 (fn_X2_encloses m o p u0) := by
  refine xs_top ?_
  rw [fn_X2_encloses]
  refine xs_iconst (n := 1) (v := (0 : Int32)) dX2_encloses_0 rfl rfl ?_
  refine xs_istore_n (n := 2) (lv' := [some (.ref o), some (.ref p), some (.int (0 : Int32)), none, none, none, none]) dX2_encloses_1 rfl (Nat.le_of_ble_eq_true rfl) rfl ?_
  refine xs_reg ?_
  refine xs_fg (lv' := [some (.ref o), some (.ref p), some (.int (0 : Int32)), none, none, none, none]) (And.intro rfl (And.intro rfl (And.intro rfl trivial))) ?_
  refine el_X2_encloses_2 m o p ho hp_ _ (fun _ => rfl) (fun q14 => ?_) m (0 : Int32) u0
  refine xs_inr ?_
  refine xs_iconst (n := 67) (v := (1 : Int32)) dX2_encloses_66 rfl rfl ?_
  exact xs_zretc dX2_encloses_67 rfl (Or.inr rfl) rfl
def fn_X5_rankingAt (m : Nat) (p : Nat) (u0 : xm_Y) : Option (Int64 × xm_Y) :=
  xm_chk (xm_in (0 : Int32) 3) (
  xm_chk (xm_in (0 : Int32) 3) (
  xm_chk (xm_in (1 : Int32) 3) (
  xm_chk (xm_in (1 : Int32) 3) (
  xm_chk (xm_in (2 : Int32) 3) (
  xm_chk (xm_in (2 : Int32) 3) (
  some (((((Int32.toInt64 (u0.1 144 (Int32.toNatClampNeg (0 : Int32)))) * (u0.2 p (Int32.toNatClampNeg (0 : Int32)))) + ((Int32.toInt64 (u0.1 144 (Int32.toNatClampNeg (1 : Int32)))) * (u0.2 p (Int32.toNatClampNeg (1 : Int32))))) + ((Int32.toInt64 (u0.1 144 (Int32.toNatClampNeg (2 : Int32)))) * (u0.2 p (Int32.toNatClampNeg (2 : Int32))))), u0)))))))
theorem en_X5_rankingAt (m : Nat) (p : Nat) (hp_ : xsh_ p 14 3) (u0 : xm_Y) : xs_ (fun x : Int64 => some (.long x)) sg_0 mt_X5_rankingAt 0 [some (.ref 139), some (.ref p)] [] u0 0 0 (fn_X5_rankingAt m p u0) := by
  refine xs_top ?_
  rw [fn_X5_rankingAt]
  refine xs_aload_n (n := 1) dX5_rankingAt_0 rfl rfl ?_
  refine ys_getr (n := 4) dX5_rankingAt_1 rfl fl_X5_25 sh_139 rfl ?_
  refine xs_iconst (n := 5) (v := (0 : Int32)) dX5_rankingAt_4 rfl rfl ?_
  refine ys_iaload (n := 6) dX5_rankingAt_5 rfl sh_144 ?_
  refine xs_i2l (n := 7) dX5_rankingAt_6 rfl ?_
  refine xs_aload_n (n := 8) dX5_rankingAt_7 rfl rfl ?_
  refine xs_iconst (n := 9) (v := (0 : Int32)) dX5_rankingAt_8 rfl rfl ?_
  refine ys_laload (n := 10) dX5_rankingAt_9 rfl hp_ ?_
  refine xs_lmul (n := 11) dX5_rankingAt_10 rfl ?_
  refine xs_aload_n (n := 12) dX5_rankingAt_11 rfl rfl ?_
  refine ys_getr (n := 15) dX5_rankingAt_12 rfl fl_X5_25 sh_139 rfl ?_
  refine xs_iconst (n := 16) (v := (1 : Int32)) dX5_rankingAt_15 rfl rfl ?_
  refine ys_iaload (n := 17) dX5_rankingAt_16 rfl sh_144 ?_
  refine xs_i2l (n := 18) dX5_rankingAt_17 rfl ?_
  refine xs_aload_n (n := 19) dX5_rankingAt_18 rfl rfl ?_
  refine xs_iconst (n := 20) (v := (1 : Int32)) dX5_rankingAt_19 rfl rfl ?_
  refine ys_laload (n := 21) dX5_rankingAt_20 rfl hp_ ?_
  refine xs_lmul (n := 22) dX5_rankingAt_21 rfl ?_
  refine xs_ladd (n := 23) dX5_rankingAt_22 rfl ?_
  refine xs_aload_n (n := 24) dX5_rankingAt_23 rfl rfl ?_
  refine ys_getr (n := 27) dX5_rankingAt_24 rfl fl_X5_25 sh_139 rfl ?_
  refine xs_iconst (n := 28) (v := (2 : Int32)) dX5_rankingAt_27 rfl rfl ?_
  refine ys_iaload (n := 29) dX5_rankingAt_28 rfl sh_144 ?_
  refine xs_i2l (n := 30) dX5_rankingAt_29 rfl ?_
  refine xs_aload_n (n := 31) dX5_rankingAt_30 rfl rfl ?_
  refine xs_iconst (n := 32) (v := (2 : Int32)) dX5_rankingAt_31 rfl rfl ?_
  refine ys_laload (n := 33) dX5_rankingAt_32 rfl hp_ ?_
  refine xs_lmul (n := 34) dX5_rankingAt_33 rfl ?_
  refine xs_ladd (n := 35) dX5_rankingAt_34 rfl ?_
  exact xs_lret dX5_rankingAt_35 rfl rfl
def fn_X11_bound (m : Nat) (u0 : xm_Y) : Option (Int64 × xm_Y) :=
  if (u0.1 139 6) = 0 then (
  some ((-1 : Int64), u0)) else (
  ((fn_X2_encloses m 127 123 u0).bind fun q2 =>
  if q2.1 = 0 then (
  some ((-3 : Int64), q2.2)) else (
  ((fn_X5_rankingAt m 123 q2.2).bind fun q4 =>
  ((fn_J9_max_f86c9 m (0 : Int64) ((q4.1 - (q4.2.2 139 5)) + (1 : Int64)) q4.2).bind fun q5 =>
  some (q5.1, q5.2))))))
theorem en_X11_bound (m : Nat) (u0 : xm_Y) : xs_ (fun x : Int64 => some (.long x)) sg_0 mt_X11_bound 0 [some (.ref 0)] [] u0 0 0 (fn_X11_bound m u0) := by
  refine xs_top ?_
  rw [fn_X11_bound]
  refine xs_aload_n (n := 1) dX11_bound_0 rfl rfl ?_
  refine ys_getr (n := 4) dX11_bound_1 rfl fl_X11_54 sh_0 rfl ?_
  refine ys_geti (n := 7) dX11_bound_4 rfl fl_X11_208 (Or.inr rfl) sh_139 ?_
  refine xs_if_ne (n := 10) (tgt := 14) dX11_bound_7 rfl rfl (fun hc1 => ?_) (fun hc1 => ?_)
  · refine xs_ldc2 (n := 13) (v := (-1 : Int64)) dX11_bound_10 rfl tw_686 ?_
    exact xs_lret dX11_bound_13 rfl rfl
  · refine xs_aload_n (n := 15) dX11_bound_14 rfl rfl ?_
    refine ys_getr (n := 18) dX11_bound_15 rfl fl_X11_30 sh_0 rfl ?_
    refine xs_aload_n (n := 19) dX11_bound_18 rfl rfl ?_
    refine ys_getr (n := 22) dX11_bound_19 rfl fl_X11_16 sh_0 rfl ?_
    refine ys_callvi (n := 25) (N := mt_X2_encloses) dX11_bound_22 rfl ok_X2_encloses tw_687 im_X2_encloses se_X2_encloses ⟨Nat.le_of_ble_eq_true rfl, Nat.le_of_ble_eq_true rfl⟩ [.ref 123] [] rfl rfl (Nat.le_of_ble_eq_true rfl) rfl (Nat.le_of_ble_eq_true rfl) (en_X2_encloses m 127 123 bx_127 sh_123 u0) bx_127.1 (by decide) rfl (fun q2 => ?_)
    refine xs_if_ne (n := 28) (tgt := 32) dX11_bound_25 rfl rfl (fun hc3 => ?_) (fun hc3 => ?_)
    · refine xs_ldc2 (n := 31) (v := (-3 : Int64)) dX11_bound_28 rfl tw_692 ?_
      exact xs_lret dX11_bound_31 rfl rfl
    · refine xs_lconst (n := 33) (v := (0 : Int64)) dX11_bound_32 rfl rfl ?_
      refine xs_aload_n (n := 34) dX11_bound_33 rfl rfl ?_
      refine ys_getr (n := 37) dX11_bound_34 rfl fl_X11_54 sh_0 rfl ?_
      refine xs_aload_n (n := 38) dX11_bound_37 rfl rfl ?_
      refine ys_getr (n := 41) dX11_bound_38 rfl fl_X11_16 sh_0 rfl ?_
      refine ys_callvl (n := 44) (N := mt_X5_rankingAt) dX11_bound_41 rfl ok_X5_rankingAt tw_693 im_X5_rankingAt se_X5_rankingAt ⟨Nat.le_of_ble_eq_true rfl, Nat.le_of_ble_eq_true rfl⟩ [.ref 123] [.long (0 : Int64)] rfl rfl (Nat.le_of_ble_eq_true rfl) rfl (Nat.le_of_ble_eq_true rfl) (en_X5_rankingAt m 123 sh_123 q2.2) sh_139 (by decide) rfl (fun q4 => ?_)
      refine xs_aload_n (n := 45) dX11_bound_44 rfl rfl ?_
      refine ys_getr (n := 48) dX11_bound_45 rfl fl_X11_54 sh_0 rfl ?_
      refine ys_getl (n := 51) dX11_bound_48 rfl fl_X11_224 sh_139 ?_
      refine xs_lsub (n := 52) dX11_bound_51 rfl ?_
      refine xs_lconst (n := 53) (v := (1 : Int64)) dX11_bound_52 rfl rfl ?_
      refine xs_ladd (n := 54) dX11_bound_53 rfl ?_
      refine ys_callsl (n := 57) (N := mt_J9_max_f86c9) dX11_bound_54 rfl ok_J9_max_f86c9 tw_697 st_J9_max_f86c9 ⟨Nat.le_of_ble_eq_true rfl, Nat.le_of_ble_eq_true rfl⟩ [.long (0 : Int64), .long ((q4.1 - (q4.2.2 139 5)) + (1 : Int64))] [] rfl rfl (Nat.le_of_ble_eq_true rfl) rfl (Nat.le_of_ble_eq_true rfl) (en_J9_max_f86c9 m (0 : Int64) ((q4.1 - (q4.2.2 139 5)) + (1 : Int64)) q4.2) (fun q5 => ?_)
      exact xs_lret dX11_bound_57 rfl rfl
def fn_X11_isSide (m : Nat) (x0 : Int32) (u0 : xm_Y) : Option (Int32 × xm_Y) :=
  ((if x0 = 0 then (
  some ((1 : Int32))) else (
  if x0 = (1 : Int32) then (
  some ((1 : Int32))) else (
  some ((0 : Int32)))) : Option (Int32)).bind fun q1 =>
  xm_chk (q1 = 0 ∨ q1 = 1) (some (q1, u0)))
theorem en_X11_isSide (m : Nat) (x0 : Int32) (u0 : xm_Y) : xs_ (fun x : Int32 => some (.int x)) sg_0 mt_X11_isSide 0 [some (.int x0)] [] u0 0 0 (fn_X11_isSide m x0 u0) := by
  refine xs_top ?_
  rw [fn_X11_isSide]
  refine xs_iload_n (n := 1) dX11_isSide_0 rfl rfl ?_
  refine xs_join 14 (fun q1 => [none]) (fun q1 => [.int q1]) (fun q1 => u0) (fun q1 => ?_) (fun kj2 => ?_)
  · exact xs_zret dX11_isSide_14 rfl rfl
  · refine xs_if_eq (n := 4) (tgt := 9) dX11_isSide_1 rfl rfl (fun hc3 => ?_) (fun hc3 => ?_)
    · refine xs_iconst (n := 10) (v := (1 : Int32)) dX11_isSide_9 rfl rfl ?_
      refine xs_goto (n := 14) dX11_isSide_10 rfl ?_
      exact xs_gf (xs_end (kj2 ((1 : Int32)))) trivial
    · refine xs_iload_n (n := 5) dX11_isSide_4 rfl rfl ?_
      refine xs_iconst (n := 6) (v := (1 : Int32)) dX11_isSide_5 rfl rfl ?_
      refine xs_icmp_ne (n := 9) (tgt := 13) dX11_isSide_6 rfl rfl (fun hc4 => ?_) (fun hc4 => ?_)
      · refine xs_iconst (n := 10) (v := (1 : Int32)) dX11_isSide_9 rfl rfl ?_
        refine xs_goto (n := 14) dX11_isSide_10 rfl ?_
        exact xs_gf (xs_end (kj2 ((1 : Int32)))) trivial
      · refine xs_iconst (n := 14) (v := (0 : Int32)) dX11_isSide_13 rfl rfl ?_
        exact xs_gf (xs_end (kj2 ((0 : Int32)))) trivial
def fn_X2_put (m : Nat) (o : Nat) (x0 : Int32) (x1 : Int32) (x2 : Int64) (u0 : xm_Y) : Option (Unit × xm_Y) :=
  xm_chk (xm_in (((2 : Int32) * x0) + x1) 6) (xm_let (w_J u0 (o + 1) (Int32.toNatClampNeg (((2 : Int32) * x0) + x1)) x2) fun u1 =>
  some ((), u1))
theorem en_X2_put (m : Nat) (o : Nat) (x0 : Int32) (x1 : Int32) (x2 : Int64) (ho : bx_ok o) (u0 : xm_Y) : xs_ (fun _ : Unit => none) sg_0 mt_X2_put 0 [some (.ref o), some (.int x0), some (.int x1), some (.long x2), none] [] u0 0 0 (fn_X2_put m o x0 x1 x2 u0) := by
  refine xs_top ?_
  rw [fn_X2_put]
  refine xs_aload_n (n := 1) dX2_put_0 rfl rfl ?_
  refine ys_getr (n := 4) dX2_put_1 rfl fl_X2_9 ho.1 ho.2.1 ?_
  refine xs_iconst (n := 5) (v := (2 : Int32)) dX2_put_4 rfl rfl ?_
  refine xs_iload_n (n := 6) dX2_put_5 rfl rfl ?_
  refine xs_imul (n := 7) dX2_put_6 rfl ?_
  refine xs_iload_n (n := 8) dX2_put_7 rfl rfl ?_
  refine xs_iadd (n := 9) dX2_put_8 rfl ?_
  refine xs_lload_n (n := 10) dX2_put_9 rfl rfl ?_
  refine ys_lastore (n := 11) dX2_put_10 rfl ho.2.2 (fun u1 => ?_)
  exact xs_vret dX2_put_11 rfl rfl
def fn_X11_begin (m : Nat) (x0 : Int32) (x1 : Int32) (x2 : Int32) (u0 : xm_Y) : Option (Int32 × xm_Y) :=
  ((fn_X7_hasNumber m x0 u0).bind fun q1 =>
  if q1.1 = 0 then (
  some ((-1 : Int32), q1.2)) else (
  ((fn_X11_isSide m x1 q1.2).bind fun q3 =>
  if q3.1 = 0 then (
  some ((-1 : Int32), q3.2)) else (
  ((fn_X11_isGiven m x2 q3.2).bind fun q5 =>
  if q5.1 = 0 then (
  if x2 = (-2000000 : Int32) then (
  ((if x2 = (-2000000 : Int32) then (
  some ((-3000000000000 : Int64))) else (
  some ((Int32.toInt64 x2))) : Option (Int64)).bind fun q8 =>
  ((fn_X2_put m 129 x0 x1 q8 q5.2).bind fun q11 =>
  some ((0 : Int32), q11.2)))) else (
  some ((-1 : Int32), q5.2))) else (
  ((if x2 = (-2000000 : Int32) then (
  some ((-3000000000000 : Int64))) else (
  some ((Int32.toInt64 x2))) : Option (Int64)).bind fun q12 =>
  ((fn_X2_put m 129 x0 x1 q12 q5.2).bind fun q15 =>
  some ((0 : Int32), q15.2)))))))))
theorem en_X11_begin (m : Nat) (x0 : Int32) (x1 : Int32) (x2 : Int32) (u0 : xm_Y) : xs_ (fun x : Int32 => some (.int x)) sg_0 mt_X11_begin 0 [some (.ref 0), some (.int x0), some (.int x1), some (.int x2)] [] u0 0 0 (fn_X11_begin m x0 x1 x2 u0) := by
  refine xs_top ?_
  rw [fn_X11_begin]
  refine xs_aload_n (n := 1) dX11_begin_0 rfl rfl ?_
  refine ys_getr (n := 4) dX11_begin_1 rfl fl_X11_10 sh_0 rfl ?_
  refine xs_iload_n (n := 5) dX11_begin_4 rfl rfl ?_
  refine ys_callvi (n := 8) (N := mt_X7_hasNumber) dX11_begin_5 rfl ok_X7_hasNumber tw_390 im_X7_hasNumber se_X7_hasNumber ⟨Nat.le_of_ble_eq_true rfl, Nat.le_of_ble_eq_true rfl⟩ [.int x0] [] rfl rfl (Nat.le_of_ble_eq_true rfl) rfl (Nat.le_of_ble_eq_true rfl) (en_X7_hasNumber m x0 u0) sh_1 (by decide) rfl (fun q1 => ?_)
  refine xs_if_eq (n := 11) (tgt := 31) dX11_begin_8 rfl rfl (fun hc2 => ?_) (fun hc2 => ?_)
  · refine xs_iconst (n := 32) (v := (-1 : Int32)) dX11_begin_31 rfl rfl ?_
    exact xs_iret dX11_begin_32 rfl rfl
  · refine xs_iload_n (n := 12) dX11_begin_11 rfl rfl ?_
    refine ys_callsi (n := 15) (N := mt_X11_isSide) dX11_begin_12 rfl ok_X11_isSide tw_704 st_X11_isSide ⟨Nat.le_of_ble_eq_true rfl, Nat.le_of_ble_eq_true rfl⟩ [.int x1] [] rfl rfl (Nat.le_of_ble_eq_true rfl) rfl (Nat.le_of_ble_eq_true rfl) (en_X11_isSide m x1 q1.2) (fun q3 => ?_)
    refine xs_if_eq (n := 18) (tgt := 31) dX11_begin_15 rfl rfl (fun hc4 => ?_) (fun hc4 => ?_)
    · refine xs_iconst (n := 32) (v := (-1 : Int32)) dX11_begin_31 rfl rfl ?_
      exact xs_iret dX11_begin_32 rfl rfl
    · refine xs_iload_n (n := 19) dX11_begin_18 rfl rfl ?_
      refine ys_callsi (n := 22) (N := mt_X11_isGiven) dX11_begin_19 rfl ok_X11_isGiven tw_403 st_X11_isGiven ⟨Nat.le_of_ble_eq_true rfl, Nat.le_of_ble_eq_true rfl⟩ [.int x2] [] rfl rfl (Nat.le_of_ble_eq_true rfl) rfl (Nat.le_of_ble_eq_true rfl) (en_X11_isGiven m x2 q3.2) (fun q5 => ?_)
      refine xs_if_ne (n := 25) (tgt := 33) dX11_begin_22 rfl rfl (fun hc6 => ?_) (fun hc6 => ?_)
      · refine xs_iload_n (n := 26) dX11_begin_25 rfl rfl ?_
        refine xs_ldc (n := 28) (v := (-2000000 : Int32)) dX11_begin_26 rfl tw_707 ?_
        refine xs_icmp_eq (n := 31) (tgt := 33) dX11_begin_28 rfl rfl (fun hc7 => ?_) (fun hc7 => ?_)
        · refine xs_aload_n (n := 34) dX11_begin_33 rfl rfl ?_
          refine ys_getr (n := 37) dX11_begin_34 rfl fl_X11_34 sh_0 rfl ?_
          refine xs_iload_n (n := 38) dX11_begin_37 rfl rfl ?_
          refine xs_iload_n (n := 39) dX11_begin_38 rfl rfl ?_
          refine xs_iload_n (n := 40) dX11_begin_39 rfl rfl ?_
          refine xs_ldc (n := 42) (v := (-2000000 : Int32)) dX11_begin_40 rfl tw_707 ?_
          refine xs_join 53 (fun q8 => [none, none, none, none]) (fun q8 => [.long q8, .int x1, .int x0, .ref 129]) (fun q8 => q5.2) (fun q8 => ?_) (fun kj9 => ?_)
          · refine ys_callvv (n := 56) (N := mt_X2_put) dX11_begin_53 rfl ok_X2_put tw_709 im_X2_put se_X2_put ⟨Nat.le_of_ble_eq_true rfl, Nat.le_of_ble_eq_true rfl⟩ [.int x0, .int x1, .long q8] [] rfl rfl (Nat.le_of_ble_eq_true rfl) rfl (Nat.le_of_ble_eq_true rfl) (en_X2_put m 129 x0 x1 q8 bx_129 q5.2) bx_129.1 (by decide) rfl (fun q11 => ?_)
            refine xs_iconst (n := 57) (v := (0 : Int32)) dX11_begin_56 rfl rfl ?_
            exact xs_iret dX11_begin_57 rfl rfl
          · refine xs_icmp_ne (n := 45) (tgt := 51) dX11_begin_42 rfl rfl (fun hc10 => ?_) (fun hc10 => ?_)
            · refine xs_ldc2 (n := 48) (v := (-3000000000000 : Int64)) dX11_begin_45 rfl tw_708 ?_
              refine xs_goto (n := 53) dX11_begin_48 rfl ?_
              exact xs_gf (xs_end (kj9 ((-3000000000000 : Int64)))) trivial
            · refine xs_iload_n (n := 52) dX11_begin_51 rfl rfl ?_
              refine xs_i2l (n := 53) dX11_begin_52 rfl ?_
              exact xs_gf (xs_end (kj9 ((Int32.toInt64 x2)))) trivial
        · refine xs_iconst (n := 32) (v := (-1 : Int32)) dX11_begin_31 rfl rfl ?_
          exact xs_iret dX11_begin_32 rfl rfl
      · refine xs_aload_n (n := 34) dX11_begin_33 rfl rfl ?_
        refine ys_getr (n := 37) dX11_begin_34 rfl fl_X11_34 sh_0 rfl ?_
        refine xs_iload_n (n := 38) dX11_begin_37 rfl rfl ?_
        refine xs_iload_n (n := 39) dX11_begin_38 rfl rfl ?_
        refine xs_iload_n (n := 40) dX11_begin_39 rfl rfl ?_
        refine xs_ldc (n := 42) (v := (-2000000 : Int32)) dX11_begin_40 rfl tw_707 ?_
        refine xs_join 53 (fun q12 => [none, none, none, none]) (fun q12 => [.long q12, .int x1, .int x0, .ref 129]) (fun q12 => q5.2) (fun q12 => ?_) (fun kj13 => ?_)
        · refine ys_callvv (n := 56) (N := mt_X2_put) dX11_begin_53 rfl ok_X2_put tw_709 im_X2_put se_X2_put ⟨Nat.le_of_ble_eq_true rfl, Nat.le_of_ble_eq_true rfl⟩ [.int x0, .int x1, .long q12] [] rfl rfl (Nat.le_of_ble_eq_true rfl) rfl (Nat.le_of_ble_eq_true rfl) (en_X2_put m 129 x0 x1 q12 bx_129 q5.2) bx_129.1 (by decide) rfl (fun q15 => ?_)
          refine xs_iconst (n := 57) (v := (0 : Int32)) dX11_begin_56 rfl rfl ?_
          exact xs_iret dX11_begin_57 rfl rfl
        · refine xs_icmp_ne (n := 45) (tgt := 51) dX11_begin_42 rfl rfl (fun hc14 => ?_) (fun hc14 => ?_)
          · refine xs_ldc2 (n := 48) (v := (-3000000000000 : Int64)) dX11_begin_45 rfl tw_708 ?_
            refine xs_goto (n := 53) dX11_begin_48 rfl ?_
            exact xs_gf (xs_end (kj13 ((-3000000000000 : Int64)))) trivial
          · refine xs_iload_n (n := 52) dX11_begin_51 rfl rfl ?_
            refine xs_i2l (n := 53) dX11_begin_52 rfl ?_
            exact xs_gf (xs_end (kj13 ((Int32.toInt64 x2)))) trivial
def lp_X2_isCrossed_2 (m : Nat) (a0 : Nat) : Nat → Int32 → xm_Y → Option ((Int32 × xm_Y) ⊕ (Int32 × xm_Y))
  | 0, _, _ => none
  | n + 1, l1, u0 =>
  if (3 : Int32) ≤ l1 then (
  some (.inr (l1, u0))) else (
  ((fn_X2_end m a0 l1 (0 : Int32) u0).bind fun q2 =>
  ((fn_X2_end m a0 l1 (1 : Int32) q2.2).bind fun q3 =>
  if q2.1 = (-3000000000000 : Int64) then (
  xm_let (α := Int32) (l1 + (1 : Int32)) fun v5 =>
  lp_X2_isCrossed_2 m a0 n v5 q3.2) else (
  if q3.1 = (-3000000000000 : Int64) then (
  xm_let (α := Int32) (l1 + (1 : Int32)) fun v7 =>
  lp_X2_isCrossed_2 m a0 n v7 q3.2) else (
  if q2.1 ≤ q3.1 then (
  xm_let (α := Int32) (l1 + (1 : Int32)) fun v9 =>
  lp_X2_isCrossed_2 m a0 n v9 q3.2) else (
  some (.inl ((1 : Int32), q3.2))))))))
def fn_X2_isCrossed (m : Nat) (o : Nat) (u0 : xm_Y) : Option (Int32 × xm_Y) :=
  ((lp_X2_isCrossed_2 m o m (0 : Int32) u0).bind (Sum.elim (fun r => some r) (fun q10 =>
  some ((0 : Int32), q10.2))))
theorem el_X2_isCrossed_2 (m : Nat) (a0 : Nat) (ha0 : bx_ok a0) (K : (Int32 × xm_Y) ⊕ (Int32 × xm_Y) → Option (Int32 × xm_Y)) (hK : ∀ r, K (.inl r) = some r) (kE : ∀ q : Int32 × xm_Y, xs_ (fun x : Int32 => some (.int x)) sg_0 mt_X2_isCrossed 54 [none, none, none, none, none, none] [] q.2 0 0 (K (.inr q))) : ∀ (n : Nat) (l1 : Int32) (u0 : xm_Y), xs_ (fun x : Int32 => some (.int x)) sg_0 mt_X2_isCrossed 2 [some (.ref a0), some (.int l1), none, none, none, none] [] u0 0 0 ((lp_X2_isCrossed_2 m a0 n l1 u0).bind K) := by
  intro n
  induction n with
  | zero =>
    intro l1 u0
    exact xs_none
  | succ n ih =>
    intro l1 u0
    rw [lp_X2_isCrossed_2]
    refine xs_iload_n (n := 3) dX2_isCrossed_2 rfl rfl ?_
    refine xs_iconst (n := 4) (v := (3 : Int32)) dX2_isCrossed_3 rfl rfl ?_
    refine xs_icmp_ge (n := 7) (tgt := 54) dX2_isCrossed_4 rfl rfl (fun hc1 => ?_) (fun hc1 => ?_)
    · exact xs_gf (xs_end (kE (l1, u0))) trivial
    · refine xs_aload_n (n := 8) dX2_isCrossed_7 rfl rfl ?_
      refine xs_iload_n (n := 9) dX2_isCrossed_8 rfl rfl ?_
      refine xs_iconst (n := 10) (v := (0 : Int32)) dX2_isCrossed_9 rfl rfl ?_
      refine ys_callvl (n := 13) (N := mt_X2_end) dX2_isCrossed_10 rfl ok_X2_end tw_691 im_X2_end se_X2_end ⟨Nat.le_of_ble_eq_true rfl, Nat.le_of_ble_eq_true rfl⟩ [.int l1, .int (0 : Int32)] [] rfl rfl (Nat.le_of_ble_eq_true rfl) rfl (Nat.le_of_ble_eq_true rfl) (en_X2_end m a0 l1 (0 : Int32) ha0 u0) ha0.1 (by decide) rfl (fun q2 => ?_)
      refine xs_lstore_n (n := 14) (lv' := [some (.ref a0), some (.int l1), some (.long q2.1), none, none, none]) dX2_isCrossed_13 rfl (Nat.le_of_ble_eq_true rfl) rfl ?_
      refine xs_aload_n (n := 15) dX2_isCrossed_14 rfl rfl ?_
      refine xs_iload_n (n := 16) dX2_isCrossed_15 rfl rfl ?_
      refine xs_iconst (n := 17) (v := (1 : Int32)) dX2_isCrossed_16 rfl rfl ?_
      refine ys_callvl (n := 20) (N := mt_X2_end) dX2_isCrossed_17 rfl ok_X2_end tw_691 im_X2_end se_X2_end ⟨Nat.le_of_ble_eq_true rfl, Nat.le_of_ble_eq_true rfl⟩ [.int l1, .int (1 : Int32)] [] rfl rfl (Nat.le_of_ble_eq_true rfl) rfl (Nat.le_of_ble_eq_true rfl) (en_X2_end m a0 l1 (1 : Int32) ha0 q2.2) ha0.1 (by decide) rfl (fun q3 => ?_)
      refine xs_lstore (n := 22) (lv' := [some (.ref a0), some (.int l1), some (.long q2.1), none, some (.long q3.1), none]) dX2_isCrossed_20 rfl (Nat.le_of_ble_eq_true rfl) rfl ?_
      refine xs_lload_n (n := 23) dX2_isCrossed_22 rfl rfl ?_
      refine xs_ldc2 (n := 26) (v := (-3000000000000 : Int64)) dX2_isCrossed_23 rfl tw_283 ?_
      refine xs_lif_eq (n := 30) (pc1 := 27) (tgt := 48) dX2_isCrossed_26 rfl dX2_isCrossed_27 rfl rfl (fun hc4 => ?_) (fun hc4 => ?_)
      · refine xs_iincl (n := 51) (dv := (1 : Int32)) (fun v5 => [some (.ref a0), some (.int v5), some (.long q2.1), none, some (.long q3.1), none]) dX2_isCrossed_48 rfl rfl rfl (Nat.le_of_ble_eq_true rfl) (fun _ => rfl) (fun v5 => ?_)
        refine xs_goto (n := 2) dX2_isCrossed_51 rfl ?_
        exact xs_gf (ih v5 q3.2) (And.intro rfl (And.intro rfl trivial))
      · refine xs_lload (n := 32) dX2_isCrossed_30 rfl rfl ?_
        refine xs_ldc2 (n := 35) (v := (-3000000000000 : Int64)) dX2_isCrossed_32 rfl tw_283 ?_
        refine xs_lif_eq (n := 39) (pc1 := 36) (tgt := 48) dX2_isCrossed_35 rfl dX2_isCrossed_36 rfl rfl (fun hc6 => ?_) (fun hc6 => ?_)
        · refine xs_iincl (n := 51) (dv := (1 : Int32)) (fun v7 => [some (.ref a0), some (.int v7), some (.long q2.1), none, some (.long q3.1), none]) dX2_isCrossed_48 rfl rfl rfl (Nat.le_of_ble_eq_true rfl) (fun _ => rfl) (fun v7 => ?_)
          refine xs_goto (n := 2) dX2_isCrossed_51 rfl ?_
          exact xs_gf (ih v7 q3.2) (And.intro rfl (And.intro rfl trivial))
        · refine xs_lload_n (n := 40) dX2_isCrossed_39 rfl rfl ?_
          refine xs_lload (n := 42) dX2_isCrossed_40 rfl rfl ?_
          refine xs_lif_le (n := 46) (pc1 := 43) (tgt := 48) dX2_isCrossed_42 rfl dX2_isCrossed_43 rfl rfl (fun hc8 => ?_) (fun hc8 => ?_)
          · refine xs_iincl (n := 51) (dv := (1 : Int32)) (fun v9 => [some (.ref a0), some (.int v9), some (.long q2.1), none, some (.long q3.1), none]) dX2_isCrossed_48 rfl rfl rfl (Nat.le_of_ble_eq_true rfl) (fun _ => rfl) (fun v9 => ?_)
            refine xs_goto (n := 2) dX2_isCrossed_51 rfl ?_
            exact xs_gf (ih v9 q3.2) (And.intro rfl (And.intro rfl trivial))
          · refine xs_iconst (n := 47) (v := (1 : Int32)) dX2_isCrossed_46 rfl rfl ?_
            exact xs_zretc dX2_isCrossed_47 rfl (Or.inr rfl) (hK _)
theorem en_X2_isCrossed (m : Nat) (o : Nat) (ho : bx_ok o) (u0 : xm_Y) : xs_ (fun x : Int32 => some (.int x)) sg_0 mt_X2_isCrossed 0 [some (.ref o), none, none, none, none, none] [] u0 0 0 (fn_X2_isCrossed m o u0) := by
  refine xs_top ?_
  rw [fn_X2_isCrossed]
  refine xs_iconst (n := 1) (v := (0 : Int32)) dX2_isCrossed_0 rfl rfl ?_
  refine xs_istore_n (n := 2) (lv' := [some (.ref o), some (.int (0 : Int32)), none, none, none, none]) dX2_isCrossed_1 rfl (Nat.le_of_ble_eq_true rfl) rfl ?_
  refine xs_reg ?_
  refine xs_fg (lv' := [some (.ref o), some (.int (0 : Int32)), none, none, none, none]) (And.intro rfl (And.intro rfl trivial)) ?_
  refine el_X2_isCrossed_2 m o ho _ (fun _ => rfl) (fun q10 => ?_) m (0 : Int32) u0
  refine xs_inr ?_
  refine xs_iconst (n := 55) (v := (0 : Int32)) dX2_isCrossed_54 rfl rfl ?_
  exact xs_zretc dX2_isCrossed_55 rfl (Or.inl rfl) rfl
def fn_X2_copyFrom (m : Nat) (o : Nat) (o2 : Nat) (u0 : xm_Y) : Option (Unit × xm_Y) :=
  xm_chk (0 ≤ (0 : Int32) ∧ 0 ≤ (0 : Int32) ∧ 0 ≤ (6 : Int32) ∧ (Int32.toNatClampNeg (0 : Int32)) + (Int32.toNatClampNeg (6 : Int32)) ≤ 6 ∧ (Int32.toNatClampNeg (0 : Int32)) + (Int32.toNatClampNeg (6 : Int32)) ≤ 6) (xm_let (cp_J u0 (o2 + 1) (o + 1) (Int32.toNatClampNeg (0 : Int32)) (Int32.toNatClampNeg (0 : Int32)) (Int32.toNatClampNeg (6 : Int32))) fun u1 =>
  some ((), u1))
theorem en_X2_copyFrom (m : Nat) (o : Nat) (o2 : Nat) (ho : bx_ok o) (ho2_ : bx_ok o2) (u0 : xm_Y) : xs_ (fun _ : Unit => none) sg_0 mt_X2_copyFrom 0 [some (.ref o), some (.ref o2)] [] u0 0 0 (fn_X2_copyFrom m o o2 u0) := by
  refine xs_top ?_
  rw [fn_X2_copyFrom]
  refine xs_aload_n (n := 1) dX2_copyFrom_0 rfl rfl ?_
  refine ys_getr (n := 4) dX2_copyFrom_1 rfl fl_X2_9 ho2_.1 ho2_.2.1 ?_
  refine xs_iconst (n := 5) (v := (0 : Int32)) dX2_copyFrom_4 rfl rfl ?_
  refine xs_aload_n (n := 6) dX2_copyFrom_5 rfl rfl ?_
  refine ys_getr (n := 9) dX2_copyFrom_6 rfl fl_X2_9 ho.1 ho.2.1 ?_
  refine xs_iconst (n := 10) (v := (0 : Int32)) dX2_copyFrom_9 rfl rfl ?_
  refine xs_bipush (n := 12) (v := (6 : Int32)) dX2_copyFrom_10 rfl rfl ?_
  refine ys_copyl (n := 15) dX2_copyFrom_12 rfl tw_729 ho2_.2.2 ho.2.2 (Nat.le_of_ble_eq_true rfl) (Nat.le_of_ble_eq_true rfl) (fun u1 => ?_)
  exact xs_vret dX2_copyFrom_15 rfl rfl
def fn_X2_widen (m : Nat) (o : Nat) (x0 : Int32) (x1 : Int32) (x2 : Int64) (u0 : xm_Y) : Option (Unit × xm_Y) :=
  ((fn_X2_end m o x0 x1 u0).bind fun q1 =>
  ((if q1.1 = (-3000000000000 : Int64) then (
  ((fn_X2_put m o x0 x1 (-3000000000000 : Int64) q1.2).bind fun q5 =>
  some (q5.2))) else (
  if x2 = (-3000000000000 : Int64) then (
  ((fn_X2_put m o x0 x1 (-3000000000000 : Int64) q1.2).bind fun q7 =>
  some (q7.2))) else (
  ((if x1 = 0 then (
  ((fn_J9_min_f86c9 m q1.1 x2 q1.2).bind fun q11 =>
  some (q11.1, q11.2))) else (
  ((fn_J9_max_f86c9 m q1.1 x2 q1.2).bind fun q12 =>
  some (q12.1, q12.2))) : Option (Int64 × xm_Y)).bind fun q8 =>
  ((fn_X2_put m o x0 x1 q8.1 q8.2).bind fun q13 =>
  some (q13.2))))) : Option (xm_Y)).bind fun q2 =>
  some ((), q2)))
theorem en_X2_widen (m : Nat) (o : Nat) (x0 : Int32) (x1 : Int32) (x2 : Int64) (ho : bx_ok o) (u0 : xm_Y) : xs_ (fun _ : Unit => none) sg_0 mt_X2_widen 0 [some (.ref o), some (.int x0), some (.int x1), some (.long x2), none, none, none] [] u0 0 0 (fn_X2_widen m o x0 x1 x2 u0) := by
  refine xs_top ?_
  rw [fn_X2_widen]
  refine xs_aload_n (n := 1) dX2_widen_0 rfl rfl ?_
  refine xs_iload_n (n := 2) dX2_widen_1 rfl rfl ?_
  refine xs_iload_n (n := 3) dX2_widen_2 rfl rfl ?_
  refine ys_callvl (n := 6) (N := mt_X2_end) dX2_widen_3 rfl ok_X2_end tw_691 im_X2_end se_X2_end ⟨Nat.le_of_ble_eq_true rfl, Nat.le_of_ble_eq_true rfl⟩ [.int x0, .int x1] [] rfl rfl (Nat.le_of_ble_eq_true rfl) rfl (Nat.le_of_ble_eq_true rfl) (en_X2_end m o x0 x1 ho u0) ho.1 (by decide) rfl (fun q1 => ?_)
  refine xs_lstore (n := 8) (lv' := [some (.ref o), some (.int x0), some (.int x1), some (.long x2), none, some (.long q1.1), none]) dX2_widen_6 rfl (Nat.le_of_ble_eq_true rfl) rfl ?_
  refine xs_lload (n := 10) dX2_widen_8 rfl rfl ?_
  refine xs_ldc2 (n := 13) (v := (-3000000000000 : Int64)) dX2_widen_10 rfl tw_283 ?_
  refine xs_join 62 (fun q2 => [none, none, none, none, none, none, none]) (fun q2 => []) (fun q2 => q2) (fun q2 => ?_) (fun kj3 => ?_)
  · exact xs_vret dX2_widen_62 rfl rfl
  · refine xs_lif_eq (n := 17) (pc1 := 14) (tgt := 25) dX2_widen_13 rfl dX2_widen_14 rfl rfl (fun hc4 => ?_) (fun hc4 => ?_)
    · refine xs_aload_n (n := 26) dX2_widen_25 rfl rfl ?_
      refine xs_iload_n (n := 27) dX2_widen_26 rfl rfl ?_
      refine xs_iload_n (n := 28) dX2_widen_27 rfl rfl ?_
      refine xs_ldc2 (n := 31) (v := (-3000000000000 : Int64)) dX2_widen_28 rfl tw_283 ?_
      refine ys_callvv (n := 34) (N := mt_X2_put) dX2_widen_31 rfl ok_X2_put tw_750 im_X2_put se_X2_put ⟨Nat.le_of_ble_eq_true rfl, Nat.le_of_ble_eq_true rfl⟩ [.int x0, .int x1, .long (-3000000000000 : Int64)] [] rfl rfl (Nat.le_of_ble_eq_true rfl) rfl (Nat.le_of_ble_eq_true rfl) (en_X2_put m o x0 x1 (-3000000000000 : Int64) ho q1.2) ho.1 (by decide) rfl (fun q5 => ?_)
      refine xs_goto (n := 62) dX2_widen_34 rfl ?_
      exact xs_gf (xs_end (kj3 (q5.2))) trivial
    · refine xs_lload_n (n := 18) dX2_widen_17 rfl rfl ?_
      refine xs_ldc2 (n := 21) (v := (-3000000000000 : Int64)) dX2_widen_18 rfl tw_283 ?_
      refine xs_lif_ne (n := 25) (pc1 := 22) (tgt := 37) dX2_widen_21 rfl dX2_widen_22 rfl rfl (fun hc6 => ?_) (fun hc6 => ?_)
      · refine xs_aload_n (n := 26) dX2_widen_25 rfl rfl ?_
        refine xs_iload_n (n := 27) dX2_widen_26 rfl rfl ?_
        refine xs_iload_n (n := 28) dX2_widen_27 rfl rfl ?_
        refine xs_ldc2 (n := 31) (v := (-3000000000000 : Int64)) dX2_widen_28 rfl tw_283 ?_
        refine ys_callvv (n := 34) (N := mt_X2_put) dX2_widen_31 rfl ok_X2_put tw_750 im_X2_put se_X2_put ⟨Nat.le_of_ble_eq_true rfl, Nat.le_of_ble_eq_true rfl⟩ [.int x0, .int x1, .long (-3000000000000 : Int64)] [] rfl rfl (Nat.le_of_ble_eq_true rfl) rfl (Nat.le_of_ble_eq_true rfl) (en_X2_put m o x0 x1 (-3000000000000 : Int64) ho q1.2) ho.1 (by decide) rfl (fun q7 => ?_)
        refine xs_goto (n := 62) dX2_widen_34 rfl ?_
        exact xs_gf (xs_end (kj3 (q7.2))) trivial
      · refine xs_aload_n (n := 38) dX2_widen_37 rfl rfl ?_
        refine xs_iload_n (n := 39) dX2_widen_38 rfl rfl ?_
        refine xs_iload_n (n := 40) dX2_widen_39 rfl rfl ?_
        refine xs_iload_n (n := 41) dX2_widen_40 rfl rfl ?_
        refine xs_join 59 (fun q8 => [none, none, none, none, none, none, none]) (fun q8 => [.long q8.1, .int x1, .int x0, .ref o]) (fun q8 => q8.2) (fun q8 => ?_) (fun kj9 => ?_)
        · refine ys_callvv (n := 62) (N := mt_X2_put) dX2_widen_59 rfl ok_X2_put tw_750 im_X2_put se_X2_put ⟨Nat.le_of_ble_eq_true rfl, Nat.le_of_ble_eq_true rfl⟩ [.int x0, .int x1, .long q8.1] [] rfl rfl (Nat.le_of_ble_eq_true rfl) rfl (Nat.le_of_ble_eq_true rfl) (en_X2_put m o x0 x1 q8.1 ho q8.2) ho.1 (by decide) rfl (fun q13 => ?_)
          exact xs_gf (xs_end (kj3 (q13.2))) trivial
        · refine xs_if_ne (n := 44) (tgt := 53) dX2_widen_41 rfl rfl (fun hc10 => ?_) (fun hc10 => ?_)
          · refine xs_lload (n := 46) dX2_widen_44 rfl rfl ?_
            refine xs_lload_n (n := 47) dX2_widen_46 rfl rfl ?_
            refine ys_callsl (n := 50) (N := mt_J9_min_f86c9) dX2_widen_47 rfl ok_J9_min_f86c9 tw_751 st_J9_min_f86c9 ⟨Nat.le_of_ble_eq_true rfl, Nat.le_of_ble_eq_true rfl⟩ [.long q1.1, .long x2] [.int x1, .int x0, .ref o] rfl rfl (Nat.le_of_ble_eq_true rfl) rfl (Nat.le_of_ble_eq_true rfl) (en_J9_min_f86c9 m q1.1 x2 q1.2) (fun q11 => ?_)
            refine xs_goto (n := 59) dX2_widen_50 rfl ?_
            exact xs_gf (xs_end (kj9 (q11.1, q11.2))) trivial
          · refine xs_lload (n := 55) dX2_widen_53 rfl rfl ?_
            refine xs_lload_n (n := 56) dX2_widen_55 rfl rfl ?_
            refine ys_callsl (n := 59) (N := mt_J9_max_f86c9) dX2_widen_56 rfl ok_J9_max_f86c9 tw_752 st_J9_max_f86c9 ⟨Nat.le_of_ble_eq_true rfl, Nat.le_of_ble_eq_true rfl⟩ [.long q1.1, .long x2] [.int x1, .int x0, .ref o] rfl rfl (Nat.le_of_ble_eq_true rfl) rfl (Nat.le_of_ble_eq_true rfl) (en_J9_max_f86c9 m q1.1 x2 q1.2) (fun q12 => ?_)
            exact xs_gf (xs_end (kj9 (q12.1, q12.2))) trivial
