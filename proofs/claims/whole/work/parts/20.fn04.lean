def lp_X4_leadOf_19 (m : Nat) (c3 : Int32) : Nat → Int32 → xm_Y → Option (Int32 × xm_Y)
  | 0, _, _ => none
  | n + 1, l5, u0 =>
  if c3 ≤ l5 then (
  some (l5, u0)) else (
  ((fn_X7_step m 125 u0).bind fun q4 =>
  xm_let (α := Int32) (l5 + (1 : Int32)) fun v5 =>
  lp_X4_leadOf_19 m c3 n v5 q4.2))
def lp_X4_leadOf_43 (m : Nat) (c4 : Int32) : Nat → Int32 → xm_Y → Option ((Int32 × xm_Y) ⊕ (Int32 × xm_Y))
  | 0, _, _ => none
  | n + 1, l5, u0 =>
  if c4 < l5 then (
  some (.inr (l5, u0))) else (
  ((fn_X4_isSame m u0).bind fun q8 =>
  if q8.1 = 0 then (
  ((fn_X7_step m 125 q8.2).bind fun q10 =>
  ((fn_X7_step m 126 q10.2).bind fun q11 =>
  xm_let (α := Int32) (l5 + (1 : Int32)) fun v12 =>
  lp_X4_leadOf_43 m c4 n v12 q11.2))) else (
  some (.inl (l5, q8.2)))))
def fn_X4_leadOf (m : Nat) (x0 : Int32) (x1 : Int32) (u0 : xm_Y) : Option (Int32 × xm_Y) :=
  ((fn_X4_copy m 123 125 u0).bind fun q1 =>
  ((fn_X4_copy m 123 126 q1.2).bind fun q2 =>
  ((lp_X4_leadOf_19 m x0 m (0 : Int32) q2.2).bind fun q6 =>
  ((lp_X4_leadOf_43 m x1 m (0 : Int32) q6.2).bind (Sum.elim (fun r => some r) (fun q13 =>
  some ((-1 : Int32), q13.2)))))))
theorem el_X4_leadOf_19 (m : Nat) (c3 : Int32) (c4 : Int32) (K : Int32 × xm_Y → Option (Int32 × xm_Y)) (kE : ∀ q : Int32 × xm_Y, xs_ (fun x : Int32 => some (.int x)) sg_0 mt_X4_leadOf 40 [some (.ref 124), some (.ref 1), none, none, some (.int c4), none] [] q.2 0 0 (K q)) : ∀ (n : Nat) (l5 : Int32) (u0 : xm_Y), xs_ (fun x : Int32 => some (.int x)) sg_0 mt_X4_leadOf 19 [some (.ref 124), some (.ref 1), none, some (.int c3), some (.int c4), some (.int l5)] [] u0 0 0 ((lp_X4_leadOf_19 m c3 n l5 u0).bind K) := by
  intro n
  induction n with
  | zero =>
    intro l5 u0
    exact xs_none
  | succ n ih =>
    intro l5 u0
    rw [lp_X4_leadOf_19]
    refine xs_iload (n := 21) dX4_leadOf_19 rfl rfl ?_
    refine xs_iload_n (n := 22) dX4_leadOf_21 rfl rfl ?_
    refine xs_icmp_ge (n := 25) (tgt := 40) dX4_leadOf_22 rfl rfl (fun hc3 => ?_) (fun hc3 => ?_)
    · exact xs_gf (xs_end (kE (l5, u0))) (And.intro rfl (And.intro rfl (And.intro rfl trivial)))
    · refine xs_aload_n (n := 26) dX4_leadOf_25 rfl rfl ?_
      refine xs_aload_n (n := 27) dX4_leadOf_26 rfl rfl ?_
      refine ys_getr (n := 30) dX4_leadOf_27 rfl fl_X4_9 sh_124 rfl ?_
      refine ys_callvi (n := 33) (N := mt_X7_step) dX4_leadOf_30 rfl ok_X7_step tw_466 im_X7_step se_X7_step ⟨Nat.le_of_ble_eq_true rfl, Nat.le_of_ble_eq_true rfl⟩ [.ref 125] [] rfl rfl (Nat.le_of_ble_eq_true rfl) rfl (Nat.le_of_ble_eq_true rfl) (en_X7_step m 125 sh_125 u0) sh_1 (by decide) rfl (fun q4 => ?_)
      refine xs_pop (n := 34) dX4_leadOf_33 rfl rfl ?_
      refine xs_iincl (n := 37) (dv := (1 : Int32)) (fun v5 => [some (.ref 124), some (.ref 1), none, some (.int c3), some (.int c4), some (.int v5)]) dX4_leadOf_34 rfl rfl rfl (Nat.le_of_ble_eq_true rfl) (fun _ => rfl) (fun v5 => ?_)
      refine xs_goto (n := 19) dX4_leadOf_37 rfl ?_
      exact xs_gf (ih v5 q4.2) (And.intro rfl (And.intro rfl (And.intro rfl (And.intro rfl (And.intro rfl trivial)))))
theorem el_X4_leadOf_43 (m : Nat) (c4 : Int32) (K : (Int32 × xm_Y) ⊕ (Int32 × xm_Y) → Option (Int32 × xm_Y)) (hK : ∀ r, K (.inl r) = some r) (kE : ∀ q : Int32 × xm_Y, xs_ (fun x : Int32 => some (.int x)) sg_0 mt_X4_leadOf 84 [none, none, none, none, none, none] [] q.2 0 0 (K (.inr q))) : ∀ (n : Nat) (l5 : Int32) (u0 : xm_Y), xs_ (fun x : Int32 => some (.int x)) sg_0 mt_X4_leadOf 43 [some (.ref 124), some (.ref 1), none, none, some (.int c4), some (.int l5)] [] u0 0 0 ((lp_X4_leadOf_43 m c4 n l5 u0).bind K) := by
  intro n
  induction n with
  | zero =>
    intro l5 u0
    exact xs_none
  | succ n ih =>
    intro l5 u0
    rw [lp_X4_leadOf_43]
    refine xs_iload (n := 45) dX4_leadOf_43 rfl rfl ?_
    refine xs_iload (n := 47) dX4_leadOf_45 rfl rfl ?_
    refine xs_icmp_gt (n := 50) (tgt := 84) dX4_leadOf_47 rfl rfl (fun hc7 => ?_) (fun hc7 => ?_)
    · exact xs_gf (xs_end (kE (l5, u0))) trivial
    · refine xs_aload_n (n := 51) dX4_leadOf_50 rfl rfl ?_
      refine ys_callvi (n := 54) (N := mt_X4_isSame) dX4_leadOf_51 rfl ok_X4_isSame tw_467 im_X4_isSame se_X4_isSame ⟨Nat.le_of_ble_eq_true rfl, Nat.le_of_ble_eq_true rfl⟩ [] [] rfl rfl (Nat.le_of_ble_eq_true rfl) rfl (Nat.le_of_ble_eq_true rfl) (en_X4_isSame m u0) sh_124 (by decide) rfl (fun q8 => ?_)
      refine xs_if_eq (n := 57) (tgt := 60) dX4_leadOf_54 rfl rfl (fun hc9 => ?_) (fun hc9 => ?_)
      · refine xs_aload_n (n := 61) dX4_leadOf_60 rfl rfl ?_
        refine xs_aload_n (n := 62) dX4_leadOf_61 rfl rfl ?_
        refine ys_getr (n := 65) dX4_leadOf_62 rfl fl_X4_9 sh_124 rfl ?_
        refine ys_callvi (n := 68) (N := mt_X7_step) dX4_leadOf_65 rfl ok_X7_step tw_466 im_X7_step se_X7_step ⟨Nat.le_of_ble_eq_true rfl, Nat.le_of_ble_eq_true rfl⟩ [.ref 125] [] rfl rfl (Nat.le_of_ble_eq_true rfl) rfl (Nat.le_of_ble_eq_true rfl) (en_X7_step m 125 sh_125 q8.2) sh_1 (by decide) rfl (fun q10 => ?_)
        refine xs_pop (n := 69) dX4_leadOf_68 rfl rfl ?_
        refine xs_aload_n (n := 70) dX4_leadOf_69 rfl rfl ?_
        refine xs_aload_n (n := 71) dX4_leadOf_70 rfl rfl ?_
        refine ys_getr (n := 74) dX4_leadOf_71 rfl fl_X4_15 sh_124 rfl ?_
        refine ys_callvi (n := 77) (N := mt_X7_step) dX4_leadOf_74 rfl ok_X7_step tw_466 im_X7_step se_X7_step ⟨Nat.le_of_ble_eq_true rfl, Nat.le_of_ble_eq_true rfl⟩ [.ref 126] [] rfl rfl (Nat.le_of_ble_eq_true rfl) rfl (Nat.le_of_ble_eq_true rfl) (en_X7_step m 126 sh_126 q10.2) sh_1 (by decide) rfl (fun q11 => ?_)
        refine xs_pop (n := 78) dX4_leadOf_77 rfl rfl ?_
        refine xs_iincl (n := 81) (dv := (1 : Int32)) (fun v12 => [some (.ref 124), some (.ref 1), none, none, some (.int c4), some (.int v12)]) dX4_leadOf_78 rfl rfl rfl (Nat.le_of_ble_eq_true rfl) (fun _ => rfl) (fun v12 => ?_)
        refine xs_goto (n := 43) dX4_leadOf_81 rfl ?_
        exact xs_gf (ih v12 q11.2) (And.intro rfl (And.intro rfl (And.intro rfl (And.intro rfl trivial))))
      · refine xs_iload (n := 59) dX4_leadOf_57 rfl rfl ?_
        exact xs_iret dX4_leadOf_59 rfl (hK _)
theorem en_X4_leadOf (m : Nat) (x0 : Int32) (x1 : Int32) (u0 : xm_Y) : xs_ (fun x : Int32 => some (.int x)) sg_0 mt_X4_leadOf 0 [some (.ref 124), some (.ref 1), some (.ref 123), some (.int x0), some (.int x1), none] [] u0 0 0 (fn_X4_leadOf m x0 x1 u0) := by
  refine xs_top ?_
  rw [fn_X4_leadOf]
  refine xs_aload_n (n := 1) dX4_leadOf_0 rfl rfl ?_
  refine xs_aload_n (n := 2) dX4_leadOf_1 rfl rfl ?_
  refine ys_getr (n := 5) dX4_leadOf_2 rfl fl_X4_9 sh_124 rfl ?_
  refine ys_callsv (n := 8) (N := mt_X4_copy) dX4_leadOf_5 rfl ok_X4_copy tw_460 st_X4_copy ⟨Nat.le_of_ble_eq_true rfl, Nat.le_of_ble_eq_true rfl⟩ [.ref 123, .ref 125] [] rfl rfl (Nat.le_of_ble_eq_true rfl) rfl (Nat.le_of_ble_eq_true rfl) (en_X4_copy m 123 125 sh_123 sh_125 u0) (fun q1 => ?_)
  refine xs_aload_n (n := 9) dX4_leadOf_8 rfl rfl ?_
  refine xs_aload_n (n := 10) dX4_leadOf_9 rfl rfl ?_
  refine ys_getr (n := 13) dX4_leadOf_10 rfl fl_X4_15 sh_124 rfl ?_
  refine ys_callsv (n := 16) (N := mt_X4_copy) dX4_leadOf_13 rfl ok_X4_copy tw_460 st_X4_copy ⟨Nat.le_of_ble_eq_true rfl, Nat.le_of_ble_eq_true rfl⟩ [.ref 123, .ref 126] [] rfl rfl (Nat.le_of_ble_eq_true rfl) rfl (Nat.le_of_ble_eq_true rfl) (en_X4_copy m 123 126 sh_123 sh_126 q1.2) (fun q2 => ?_)
  refine xs_iconst (n := 17) (v := (0 : Int32)) dX4_leadOf_16 rfl rfl ?_
  refine xs_istore (n := 19) (lv' := [some (.ref 124), some (.ref 1), some (.ref 123), some (.int x0), some (.int x1), some (.int (0 : Int32))]) dX4_leadOf_17 rfl (Nat.le_of_ble_eq_true rfl) rfl ?_
  refine xs_reg ?_
  refine xs_fg (lv' := [some (.ref 124), some (.ref 1), none, some (.int x0), some (.int x1), some (.int (0 : Int32))]) (And.intro rfl (And.intro rfl (And.intro rfl (And.intro rfl (And.intro rfl trivial))))) ?_
  refine el_X4_leadOf_19 m x0 x1 _ (fun q6 => ?_) m (0 : Int32) q2.2
  refine xs_iconst (n := 41) (v := (0 : Int32)) dX4_leadOf_40 rfl rfl ?_
  refine xs_istore (n := 43) (lv' := [some (.ref 124), some (.ref 1), none, none, some (.int x1), some (.int (0 : Int32))]) dX4_leadOf_41 rfl (Nat.le_of_ble_eq_true rfl) rfl ?_
  refine xs_reg ?_
  refine xs_fg (lv' := [some (.ref 124), some (.ref 1), none, none, some (.int x1), some (.int (0 : Int32))]) (And.intro rfl (And.intro rfl (And.intro rfl (And.intro rfl trivial)))) ?_
  refine el_X4_leadOf_43 m x1 _ (fun _ => rfl) (fun q13 => ?_) m (0 : Int32) q6.2
  refine xs_inr ?_
  refine xs_iconst (n := 85) (v := (-1 : Int32)) dX4_leadOf_84 rfl rfl ?_
  exact xs_iret dX4_leadOf_85 rfl rfl
def fn_X4_findRing (m : Nat) (x0 : Int32) (u0 : xm_Y) : Option (Int32 × xm_Y) :=
  ((fn_X4_lengthWithin m x0 u0).bind fun q1 =>
  if 0 < q1.1 then (
  ((fn_X4_leadOf m q1.1 (x0 - q1.1) q1.2).bind fun q3 =>
  if 0 ≤ q3.1 then (
  xm_let (w_I q3.2 124 2 q3.1) fun u5 =>
  some (q1.1, u5)) else (
  some ((0 : Int32), q3.2)))) else (
  some (q1.1, q1.2)))
theorem en_X4_findRing (m : Nat) (x0 : Int32) (u0 : xm_Y) : xs_ (fun x : Int32 => some (.int x)) sg_0 mt_X4_findRing 0 [some (.ref 124), some (.ref 1), some (.ref 123), some (.int x0), none, none] [] u0 0 0 (fn_X4_findRing m x0 u0) := by
  refine xs_top ?_
  rw [fn_X4_findRing]
  refine xs_aload_n (n := 1) dX4_findRing_0 rfl rfl ?_
  refine xs_aload_n (n := 2) dX4_findRing_1 rfl rfl ?_
  refine xs_aload_n (n := 3) dX4_findRing_2 rfl rfl ?_
  refine xs_iload_n (n := 4) dX4_findRing_3 rfl rfl ?_
  refine ys_callvi (n := 7) (N := mt_X4_lengthWithin) dX4_findRing_4 rfl ok_X4_lengthWithin tw_456 im_X4_lengthWithin se_X4_lengthWithin ⟨Nat.le_of_ble_eq_true rfl, Nat.le_of_ble_eq_true rfl⟩ [.ref 1, .ref 123, .int x0] [] rfl rfl (Nat.le_of_ble_eq_true rfl) rfl (Nat.le_of_ble_eq_true rfl) (en_X4_lengthWithin m x0 u0) sh_124 (by decide) rfl (fun q1 => ?_)
  refine xs_istore (n := 9) (lv' := [some (.ref 124), some (.ref 1), some (.ref 123), some (.int x0), some (.int q1.1), none]) dX4_findRing_7 rfl (Nat.le_of_ble_eq_true rfl) rfl ?_
  refine xs_iload (n := 11) dX4_findRing_9 rfl rfl ?_
  refine xs_if_gt (n := 14) (tgt := 17) dX4_findRing_11 rfl rfl (fun hc2 => ?_) (fun hc2 => ?_)
  · refine xs_aload_n (n := 18) dX4_findRing_17 rfl rfl ?_
    refine xs_aload_n (n := 19) dX4_findRing_18 rfl rfl ?_
    refine xs_aload_n (n := 20) dX4_findRing_19 rfl rfl ?_
    refine xs_iload (n := 22) dX4_findRing_20 rfl rfl ?_
    refine xs_iload_n (n := 23) dX4_findRing_22 rfl rfl ?_
    refine xs_iload (n := 25) dX4_findRing_23 rfl rfl ?_
    refine xs_isub (n := 26) dX4_findRing_25 rfl ?_
    refine ys_callvi (n := 29) (N := mt_X4_leadOf) dX4_findRing_26 rfl ok_X4_leadOf tw_471 im_X4_leadOf se_X4_leadOf ⟨Nat.le_of_ble_eq_true rfl, Nat.le_of_ble_eq_true rfl⟩ [.ref 1, .ref 123, .int q1.1, .int (x0 - q1.1)] [] rfl rfl (Nat.le_of_ble_eq_true rfl) rfl (Nat.le_of_ble_eq_true rfl) (en_X4_leadOf m q1.1 (x0 - q1.1) q1.2) sh_124 (by decide) rfl (fun q3 => ?_)
    refine xs_istore (n := 31) (lv' := [some (.ref 124), some (.ref 1), some (.ref 123), some (.int x0), some (.int q1.1), some (.int q3.1)]) dX4_findRing_29 rfl (Nat.le_of_ble_eq_true rfl) rfl ?_
    refine xs_iload (n := 33) dX4_findRing_31 rfl rfl ?_
    refine xs_if_ge (n := 36) (tgt := 38) dX4_findRing_33 rfl rfl (fun hc4 => ?_) (fun hc4 => ?_)
    · refine xs_aload_n (n := 39) dX4_findRing_38 rfl rfl ?_
      refine xs_iload (n := 41) dX4_findRing_39 rfl rfl ?_
      refine ys_puti (n := 44) dX4_findRing_41 rfl fl_X4_18 rfl sh_124 (fun u5 => ?_)
      refine xs_iload (n := 46) dX4_findRing_44 rfl rfl ?_
      exact xs_iret dX4_findRing_46 rfl rfl
    · refine xs_iconst (n := 37) (v := (0 : Int32)) dX4_findRing_36 rfl rfl ?_
      exact xs_iret dX4_findRing_37 rfl rfl
  · refine xs_iload (n := 16) dX4_findRing_14 rfl rfl ?_
    exact xs_iret dX4_findRing_16 rfl rfl
def fn_X11_ring (m : Nat) (x0 : Int32) (u0 : xm_Y) : Option (Int32 × xm_Y) :=
  ((fn_X11_isTurns m x0 u0).bind fun q1 =>
  ((if q1.1 = 0 then (
  some ((-1 : Int32), q1.2)) else (
  ((fn_X4_findRing m x0 q1.2).bind fun q5 =>
  some (q5.1, q5.2))) : Option (Int32 × xm_Y)).bind fun q2 =>
  some (q2.1, q2.2)))
theorem en_X11_ring (m : Nat) (x0 : Int32) (u0 : xm_Y) : xs_ (fun x : Int32 => some (.int x)) sg_0 mt_X11_ring 0 [some (.ref 0), some (.int x0)] [] u0 0 0 (fn_X11_ring m x0 u0) := by
  refine xs_top ?_
  rw [fn_X11_ring]
  refine xs_iload_n (n := 1) dX11_ring_0 rfl rfl ?_
  refine ys_callsi (n := 4) (N := mt_X11_isTurns) dX11_ring_1 rfl ok_X11_isTurns tw_416 st_X11_isTurns ⟨Nat.le_of_ble_eq_true rfl, Nat.le_of_ble_eq_true rfl⟩ [.int x0] [] rfl rfl (Nat.le_of_ble_eq_true rfl) rfl (Nat.le_of_ble_eq_true rfl) (en_X11_isTurns m x0 u0) (fun q1 => ?_)
  refine xs_join 27 (fun q2 => [none, none]) (fun q2 => [.int q2.1]) (fun q2 => q2.2) (fun q2 => ?_) (fun kj3 => ?_)
  · exact xs_iret dX11_ring_27 rfl rfl
  · refine xs_if_eq (n := 7) (tgt := 26) dX11_ring_4 rfl rfl (fun hc4 => ?_) (fun hc4 => ?_)
    · refine xs_iconst (n := 27) (v := (-1 : Int32)) dX11_ring_26 rfl rfl ?_
      exact xs_gf (xs_end (kj3 ((-1 : Int32), q1.2))) trivial
    · refine xs_aload_n (n := 8) dX11_ring_7 rfl rfl ?_
      refine ys_getr (n := 11) dX11_ring_8 rfl fl_X11_23 sh_0 rfl ?_
      refine xs_aload_n (n := 12) dX11_ring_11 rfl rfl ?_
      refine ys_getr (n := 15) dX11_ring_12 rfl fl_X11_10 sh_0 rfl ?_
      refine xs_aload_n (n := 16) dX11_ring_15 rfl rfl ?_
      refine ys_getr (n := 19) dX11_ring_16 rfl fl_X11_16 sh_0 rfl ?_
      refine xs_iload_n (n := 20) dX11_ring_19 rfl rfl ?_
      refine ys_callvi (n := 23) (N := mt_X4_findRing) dX11_ring_20 rfl ok_X4_findRing tw_452 im_X4_findRing se_X4_findRing ⟨Nat.le_of_ble_eq_true rfl, Nat.le_of_ble_eq_true rfl⟩ [.ref 1, .ref 123, .int x0] [] rfl rfl (Nat.le_of_ble_eq_true rfl) rfl (Nat.le_of_ble_eq_true rfl) (en_X4_findRing m x0 q1.2) sh_124 (by decide) rfl (fun q5 => ?_)
      refine xs_goto (n := 27) dX11_ring_23 rfl ?_
      exact xs_gf (xs_end (kj3 (q5.1, q5.2))) trivial
def fn_X11_ahead (m : Nat) (u0 : xm_Y) : Option (Int32 × xm_Y) :=
  some ((u0.1 124 2), u0)
theorem en_X11_ahead (m : Nat) (u0 : xm_Y) : xs_ (fun x : Int32 => some (.int x)) sg_0 mt_X11_ahead 0 [some (.ref 0)] [] u0 0 0 (fn_X11_ahead m u0) := by
  refine xs_top ?_
  rw [fn_X11_ahead]
  refine xs_aload_n (n := 1) dX11_ahead_0 rfl rfl ?_
  refine ys_getr (n := 4) dX11_ahead_1 rfl fl_X11_23 sh_0 rfl ?_
  refine ys_geti (n := 7) dX11_ahead_4 rfl fl_X11_157 (Or.inl rfl) sh_124 ?_
  exact xs_iret dX11_ahead_7 rfl rfl
def lp_X11_ask_24 (m : Nat) (u0 : xm_Y) : Nat → Int32 → Option ((Int32 × xm_Y) ⊕ (Int32))
  | 0, _ => none
  | n + 1, l4 =>
  if (3 : Int32) ≤ l4 then (
  some (.inr (l4))) else (
  xm_chk (xm_in l4 3) (
  if (u0.1 145 (Int32.toNatClampNeg l4)) < (-100 : Int32) then (
  some (.inl ((0 : Int32), u0))) else (
  xm_chk (xm_in l4 3) (
  if (u0.1 145 (Int32.toNatClampNeg l4)) ≤ (100 : Int32) then (
  if l4 < (u0.1 1 1) then (
  xm_let (α := Int32) (l4 + (1 : Int32)) fun v8 =>
  lp_X11_ask_24 m u0 n v8) else (
  xm_chk (xm_in l4 3) (
  if (u0.1 145 (Int32.toNatClampNeg l4)) = 0 then (
  xm_let (α := Int32) (l4 + (1 : Int32)) fun v10 =>
  lp_X11_ask_24 m u0 n v10) else (
  some (.inl ((0 : Int32), u0)))))) else (
  some (.inl ((0 : Int32), u0)))))))
def fn_X11_ask (m : Nat) (x0 : Int32) (x1 : Int32) (x2 : Int32) (u0 : xm_Y) : Option (Int32 × xm_Y) :=
  xm_chk (xm_in (0 : Int32) 3) (xm_let (w_I u0 145 (Int32.toNatClampNeg (0 : Int32)) x0) fun u1 =>
  xm_chk (xm_in (1 : Int32) 3) (xm_let (w_I u1 145 (Int32.toNatClampNeg (1 : Int32)) x1) fun u2 =>
  xm_chk (xm_in (2 : Int32) 3) (xm_let (w_I u2 145 (Int32.toNatClampNeg (2 : Int32)) x2) fun u3 =>
  ((lp_X11_ask_24 m u3 m (0 : Int32)).bind (Sum.elim (fun r => some r) (fun q11 =>
  some ((1 : Int32), u3)))))))
theorem el_X11_ask_24 (m : Nat) (u0 : xm_Y) (K : (Int32 × xm_Y) ⊕ (Int32) → Option (Int32 × xm_Y)) (hK : ∀ r, K (.inl r) = some r) (kE : ∀ q : Int32, xs_ (fun x : Int32 => some (.int x)) sg_0 mt_X11_ask 86 [none, none, none, none, none] [] u0 0 0 (K (.inr q))) : ∀ (n : Nat) (l4 : Int32), xs_ (fun x : Int32 => some (.int x)) sg_0 mt_X11_ask 24 [some (.ref 0), none, none, none, some (.int l4)] [] u0 0 0 ((lp_X11_ask_24 m u0 n l4).bind K) := by
  intro n
  induction n with
  | zero =>
    intro l4
    exact xs_none
  | succ n ih =>
    intro l4
    rw [lp_X11_ask_24]
    refine xs_iload (n := 26) dX11_ask_24 rfl rfl ?_
    refine xs_iconst (n := 27) (v := (3 : Int32)) dX11_ask_26 rfl rfl ?_
    refine xs_icmp_ge (n := 30) (tgt := 86) dX11_ask_27 rfl rfl (fun hc4 => ?_) (fun hc4 => ?_)
    · exact xs_gf (xs_end (kE (l4))) trivial
    · refine xs_aload_n (n := 31) dX11_ask_30 rfl rfl ?_
      refine ys_getr (n := 34) dX11_ask_31 rfl fl_X11_58 sh_0 rfl ?_
      refine xs_iload (n := 36) dX11_ask_34 rfl rfl ?_
      refine ys_iaload (n := 37) dX11_ask_36 rfl sh_145 ?_
      refine xs_bipush (n := 39) (v := (-100 : Int32)) dX11_ask_37 rfl rfl ?_
      refine xs_icmp_lt (n := 42) (tgt := 54) dX11_ask_39 rfl rfl (fun hc5 => ?_) (fun hc5 => ?_)
      · refine xs_iconst (n := 55) (v := (0 : Int32)) dX11_ask_54 rfl rfl ?_
        exact xs_zretc dX11_ask_55 rfl (Or.inl rfl) (hK _)
      · refine xs_aload_n (n := 43) dX11_ask_42 rfl rfl ?_
        refine ys_getr (n := 46) dX11_ask_43 rfl fl_X11_58 sh_0 rfl ?_
        refine xs_iload (n := 48) dX11_ask_46 rfl rfl ?_
        refine ys_iaload (n := 49) dX11_ask_48 rfl sh_145 ?_
        refine xs_bipush (n := 51) (v := (100 : Int32)) dX11_ask_49 rfl rfl ?_
        refine xs_icmp_le (n := 54) (tgt := 56) dX11_ask_51 rfl rfl (fun hc6 => ?_) (fun hc6 => ?_)
        · refine xs_iload (n := 58) dX11_ask_56 rfl rfl ?_
          refine xs_aload_n (n := 59) dX11_ask_58 rfl rfl ?_
          refine ys_getr (n := 62) dX11_ask_59 rfl fl_X11_10 sh_0 rfl ?_
          refine ys_geti (n := 65) dX11_ask_62 rfl fl_X11_69 (Or.inl rfl) sh_1 ?_
          refine xs_icmp_lt (n := 68) (tgt := 80) dX11_ask_65 rfl rfl (fun hc7 => ?_) (fun hc7 => ?_)
          · refine xs_iincl (n := 83) (dv := (1 : Int32)) (fun v8 => [some (.ref 0), none, none, none, some (.int v8)]) dX11_ask_80 rfl rfl rfl (Nat.le_of_ble_eq_true rfl) (fun _ => rfl) (fun v8 => ?_)
            refine xs_goto (n := 24) dX11_ask_83 rfl ?_
            exact xs_gf (ih v8) (And.intro rfl (And.intro rfl trivial))
          · refine xs_aload_n (n := 69) dX11_ask_68 rfl rfl ?_
            refine ys_getr (n := 72) dX11_ask_69 rfl fl_X11_58 sh_0 rfl ?_
            refine xs_iload (n := 74) dX11_ask_72 rfl rfl ?_
            refine ys_iaload (n := 75) dX11_ask_74 rfl sh_145 ?_
            refine xs_if_eq (n := 78) (tgt := 80) dX11_ask_75 rfl rfl (fun hc9 => ?_) (fun hc9 => ?_)
            · refine xs_iincl (n := 83) (dv := (1 : Int32)) (fun v10 => [some (.ref 0), none, none, none, some (.int v10)]) dX11_ask_80 rfl rfl rfl (Nat.le_of_ble_eq_true rfl) (fun _ => rfl) (fun v10 => ?_)
              refine xs_goto (n := 24) dX11_ask_83 rfl ?_
              exact xs_gf (ih v10) (And.intro rfl (And.intro rfl trivial))
            · refine xs_iconst (n := 79) (v := (0 : Int32)) dX11_ask_78 rfl rfl ?_
              exact xs_zretc dX11_ask_79 rfl (Or.inl rfl) (hK _)
        · refine xs_iconst (n := 55) (v := (0 : Int32)) dX11_ask_54 rfl rfl ?_
          exact xs_zretc dX11_ask_55 rfl (Or.inl rfl) (hK _)
theorem en_X11_ask (m : Nat) (x0 : Int32) (x1 : Int32) (x2 : Int32) (u0 : xm_Y) : xs_ (fun x : Int32 => some (.int x)) sg_0 mt_X11_ask 0 [some (.ref 0), some (.int x0), some (.int x1), some (.int x2), none] [] u0 0 0 (fn_X11_ask m x0 x1 x2 u0) := by
  refine xs_top ?_
  rw [fn_X11_ask]
  refine xs_aload_n (n := 1) dX11_ask_0 rfl rfl ?_
  refine ys_getr (n := 4) dX11_ask_1 rfl fl_X11_58 sh_0 rfl ?_
  refine xs_iconst (n := 5) (v := (0 : Int32)) dX11_ask_4 rfl rfl ?_
  refine xs_iload_n (n := 6) dX11_ask_5 rfl rfl ?_
  refine ys_iastore (n := 7) dX11_ask_6 rfl sh_145 (fun u1 => ?_)
  refine xs_aload_n (n := 8) dX11_ask_7 rfl rfl ?_
  refine ys_getr (n := 11) dX11_ask_8 rfl fl_X11_58 sh_0 rfl ?_
  refine xs_iconst (n := 12) (v := (1 : Int32)) dX11_ask_11 rfl rfl ?_
  refine xs_iload_n (n := 13) dX11_ask_12 rfl rfl ?_
  refine ys_iastore (n := 14) dX11_ask_13 rfl sh_145 (fun u2 => ?_)
  refine xs_aload_n (n := 15) dX11_ask_14 rfl rfl ?_
  refine ys_getr (n := 18) dX11_ask_15 rfl fl_X11_58 sh_0 rfl ?_
  refine xs_iconst (n := 19) (v := (2 : Int32)) dX11_ask_18 rfl rfl ?_
  refine xs_iload_n (n := 20) dX11_ask_19 rfl rfl ?_
  refine ys_iastore (n := 21) dX11_ask_20 rfl sh_145 (fun u3 => ?_)
  refine xs_iconst (n := 22) (v := (0 : Int32)) dX11_ask_21 rfl rfl ?_
  refine xs_istore (n := 24) (lv' := [some (.ref 0), some (.int x0), some (.int x1), some (.int x2), some (.int (0 : Int32))]) dX11_ask_22 rfl (Nat.le_of_ble_eq_true rfl) rfl ?_
  refine xs_reg ?_
  refine xs_fg (lv' := [some (.ref 0), none, none, none, some (.int (0 : Int32))]) (And.intro rfl (And.intro rfl trivial)) ?_
  refine el_X11_ask_24 m u3 _ (fun _ => rfl) (fun q11 => ?_) m (0 : Int32)
  refine xs_inr ?_
  refine xs_iconst (n := 87) (v := (1 : Int32)) dX11_ask_86 rfl rfl ?_
  exact xs_zretc dX11_ask_87 rfl (Or.inr rfl) rfl
def fn_X9_addPlane (m : Nat) (x0 : Int64) (x1 : Int64) (x2 : Int64) (x3 : Int64) (u0 : xm_Y) : Option (Unit × xm_Y) :=
  if (u0.1 136 1) < (12 : Int32) then (
  xm_chk (xm_in ((4 : Int32) * (u0.1 136 1)) 48) (xm_let (w_J u0 137 (Int32.toNatClampNeg ((4 : Int32) * (u0.1 136 1))) x0) fun u2 =>
  xm_chk (xm_in (((4 : Int32) * (u2.1 136 1)) + (1 : Int32)) 48) (xm_let (w_J u2 137 (Int32.toNatClampNeg (((4 : Int32) * (u2.1 136 1)) + (1 : Int32))) x1) fun u3 =>
  xm_chk (xm_in (((4 : Int32) * (u3.1 136 1)) + (2 : Int32)) 48) (xm_let (w_J u3 137 (Int32.toNatClampNeg (((4 : Int32) * (u3.1 136 1)) + (2 : Int32))) x2) fun u4 =>
  xm_chk (xm_in (((4 : Int32) * (u4.1 136 1)) + (3 : Int32)) 48) (xm_let (w_J u4 137 (Int32.toNatClampNeg (((4 : Int32) * (u4.1 136 1)) + (3 : Int32))) x3) fun u5 =>
  xm_let (w_I u5 136 1 ((u5.1 136 1) + (1 : Int32))) fun u6 =>
  some ((), u6)))))) else (
  some ((), u0))
theorem en_X9_addPlane (m : Nat) (x0 : Int64) (x1 : Int64) (x2 : Int64) (x3 : Int64) (u0 : xm_Y) : xs_ (fun _ : Unit => none) sg_0 mt_X9_addPlane 0 [some (.ref 136), some (.long x0), none, some (.long x1), none, some (.long x2), none, some (.long x3), none] [] u0 0 0 (fn_X9_addPlane m x0 x1 x2 x3 u0) := by
  refine xs_top ?_
  rw [fn_X9_addPlane]
  refine xs_aload_n (n := 1) dX9_addPlane_0 rfl rfl ?_
  refine ys_geti (n := 4) dX9_addPlane_1 rfl fl_X9_48 (Or.inl rfl) sh_136 ?_
  refine xs_bipush (n := 6) (v := (12 : Int32)) dX9_addPlane_4 rfl rfl ?_
  refine xs_icmp_lt (n := 9) (tgt := 10) dX9_addPlane_6 rfl rfl (fun hc1 => ?_) (fun hc1 => ?_)
  · refine xs_aload_n (n := 11) dX9_addPlane_10 rfl rfl ?_
    refine ys_getr (n := 14) dX9_addPlane_11 rfl fl_X9_11 sh_136 rfl ?_
    refine xs_iconst (n := 15) (v := (4 : Int32)) dX9_addPlane_14 rfl rfl ?_
    refine xs_aload_n (n := 16) dX9_addPlane_15 rfl rfl ?_
    refine ys_geti (n := 19) dX9_addPlane_16 rfl fl_X9_48 (Or.inl rfl) sh_136 ?_
    refine xs_imul (n := 20) dX9_addPlane_19 rfl ?_
    refine xs_lload_n (n := 21) dX9_addPlane_20 rfl rfl ?_
    refine ys_lastore (n := 22) dX9_addPlane_21 rfl sh_137 (fun u2 => ?_)
    refine xs_aload_n (n := 23) dX9_addPlane_22 rfl rfl ?_
    refine ys_getr (n := 26) dX9_addPlane_23 rfl fl_X9_11 sh_136 rfl ?_
    refine xs_iconst (n := 27) (v := (4 : Int32)) dX9_addPlane_26 rfl rfl ?_
    refine xs_aload_n (n := 28) dX9_addPlane_27 rfl rfl ?_
    refine ys_geti (n := 31) dX9_addPlane_28 rfl fl_X9_48 (Or.inl rfl) sh_136 ?_
    refine xs_imul (n := 32) dX9_addPlane_31 rfl ?_
    refine xs_iconst (n := 33) (v := (1 : Int32)) dX9_addPlane_32 rfl rfl ?_
    refine xs_iadd (n := 34) dX9_addPlane_33 rfl ?_
    refine xs_lload_n (n := 35) dX9_addPlane_34 rfl rfl ?_
    refine ys_lastore (n := 36) dX9_addPlane_35 rfl sh_137 (fun u3 => ?_)
    refine xs_aload_n (n := 37) dX9_addPlane_36 rfl rfl ?_
    refine ys_getr (n := 40) dX9_addPlane_37 rfl fl_X9_11 sh_136 rfl ?_
    refine xs_iconst (n := 41) (v := (4 : Int32)) dX9_addPlane_40 rfl rfl ?_
    refine xs_aload_n (n := 42) dX9_addPlane_41 rfl rfl ?_
    refine ys_geti (n := 45) dX9_addPlane_42 rfl fl_X9_48 (Or.inl rfl) sh_136 ?_
    refine xs_imul (n := 46) dX9_addPlane_45 rfl ?_
    refine xs_iconst (n := 47) (v := (2 : Int32)) dX9_addPlane_46 rfl rfl ?_
    refine xs_iadd (n := 48) dX9_addPlane_47 rfl ?_
    refine xs_lload (n := 50) dX9_addPlane_48 rfl rfl ?_
    refine ys_lastore (n := 51) dX9_addPlane_50 rfl sh_137 (fun u4 => ?_)
    refine xs_aload_n (n := 52) dX9_addPlane_51 rfl rfl ?_
    refine ys_getr (n := 55) dX9_addPlane_52 rfl fl_X9_11 sh_136 rfl ?_
    refine xs_iconst (n := 56) (v := (4 : Int32)) dX9_addPlane_55 rfl rfl ?_
    refine xs_aload_n (n := 57) dX9_addPlane_56 rfl rfl ?_
    refine ys_geti (n := 60) dX9_addPlane_57 rfl fl_X9_48 (Or.inl rfl) sh_136 ?_
    refine xs_imul (n := 61) dX9_addPlane_60 rfl ?_
    refine xs_iconst (n := 62) (v := (3 : Int32)) dX9_addPlane_61 rfl rfl ?_
    refine xs_iadd (n := 63) dX9_addPlane_62 rfl ?_
    refine xs_lload (n := 65) dX9_addPlane_63 rfl rfl ?_
    refine ys_lastore (n := 66) dX9_addPlane_65 rfl sh_137 (fun u5 => ?_)
    refine xs_aload_n (n := 67) dX9_addPlane_66 rfl rfl ?_
    refine xs_dup (n := 68) dX9_addPlane_67 rfl rfl ?_
    refine ys_geti (n := 71) dX9_addPlane_68 rfl fl_X9_48 (Or.inl rfl) sh_136 ?_
    refine xs_iconst (n := 72) (v := (1 : Int32)) dX9_addPlane_71 rfl rfl ?_
    refine xs_iadd (n := 73) dX9_addPlane_72 rfl ?_
    refine ys_puti (n := 76) dX9_addPlane_73 rfl fl_X9_48 rfl sh_136 (fun u6 => ?_)
    exact xs_vret dX9_addPlane_76 rfl rfl
  · exact xs_vret dX9_addPlane_9 rfl rfl
def fn_X9_addAxisPlane (m : Nat) (x0 : Int32) (x1 : Int64) (x2 : Int64) (u0 : xm_Y) : Option (Unit × xm_Y) :=
  ((if x0 = 0 then (
  some (x1)) else (
  some ((0 : Int64))) : Option (Int64)).bind fun q1 =>
  ((if x0 = (1 : Int32) then (
  some (x1)) else (
  some ((0 : Int64))) : Option (Int64)).bind fun q4 =>
  ((if x0 = (2 : Int32) then (
  some (x1)) else (
  some ((0 : Int64))) : Option (Int64)).bind fun q7 =>
  ((fn_X9_addPlane m q1 q4 q7 x2 u0).bind fun q10 =>
  some ((), q10.2)))))
theorem en_X9_addAxisPlane (m : Nat) (x0 : Int32) (x1 : Int64) (x2 : Int64) (u0 : xm_Y) : xs_ (fun _ : Unit => none) sg_0 mt_X9_addAxisPlane 0 [some (.ref 136), some (.int x0), some (.long x1), none, some (.long x2), none] [] u0 0 0 (fn_X9_addAxisPlane m x0 x1 x2 u0) := by
  refine xs_top ?_
  rw [fn_X9_addAxisPlane]
  refine xs_aload_n (n := 1) dX9_addAxisPlane_0 rfl rfl ?_
  refine xs_iload_n (n := 2) dX9_addAxisPlane_1 rfl rfl ?_
  refine xs_join 10 (fun q1 => [none, some (.int x0), some (.long x1), none, some (.long x2), none]) (fun q1 => [.long q1, .ref 136]) (fun q1 => u0) (fun q1 => ?_) (fun kj2 => ?_)
  · refine xs_iload_n (n := 11) dX9_addAxisPlane_10 rfl rfl ?_
    refine xs_iconst (n := 12) (v := (1 : Int32)) dX9_addAxisPlane_11 rfl rfl ?_
    refine xs_join 20 (fun q4 => [none, some (.int x0), some (.long x1), none, some (.long x2), none]) (fun q4 => [.long q4, .long q1, .ref 136]) (fun q4 => u0) (fun q4 => ?_) (fun kj5 => ?_)
    · refine xs_iload_n (n := 21) dX9_addAxisPlane_20 rfl rfl ?_
      refine xs_iconst (n := 22) (v := (2 : Int32)) dX9_addAxisPlane_21 rfl rfl ?_
      refine xs_join 30 (fun q7 => [none, none, none, none, some (.long x2), none]) (fun q7 => [.long q7, .long q4, .long q1, .ref 136]) (fun q7 => u0) (fun q7 => ?_) (fun kj8 => ?_)
      · refine xs_lload (n := 32) dX9_addAxisPlane_30 rfl rfl ?_
        refine ys_callvv (n := 35) (N := mt_X9_addPlane) dX9_addAxisPlane_32 rfl ok_X9_addPlane tw_499 im_X9_addPlane se_X9_addPlane ⟨Nat.le_of_ble_eq_true rfl, Nat.le_of_ble_eq_true rfl⟩ [.long q1, .long q4, .long q7, .long x2] [] rfl rfl (Nat.le_of_ble_eq_true rfl) rfl (Nat.le_of_ble_eq_true rfl) (en_X9_addPlane m q1 q4 q7 x2 u0) sh_136 (by decide) rfl (fun q10 => ?_)
        exact xs_vret dX9_addAxisPlane_35 rfl rfl
      · refine xs_icmp_ne (n := 25) (tgt := 29) dX9_addAxisPlane_22 rfl rfl (fun hc9 => ?_) (fun hc9 => ?_)
        · refine xs_lload_n (n := 26) dX9_addAxisPlane_25 rfl rfl ?_
          refine xs_goto (n := 30) dX9_addAxisPlane_26 rfl ?_
          exact xs_gf (xs_end (kj8 (x1))) (And.intro rfl trivial)
        · refine xs_lconst (n := 30) (v := (0 : Int64)) dX9_addAxisPlane_29 rfl rfl ?_
          exact xs_gf (xs_end (kj8 ((0 : Int64)))) (And.intro rfl trivial)
    · refine xs_icmp_ne (n := 15) (tgt := 19) dX9_addAxisPlane_12 rfl rfl (fun hc6 => ?_) (fun hc6 => ?_)
      · refine xs_lload_n (n := 16) dX9_addAxisPlane_15 rfl rfl ?_
        refine xs_goto (n := 20) dX9_addAxisPlane_16 rfl ?_
        exact xs_gf (xs_end (kj5 (x1))) (And.intro rfl (And.intro rfl (And.intro rfl trivial)))
      · refine xs_lconst (n := 20) (v := (0 : Int64)) dX9_addAxisPlane_19 rfl rfl ?_
        exact xs_gf (xs_end (kj5 ((0 : Int64)))) (And.intro rfl (And.intro rfl (And.intro rfl trivial)))
  · refine xs_if_ne (n := 5) (tgt := 9) dX9_addAxisPlane_2 rfl rfl (fun hc3 => ?_) (fun hc3 => ?_)
    · refine xs_lload_n (n := 6) dX9_addAxisPlane_5 rfl rfl ?_
      refine xs_goto (n := 10) dX9_addAxisPlane_6 rfl ?_
      exact xs_gf (xs_end (kj2 (x1))) (And.intro rfl (And.intro rfl (And.intro rfl trivial)))
    · refine xs_lconst (n := 10) (v := (0 : Int64)) dX9_addAxisPlane_9 rfl rfl ?_
      exact xs_gf (xs_end (kj2 ((0 : Int64)))) (And.intro rfl (And.intro rfl (And.intro rfl trivial)))
def lp_X9_gather_7 (m : Nat) (b1 : Nat) : Nat → Int32 → xm_Y → Option (Int32 × xm_Y)
  | 0, _, _ => none
  | n + 1, l3, u0 =>
  if (u0.1 (3 + 24 * b1) 4) ≤ l3 then (
  some (l3, u0)) else (
  xm_chk (xm_in l3 6) (
  xm_chk (xm_in (0 : Int32) 3) (
  xm_chk (xm_in (1 : Int32) 3) (
  xm_chk (xm_in (2 : Int32) 3) (
  xm_chk (xm_in l3 6) (
  ((fn_X9_addPlane m (Int32.toInt64 (u0.1 ((9 + 24 * b1 + 2 * (Int32.toNatClampNeg l3)) + 1) (Int32.toNatClampNeg (0 : Int32)))) (Int32.toInt64 (u0.1 ((9 + 24 * b1 + 2 * (Int32.toNatClampNeg l3)) + 1) (Int32.toNatClampNeg (1 : Int32)))) (Int32.toInt64 (u0.1 ((9 + 24 * b1 + 2 * (Int32.toNatClampNeg l3)) + 1) (Int32.toNatClampNeg (2 : Int32)))) (Int32.toInt64 (u0.1 (9 + 24 * b1 + 2 * (Int32.toNatClampNeg l3)) 1)) u0).bind fun q5 =>
  xm_let (α := Int32) (l3 + (1 : Int32)) fun v6 =>
  lp_X9_gather_7 m b1 n v6 q5.2)))))))
def lp_X9_gather_63 (m : Nat) : Nat → Int32 → xm_Y → Option (Int32 × xm_Y)
  | 0, _, _ => none
  | n + 1, l3, u0 =>
  if (3 : Int32) ≤ l3 then (
  some (l3, u0)) else (
  ((fn_X2_end m 127 l3 (0 : Int32) u0).bind fun q9 =>
  ((if q9.1 = (-3000000000000 : Int64) then (
  some (q9.2)) else (
  ((fn_X2_end m 127 l3 (0 : Int32) q9.2).bind fun q13 =>
  ((fn_X9_addAxisPlane m l3 (1 : Int64) (-q13.1) q13.2).bind fun q14 =>
  some (q14.2)))) : Option (xm_Y)).bind fun q10 =>
  ((fn_X2_end m 127 l3 (1 : Int32) q10).bind fun q15 =>
  ((if q15.1 = (-3000000000000 : Int64) then (
  some (q15.2)) else (
  ((fn_X2_end m 127 l3 (1 : Int32) q15.2).bind fun q19 =>
  ((fn_X9_addAxisPlane m l3 (-1 : Int64) q19.1 q19.2).bind fun q20 =>
  some (q20.2)))) : Option (xm_Y)).bind fun q16 =>
  xm_let (α := Int32) (l3 + (1 : Int32)) fun v21 =>
  lp_X9_gather_63 m n v21 q16)))))
def lp_X9_gather_137 (m : Nat) : Nat → Int32 → xm_Y → Option (Int32 × xm_Y)
  | 0, _, _ => none
  | n + 1, l3, u0 =>
  if (3 : Int32) ≤ l3 then (
  some (l3, u0)) else (
  ((fn_X2_end m 127 l3 (0 : Int32) u0).bind fun q25 =>
  ((if q25.1 = (-3000000000000 : Int64) then (
  ((fn_X2_end m 127 l3 (1 : Int32) q25.2).bind fun q29 =>
  if q29.1 = (-3000000000000 : Int64) then (
  ((fn_X9_addAxisPlane m l3 (1 : Int64) (0 : Int64) q29.2).bind fun q31 =>
  some (q31.2))) else (
  some (q29.2)))) else (
  some (q25.2)) : Option (xm_Y)).bind fun q26 =>
  xm_let (α := Int32) (l3 + (1 : Int32)) fun v32 =>
  lp_X9_gather_137 m n v32 q26)))
def fn_X9_gather (m : Nat) (bb : Nat) (u0 : xm_Y) : Option (Unit × xm_Y) :=
  xm_let (w_I u0 136 1 (0 : Int32)) fun u1 =>
  ((lp_X9_gather_7 m bb m (0 : Int32) u1).bind fun q7 =>
  ((lp_X9_gather_63 m m (0 : Int32) q7.2).bind fun q22 =>
  xm_let (w_I q22.2 136 2 (q22.2.1 136 1)) fun u23 =>
  ((lp_X9_gather_137 m m (0 : Int32) u23).bind fun q33 =>
  some ((), q33.2))))
theorem el_X9_gather_7 (m : Nat) (b1 : Nat) (hb1 : b1 < 5) (K : Int32 × xm_Y → Option (Unit × xm_Y)) (kE : ∀ q : Int32 × xm_Y, xs_ (fun _ : Unit => none) sg_0 mt_X9_gather 61 [some (.ref 136), none, some (.ref 127), none, none] [] q.2 0 0 (K q)) : ∀ (n : Nat) (l3 : Int32) (u0 : xm_Y), xs_ (fun _ : Unit => none) sg_0 mt_X9_gather 7 [some (.ref 136), some (.ref (3 + 24 * b1)), some (.ref 127), some (.int l3), none] [] u0 0 0 ((lp_X9_gather_7 m b1 n l3 u0).bind K) := by
  intro n
  induction n with
  | zero =>
    intro l3 u0
    exact xs_none
  | succ n ih =>
    intro l3 u0
    rw [lp_X9_gather_7]
    refine xs_iload_n (n := 8) dX9_gather_7 rfl rfl ?_
    refine xs_aload_n (n := 9) dX9_gather_8 rfl rfl ?_
    refine ys_geti (n := 12) dX9_gather_9 rfl fl_X9_52 (Or.inl rfl) (bd_s hb1) ?_
    refine xs_icmp_ge (n := 15) (tgt := 61) dX9_gather_12 rfl rfl (fun hc2 => ?_) (fun hc2 => ?_)
    · exact xs_gf (xs_end (kE (l3, u0))) (And.intro rfl (And.intro rfl trivial))
    · refine xs_aload_n (n := 16) dX9_gather_15 rfl rfl ?_
      refine ys_getr (n := 19) dX9_gather_16 rfl fl_X9_55 (bd_s hb1) (bd_r0 hb1) ?_
      refine xs_iload_n (n := 20) dX9_gather_19 rfl rfl ?_
      refine ys_aaload16 (n := 21) dX9_gather_20 rfl (bg_s hb1) (fun hi3 => bg_r hb1 (xin_n hi3)) (fun hi3 => ?_)
      refine ys_getr (n := 24) dX9_gather_21 rfl fl_X9_59 (bg_a hb1 (xin_n hi3)).1 (bg_a hb1 (xin_n hi3)).2.1 ?_
      refine xs_astore (n := 26) (lv' := [some (.ref 136), some (.ref (3 + 24 * b1)), some (.ref 127), some (.int l3), some (.ref ((9 + 24 * b1 + 2 * (Int32.toNatClampNeg l3)) + 1))]) dX9_gather_24 rfl (Nat.le_of_ble_eq_true rfl) rfl ?_
      refine xs_aload_n (n := 27) dX9_gather_26 rfl rfl ?_
      refine xs_aload (n := 29) dX9_gather_27 rfl rfl ?_
      refine xs_iconst (n := 30) (v := (0 : Int32)) dX9_gather_29 rfl rfl ?_
      refine ys_iaload (n := 31) dX9_gather_30 rfl (bg_a hb1 (xin_n hi3)).2.2 ?_
      refine xs_i2l (n := 32) dX9_gather_31 rfl ?_
      refine xs_aload (n := 34) dX9_gather_32 rfl rfl ?_
      refine xs_iconst (n := 35) (v := (1 : Int32)) dX9_gather_34 rfl rfl ?_
      refine ys_iaload (n := 36) dX9_gather_35 rfl (bg_a hb1 (xin_n hi3)).2.2 ?_
      refine xs_i2l (n := 37) dX9_gather_36 rfl ?_
      refine xs_aload (n := 39) dX9_gather_37 rfl rfl ?_
      refine xs_iconst (n := 40) (v := (2 : Int32)) dX9_gather_39 rfl rfl ?_
      refine ys_iaload (n := 41) dX9_gather_40 rfl (bg_a hb1 (xin_n hi3)).2.2 ?_
      refine xs_i2l (n := 42) dX9_gather_41 rfl ?_
      refine xs_aload_n (n := 43) dX9_gather_42 rfl rfl ?_
      refine ys_getr (n := 46) dX9_gather_43 rfl fl_X9_55 (bd_s hb1) (bd_r0 hb1) ?_
      refine xs_iload_n (n := 47) dX9_gather_46 rfl rfl ?_
      refine ys_aaload16 (n := 48) dX9_gather_47 rfl (bg_s hb1) (fun hi4 => bg_r hb1 (xin_n hi4)) (fun hi4 => ?_)
      refine ys_geti (n := 51) dX9_gather_48 rfl fl_X9_65 (Or.inl rfl) (bg_a hb1 (xin_n hi4)).1 ?_
      refine xs_i2l (n := 52) dX9_gather_51 rfl ?_
      refine ys_callvv (n := 55) (N := mt_X9_addPlane) dX9_gather_52 rfl ok_X9_addPlane tw_499 im_X9_addPlane se_X9_addPlane ⟨Nat.le_of_ble_eq_true rfl, Nat.le_of_ble_eq_true rfl⟩ [.long (Int32.toInt64 (u0.1 ((9 + 24 * b1 + 2 * (Int32.toNatClampNeg l3)) + 1) (Int32.toNatClampNeg (0 : Int32)))), .long (Int32.toInt64 (u0.1 ((9 + 24 * b1 + 2 * (Int32.toNatClampNeg l3)) + 1) (Int32.toNatClampNeg (1 : Int32)))), .long (Int32.toInt64 (u0.1 ((9 + 24 * b1 + 2 * (Int32.toNatClampNeg l3)) + 1) (Int32.toNatClampNeg (2 : Int32)))), .long (Int32.toInt64 (u0.1 (9 + 24 * b1 + 2 * (Int32.toNatClampNeg l3)) 1))] [] rfl rfl (Nat.le_of_ble_eq_true rfl) rfl (Nat.le_of_ble_eq_true rfl) (en_X9_addPlane m (Int32.toInt64 (u0.1 ((9 + 24 * b1 + 2 * (Int32.toNatClampNeg l3)) + 1) (Int32.toNatClampNeg (0 : Int32)))) (Int32.toInt64 (u0.1 ((9 + 24 * b1 + 2 * (Int32.toNatClampNeg l3)) + 1) (Int32.toNatClampNeg (1 : Int32)))) (Int32.toInt64 (u0.1 ((9 + 24 * b1 + 2 * (Int32.toNatClampNeg l3)) + 1) (Int32.toNatClampNeg (2 : Int32)))) (Int32.toInt64 (u0.1 (9 + 24 * b1 + 2 * (Int32.toNatClampNeg l3)) 1)) u0) sh_136 (by decide) rfl (fun q5 => ?_)
      refine xs_iincl (n := 58) (dv := (1 : Int32)) (fun v6 => [some (.ref 136), some (.ref (3 + 24 * b1)), some (.ref 127), some (.int v6), some (.ref ((9 + 24 * b1 + 2 * (Int32.toNatClampNeg l3)) + 1))]) dX9_gather_55 rfl rfl rfl (Nat.le_of_ble_eq_true rfl) (fun _ => rfl) (fun v6 => ?_)
      refine xs_goto (n := 7) dX9_gather_58 rfl ?_
      exact xs_gf (ih v6 q5.2) (And.intro rfl (And.intro rfl (And.intro rfl (And.intro rfl trivial))))
theorem el_X9_gather_63 (m : Nat) (K : Int32 × xm_Y → Option (Unit × xm_Y)) (kE : ∀ q : Int32 × xm_Y, xs_ (fun _ : Unit => none) sg_0 mt_X9_gather 127 [some (.ref 136), none, some (.ref 127), none, none] [] q.2 0 0 (K q)) : ∀ (n : Nat) (l3 : Int32) (u0 : xm_Y), xs_ (fun _ : Unit => none) sg_0 mt_X9_gather 63 [some (.ref 136), none, some (.ref 127), some (.int l3), none] [] u0 0 0 ((lp_X9_gather_63 m n l3 u0).bind K) := by
  intro n
  induction n with
  | zero =>
    intro l3 u0
    exact xs_none
  | succ n ih =>
    intro l3 u0
    rw [lp_X9_gather_63]
    refine xs_iload_n (n := 64) dX9_gather_63 rfl rfl ?_
    refine xs_iconst (n := 65) (v := (3 : Int32)) dX9_gather_64 rfl rfl ?_
    refine xs_icmp_ge (n := 68) (tgt := 127) dX9_gather_65 rfl rfl (fun hc8 => ?_) (fun hc8 => ?_)
    · exact xs_gf (xs_end (kE (l3, u0))) (And.intro rfl (And.intro rfl trivial))
    · refine xs_aload_n (n := 69) dX9_gather_68 rfl rfl ?_
      refine xs_iload_n (n := 70) dX9_gather_69 rfl rfl ?_
      refine xs_iconst (n := 71) (v := (0 : Int32)) dX9_gather_70 rfl rfl ?_
      refine ys_callvl (n := 74) (N := mt_X2_end) dX9_gather_71 rfl ok_X2_end tw_503 im_X2_end se_X2_end ⟨Nat.le_of_ble_eq_true rfl, Nat.le_of_ble_eq_true rfl⟩ [.int l3, .int (0 : Int32)] [] rfl rfl (Nat.le_of_ble_eq_true rfl) rfl (Nat.le_of_ble_eq_true rfl) (en_X2_end m 127 l3 (0 : Int32) bx_127 u0) bx_127.1 (by decide) rfl (fun q9 => ?_)
      refine xs_ldc2 (n := 77) (v := (-3000000000000 : Int64)) dX9_gather_74 rfl tw_507 ?_
      refine xs_join 94 (fun q10 => [some (.ref 136), none, some (.ref 127), some (.int l3), none]) (fun q10 => []) (fun q10 => q10) (fun q10 => ?_) (fun kj11 => ?_)
      · refine xs_aload_n (n := 95) dX9_gather_94 rfl rfl ?_
        refine xs_iload_n (n := 96) dX9_gather_95 rfl rfl ?_
        refine xs_iconst (n := 97) (v := (1 : Int32)) dX9_gather_96 rfl rfl ?_
        refine ys_callvl (n := 100) (N := mt_X2_end) dX9_gather_97 rfl ok_X2_end tw_503 im_X2_end se_X2_end ⟨Nat.le_of_ble_eq_true rfl, Nat.le_of_ble_eq_true rfl⟩ [.int l3, .int (1 : Int32)] [] rfl rfl (Nat.le_of_ble_eq_true rfl) rfl (Nat.le_of_ble_eq_true rfl) (en_X2_end m 127 l3 (1 : Int32) bx_127 q10) bx_127.1 (by decide) rfl (fun q15 => ?_)
        refine xs_ldc2 (n := 103) (v := (-3000000000000 : Int64)) dX9_gather_100 rfl tw_507 ?_
        refine xs_join 121 (fun q16 => [some (.ref 136), none, some (.ref 127), some (.int l3), none]) (fun q16 => []) (fun q16 => q16) (fun q16 => ?_) (fun kj17 => ?_)
        · refine xs_iincl (n := 124) (dv := (1 : Int32)) (fun v21 => [some (.ref 136), none, some (.ref 127), some (.int v21), none]) dX9_gather_121 rfl rfl rfl (Nat.le_of_ble_eq_true rfl) (fun _ => rfl) (fun v21 => ?_)
          refine xs_goto (n := 63) dX9_gather_124 rfl ?_
          exact xs_gf (ih v21 q16) (And.intro rfl (And.intro rfl (And.intro rfl trivial)))
        · refine xs_lif_eq (n := 107) (pc1 := 104) (tgt := 121) dX9_gather_103 rfl dX9_gather_104 rfl rfl (fun hc18 => ?_) (fun hc18 => ?_)
          · exact xs_gf (xs_end (kj17 (q15.2))) (And.intro rfl (And.intro rfl (And.intro rfl trivial)))
          · refine xs_aload_n (n := 108) dX9_gather_107 rfl rfl ?_
            refine xs_iload_n (n := 109) dX9_gather_108 rfl rfl ?_
            refine xs_ldc2 (n := 112) (v := (-1 : Int64)) dX9_gather_109 rfl tw_512 ?_
            refine xs_aload_n (n := 113) dX9_gather_112 rfl rfl ?_
            refine xs_iload_n (n := 114) dX9_gather_113 rfl rfl ?_
            refine xs_iconst (n := 115) (v := (1 : Int32)) dX9_gather_114 rfl rfl ?_
            refine ys_callvl (n := 118) (N := mt_X2_end) dX9_gather_115 rfl ok_X2_end tw_503 im_X2_end se_X2_end ⟨Nat.le_of_ble_eq_true rfl, Nat.le_of_ble_eq_true rfl⟩ [.int l3, .int (1 : Int32)] [.long (-1 : Int64), .int l3, .ref 136] rfl rfl (Nat.le_of_ble_eq_true rfl) rfl (Nat.le_of_ble_eq_true rfl) (en_X2_end m 127 l3 (1 : Int32) bx_127 q15.2) bx_127.1 (by decide) rfl (fun q19 => ?_)
            refine ys_callvv (n := 121) (N := mt_X9_addAxisPlane) dX9_gather_118 rfl ok_X9_addAxisPlane tw_508 im_X9_addAxisPlane se_X9_addAxisPlane ⟨Nat.le_of_ble_eq_true rfl, Nat.le_of_ble_eq_true rfl⟩ [.int l3, .long (-1 : Int64), .long q19.1] [] rfl rfl (Nat.le_of_ble_eq_true rfl) rfl (Nat.le_of_ble_eq_true rfl) (en_X9_addAxisPlane m l3 (-1 : Int64) q19.1 q19.2) sh_136 (by decide) rfl (fun q20 => ?_)
            exact xs_gf (xs_end (kj17 (q20.2))) (And.intro rfl (And.intro rfl (And.intro rfl trivial)))
      · refine xs_lif_eq (n := 81) (pc1 := 78) (tgt := 94) dX9_gather_77 rfl dX9_gather_78 rfl rfl (fun hc12 => ?_) (fun hc12 => ?_)
        · exact xs_gf (xs_end (kj11 (q9.2))) (And.intro rfl (And.intro rfl (And.intro rfl trivial)))
        · refine xs_aload_n (n := 82) dX9_gather_81 rfl rfl ?_
          refine xs_iload_n (n := 83) dX9_gather_82 rfl rfl ?_
          refine xs_lconst (n := 84) (v := (1 : Int64)) dX9_gather_83 rfl rfl ?_
          refine xs_aload_n (n := 85) dX9_gather_84 rfl rfl ?_
          refine xs_iload_n (n := 86) dX9_gather_85 rfl rfl ?_
          refine xs_iconst (n := 87) (v := (0 : Int32)) dX9_gather_86 rfl rfl ?_
          refine ys_callvl (n := 90) (N := mt_X2_end) dX9_gather_87 rfl ok_X2_end tw_503 im_X2_end se_X2_end ⟨Nat.le_of_ble_eq_true rfl, Nat.le_of_ble_eq_true rfl⟩ [.int l3, .int (0 : Int32)] [.long (1 : Int64), .int l3, .ref 136] rfl rfl (Nat.le_of_ble_eq_true rfl) rfl (Nat.le_of_ble_eq_true rfl) (en_X2_end m 127 l3 (0 : Int32) bx_127 q9.2) bx_127.1 (by decide) rfl (fun q13 => ?_)
          refine xs_lneg (n := 91) dX9_gather_90 rfl ?_
          refine ys_callvv (n := 94) (N := mt_X9_addAxisPlane) dX9_gather_91 rfl ok_X9_addAxisPlane tw_508 im_X9_addAxisPlane se_X9_addAxisPlane ⟨Nat.le_of_ble_eq_true rfl, Nat.le_of_ble_eq_true rfl⟩ [.int l3, .long (1 : Int64), .long (-q13.1)] [] rfl rfl (Nat.le_of_ble_eq_true rfl) rfl (Nat.le_of_ble_eq_true rfl) (en_X9_addAxisPlane m l3 (1 : Int64) (-q13.1) q13.2) sh_136 (by decide) rfl (fun q14 => ?_)
          exact xs_gf (xs_end (kj11 (q14.2))) (And.intro rfl (And.intro rfl (And.intro rfl trivial)))
theorem el_X9_gather_137 (m : Nat) (K : Int32 × xm_Y → Option (Unit × xm_Y)) (kE : ∀ q : Int32 × xm_Y, xs_ (fun _ : Unit => none) sg_0 mt_X9_gather 181 [none, none, none, none, none] [] q.2 0 0 (K q)) : ∀ (n : Nat) (l3 : Int32) (u0 : xm_Y), xs_ (fun _ : Unit => none) sg_0 mt_X9_gather 137 [some (.ref 136), none, some (.ref 127), some (.int l3), none] [] u0 0 0 ((lp_X9_gather_137 m n l3 u0).bind K) := by
  intro n
  induction n with
  | zero =>
    intro l3 u0
    exact xs_none
  | succ n ih =>
    intro l3 u0
    rw [lp_X9_gather_137]
    refine xs_iload_n (n := 138) dX9_gather_137 rfl rfl ?_
    refine xs_iconst (n := 139) (v := (3 : Int32)) dX9_gather_138 rfl rfl ?_
    refine xs_icmp_ge (n := 142) (tgt := 181) dX9_gather_139 rfl rfl (fun hc24 => ?_) (fun hc24 => ?_)
    · exact xs_gf (xs_end (kE (l3, u0))) trivial
    · refine xs_aload_n (n := 143) dX9_gather_142 rfl rfl ?_
      refine xs_iload_n (n := 144) dX9_gather_143 rfl rfl ?_
      refine xs_iconst (n := 145) (v := (0 : Int32)) dX9_gather_144 rfl rfl ?_
      refine ys_callvl (n := 148) (N := mt_X2_end) dX9_gather_145 rfl ok_X2_end tw_503 im_X2_end se_X2_end ⟨Nat.le_of_ble_eq_true rfl, Nat.le_of_ble_eq_true rfl⟩ [.int l3, .int (0 : Int32)] [] rfl rfl (Nat.le_of_ble_eq_true rfl) rfl (Nat.le_of_ble_eq_true rfl) (en_X2_end m 127 l3 (0 : Int32) bx_127 u0) bx_127.1 (by decide) rfl (fun q25 => ?_)
      refine xs_ldc2 (n := 151) (v := (-3000000000000 : Int64)) dX9_gather_148 rfl tw_507 ?_
      refine xs_join 175 (fun q26 => [some (.ref 136), none, some (.ref 127), some (.int l3), none]) (fun q26 => []) (fun q26 => q26) (fun q26 => ?_) (fun kj27 => ?_)
      · refine xs_iincl (n := 178) (dv := (1 : Int32)) (fun v32 => [some (.ref 136), none, some (.ref 127), some (.int v32), none]) dX9_gather_175 rfl rfl rfl (Nat.le_of_ble_eq_true rfl) (fun _ => rfl) (fun v32 => ?_)
        refine xs_goto (n := 137) dX9_gather_178 rfl ?_
        exact xs_gf (ih v32 q26) (And.intro rfl (And.intro rfl (And.intro rfl trivial)))
      · refine xs_lif_ne (n := 155) (pc1 := 152) (tgt := 175) dX9_gather_151 rfl dX9_gather_152 rfl rfl (fun hc28 => ?_) (fun hc28 => ?_)
        · refine xs_aload_n (n := 156) dX9_gather_155 rfl rfl ?_
          refine xs_iload_n (n := 157) dX9_gather_156 rfl rfl ?_
          refine xs_iconst (n := 158) (v := (1 : Int32)) dX9_gather_157 rfl rfl ?_
          refine ys_callvl (n := 161) (N := mt_X2_end) dX9_gather_158 rfl ok_X2_end tw_503 im_X2_end se_X2_end ⟨Nat.le_of_ble_eq_true rfl, Nat.le_of_ble_eq_true rfl⟩ [.int l3, .int (1 : Int32)] [] rfl rfl (Nat.le_of_ble_eq_true rfl) rfl (Nat.le_of_ble_eq_true rfl) (en_X2_end m 127 l3 (1 : Int32) bx_127 q25.2) bx_127.1 (by decide) rfl (fun q29 => ?_)
          refine xs_ldc2 (n := 164) (v := (-3000000000000 : Int64)) dX9_gather_161 rfl tw_507 ?_
          refine xs_lif_ne (n := 168) (pc1 := 165) (tgt := 175) dX9_gather_164 rfl dX9_gather_165 rfl rfl (fun hc30 => ?_) (fun hc30 => ?_)
          · refine xs_aload_n (n := 169) dX9_gather_168 rfl rfl ?_
            refine xs_iload_n (n := 170) dX9_gather_169 rfl rfl ?_
            refine xs_lconst (n := 171) (v := (1 : Int64)) dX9_gather_170 rfl rfl ?_
            refine xs_lconst (n := 172) (v := (0 : Int64)) dX9_gather_171 rfl rfl ?_
            refine ys_callvv (n := 175) (N := mt_X9_addAxisPlane) dX9_gather_172 rfl ok_X9_addAxisPlane tw_508 im_X9_addAxisPlane se_X9_addAxisPlane ⟨Nat.le_of_ble_eq_true rfl, Nat.le_of_ble_eq_true rfl⟩ [.int l3, .long (1 : Int64), .long (0 : Int64)] [] rfl rfl (Nat.le_of_ble_eq_true rfl) rfl (Nat.le_of_ble_eq_true rfl) (en_X9_addAxisPlane m l3 (1 : Int64) (0 : Int64) q29.2) sh_136 (by decide) rfl (fun q31 => ?_)
            exact xs_gf (xs_end (kj27 (q31.2))) (And.intro rfl (And.intro rfl (And.intro rfl trivial)))
          · exact xs_gf (xs_end (kj27 (q29.2))) (And.intro rfl (And.intro rfl (And.intro rfl trivial)))
        · exact xs_gf (xs_end (kj27 (q25.2))) (And.intro rfl (And.intro rfl (And.intro rfl trivial)))
theorem en_X9_gather (m : Nat) (bb : Nat) (hb : bb < 5) (u0 : xm_Y) : xs_ (fun _ : Unit => none) sg_0 mt_X9_gather 0 [some (.ref 136), some (.ref (3 + 24 * bb)), some (.ref 127), none, none] [] u0 0 0 (fn_X9_gather m bb u0) := by
  refine xs_top ?_
  rw [fn_X9_gather]
  refine xs_aload_n (n := 1) dX9_gather_0 rfl rfl ?_
  refine xs_iconst (n := 2) (v := (0 : Int32)) dX9_gather_1 rfl rfl ?_
  refine ys_puti (n := 5) dX9_gather_2 rfl fl_X9_48 rfl sh_136 (fun u1 => ?_)
  refine xs_iconst (n := 6) (v := (0 : Int32)) dX9_gather_5 rfl rfl ?_
  refine xs_istore_n (n := 7) (lv' := [some (.ref 136), some (.ref (3 + 24 * bb)), some (.ref 127), some (.int (0 : Int32)), none]) dX9_gather_6 rfl (Nat.le_of_ble_eq_true rfl) rfl ?_
  refine xs_reg ?_
  refine xs_fg (lv' := [some (.ref 136), some (.ref (3 + 24 * bb)), some (.ref 127), some (.int (0 : Int32)), none]) (And.intro rfl (And.intro rfl (And.intro rfl (And.intro rfl trivial)))) ?_
  refine el_X9_gather_7 m bb hb _ (fun q7 => ?_) m (0 : Int32) u1
  refine xs_iconst (n := 62) (v := (0 : Int32)) dX9_gather_61 rfl rfl ?_
  refine xs_istore_n (n := 63) (lv' := [some (.ref 136), none, some (.ref 127), some (.int (0 : Int32)), none]) dX9_gather_62 rfl (Nat.le_of_ble_eq_true rfl) rfl ?_
  refine xs_reg ?_
  refine xs_fg (lv' := [some (.ref 136), none, some (.ref 127), some (.int (0 : Int32)), none]) (And.intro rfl (And.intro rfl (And.intro rfl trivial))) ?_
  refine el_X9_gather_63 m _ (fun q22 => ?_) m (0 : Int32) q7.2
  refine xs_aload_n (n := 128) dX9_gather_127 rfl rfl ?_
  refine xs_aload_n (n := 129) dX9_gather_128 rfl rfl ?_
  refine ys_geti (n := 132) dX9_gather_129 rfl fl_X9_48 (Or.inl rfl) sh_136 ?_
  refine ys_puti (n := 135) dX9_gather_132 rfl fl_X9_86 rfl sh_136 (fun u23 => ?_)
  refine xs_iconst (n := 136) (v := (0 : Int32)) dX9_gather_135 rfl rfl ?_
  refine xs_istore_n (n := 137) (lv' := [some (.ref 136), none, some (.ref 127), some (.int (0 : Int32)), none]) dX9_gather_136 rfl (Nat.le_of_ble_eq_true rfl) rfl ?_
  refine xs_reg ?_
  refine xs_fg (lv' := [some (.ref 136), none, some (.ref 127), some (.int (0 : Int32)), none]) (And.intro rfl (And.intro rfl (And.intro rfl trivial))) ?_
  refine el_X9_gather_137 m _ (fun q33 => ?_) m (0 : Int32) u23
  exact xs_vret dX9_gather_181 rfl rfl
def fn_X6_empty (m : Nat) (bb : Nat) (u0 : xm_Y) : Option (Unit × xm_Y) :=
  xm_let (w_I u0 (6 + 24 * bb) 1 (0 : Int32)) fun u1 =>
  xm_let (w_I u1 (6 + 24 * bb) 2 (0 : Int32)) fun u2 =>
  some ((), u2)
theorem en_X6_empty (m : Nat) (bb : Nat) (hb : bb < 5) (u0 : xm_Y) : xs_ (fun _ : Unit => none) sg_0 mt_X6_empty 0 [some (.ref (6 + 24 * bb))] [] u0 0 0 (fn_X6_empty m bb u0) := by
  refine xs_top ?_
  rw [fn_X6_empty]
  refine xs_aload_n (n := 1) dX6_empty_0 rfl rfl ?_
  refine xs_iconst (n := 2) (v := (0 : Int32)) dX6_empty_1 rfl rfl ?_
  refine ys_puti (n := 5) dX6_empty_2 rfl fl_X6_13 rfl (bp_s hb) (fun u1 => ?_)
  refine xs_aload_n (n := 6) dX6_empty_5 rfl rfl ?_
  refine xs_iconst (n := 7) (v := (0 : Int32)) dX6_empty_6 rfl rfl ?_
  refine ys_puti (n := 10) dX6_empty_7 rfl fl_X6_17 rfl (bp_s hb) (fun u2 => ?_)
  exact xs_vret dX6_empty_10 rfl rfl
def fn_X9_cross (m : Nat) (x0 : Int32) (x1 : Int32) (x2 : Int32) (u0 : xm_Y) : Option (Int64 × xm_Y) :=
  ((if x2 = (2 : Int32) then (
  some ((0 : Int32))) else (
  some ((x2 + (1 : Int32)))) : Option (Int32)).bind fun q1 =>
  ((if x2 = 0 then (
  some ((2 : Int32))) else (
  some ((x2 - (1 : Int32)))) : Option (Int32)).bind fun q4 =>
  xm_chk (xm_in (x0 + q1) 48) (
  xm_chk (xm_in (x1 + q4) 48) (
  xm_chk (xm_in (x0 + q4) 48) (
  xm_chk (xm_in (x1 + q1) 48) (
  some ((((u0.2 137 (Int32.toNatClampNeg (x0 + q1))) * (u0.2 137 (Int32.toNatClampNeg (x1 + q4)))) - ((u0.2 137 (Int32.toNatClampNeg (x0 + q4))) * (u0.2 137 (Int32.toNatClampNeg (x1 + q1))))), u0)))))))
theorem en_X9_cross (m : Nat) (x0 : Int32) (x1 : Int32) (x2 : Int32) (u0 : xm_Y) : xs_ (fun x : Int64 => some (.long x)) sg_0 mt_X9_cross 0 [some (.ref 136), some (.int x0), some (.int x1), some (.int x2), none, none] [] u0 0 0 (fn_X9_cross m x0 x1 x2 u0) := by
  refine xs_top ?_
  rw [fn_X9_cross]
  refine xs_iload_n (n := 1) dX9_cross_0 rfl rfl ?_
  refine xs_iconst (n := 2) (v := (2 : Int32)) dX9_cross_1 rfl rfl ?_
  refine xs_join 12 (fun q1 => [some (.ref 136), some (.int x0), some (.int x1), some (.int x2), none, none]) (fun q1 => [.int q1]) (fun q1 => u0) (fun q1 => ?_) (fun kj2 => ?_)
  · refine xs_istore (n := 14) (lv' := [some (.ref 136), some (.int x0), some (.int x1), some (.int x2), some (.int q1), none]) dX9_cross_12 rfl (Nat.le_of_ble_eq_true rfl) rfl ?_
    refine xs_iload_n (n := 15) dX9_cross_14 rfl rfl ?_
    refine xs_join 25 (fun q4 => [some (.ref 136), some (.int x0), some (.int x1), none, some (.int q1), none]) (fun q4 => [.int q4]) (fun q4 => u0) (fun q4 => ?_) (fun kj5 => ?_)
    · refine xs_istore (n := 27) (lv' := [some (.ref 136), some (.int x0), some (.int x1), none, some (.int q1), some (.int q4)]) dX9_cross_25 rfl (Nat.le_of_ble_eq_true rfl) rfl ?_
      refine xs_aload_n (n := 28) dX9_cross_27 rfl rfl ?_
      refine ys_getr (n := 31) dX9_cross_28 rfl fl_X9_11 sh_136 rfl ?_
      refine xs_iload_n (n := 32) dX9_cross_31 rfl rfl ?_
      refine xs_iload (n := 34) dX9_cross_32 rfl rfl ?_
      refine xs_iadd (n := 35) dX9_cross_34 rfl ?_
      refine ys_laload (n := 36) dX9_cross_35 rfl sh_137 ?_
      refine xs_aload_n (n := 37) dX9_cross_36 rfl rfl ?_
      refine ys_getr (n := 40) dX9_cross_37 rfl fl_X9_11 sh_136 rfl ?_
      refine xs_iload_n (n := 41) dX9_cross_40 rfl rfl ?_
      refine xs_iload (n := 43) dX9_cross_41 rfl rfl ?_
      refine xs_iadd (n := 44) dX9_cross_43 rfl ?_
      refine ys_laload (n := 45) dX9_cross_44 rfl sh_137 ?_
      refine xs_lmul (n := 46) dX9_cross_45 rfl ?_
      refine xs_aload_n (n := 47) dX9_cross_46 rfl rfl ?_
      refine ys_getr (n := 50) dX9_cross_47 rfl fl_X9_11 sh_136 rfl ?_
      refine xs_iload_n (n := 51) dX9_cross_50 rfl rfl ?_
      refine xs_iload (n := 53) dX9_cross_51 rfl rfl ?_
      refine xs_iadd (n := 54) dX9_cross_53 rfl ?_
      refine ys_laload (n := 55) dX9_cross_54 rfl sh_137 ?_
      refine xs_aload_n (n := 56) dX9_cross_55 rfl rfl ?_
      refine ys_getr (n := 59) dX9_cross_56 rfl fl_X9_11 sh_136 rfl ?_
      refine xs_iload_n (n := 60) dX9_cross_59 rfl rfl ?_
      refine xs_iload (n := 62) dX9_cross_60 rfl rfl ?_
      refine xs_iadd (n := 63) dX9_cross_62 rfl ?_
      refine ys_laload (n := 64) dX9_cross_63 rfl sh_137 ?_
      refine xs_lmul (n := 65) dX9_cross_64 rfl ?_
      refine xs_lsub (n := 66) dX9_cross_65 rfl ?_
      exact xs_lret dX9_cross_66 rfl rfl
    · refine xs_if_ne (n := 18) (tgt := 22) dX9_cross_15 rfl rfl (fun hc6 => ?_) (fun hc6 => ?_)
      · refine xs_iconst (n := 19) (v := (2 : Int32)) dX9_cross_18 rfl rfl ?_
        refine xs_goto (n := 25) dX9_cross_19 rfl ?_
        exact xs_gf (xs_end (kj5 ((2 : Int32)))) (And.intro rfl (And.intro rfl (And.intro rfl (And.intro rfl trivial))))
      · refine xs_iload_n (n := 23) dX9_cross_22 rfl rfl ?_
        refine xs_iconst (n := 24) (v := (1 : Int32)) dX9_cross_23 rfl rfl ?_
        refine xs_isub (n := 25) dX9_cross_24 rfl ?_
        exact xs_gf (xs_end (kj5 ((x2 - (1 : Int32))))) (And.intro rfl (And.intro rfl (And.intro rfl (And.intro rfl trivial))))
  · refine xs_icmp_ne (n := 5) (tgt := 9) dX9_cross_2 rfl rfl (fun hc3 => ?_) (fun hc3 => ?_)
    · refine xs_iconst (n := 6) (v := (0 : Int32)) dX9_cross_5 rfl rfl ?_
      refine xs_goto (n := 12) dX9_cross_6 rfl ?_
      exact xs_gf (xs_end (kj2 ((0 : Int32)))) (And.intro rfl (And.intro rfl (And.intro rfl (And.intro rfl trivial))))
    · refine xs_iload_n (n := 10) dX9_cross_9 rfl rfl ?_
      refine xs_iconst (n := 11) (v := (1 : Int32)) dX9_cross_10 rfl rfl ?_
      refine xs_iadd (n := 12) dX9_cross_11 rfl ?_
      exact xs_gf (xs_end (kj2 ((x2 + (1 : Int32))))) (And.intro rfl (And.intro rfl (And.intro rfl (And.intro rfl trivial))))
def fn_X9_meet (m : Nat) (x0 : Int32) (x1 : Int32) (x2 : Int32) (u0 : xm_Y) : Option (Int32 × xm_Y) :=
  ((fn_X9_cross m x1 x2 (0 : Int32) u0).bind fun q1 =>
  ((fn_X9_cross m x1 x2 (1 : Int32) q1.2).bind fun q2 =>
  ((fn_X9_cross m x1 x2 (2 : Int32) q2.2).bind fun q3 =>
  xm_chk (xm_in x0 48) (
  xm_chk (xm_in (x0 + (1 : Int32)) 48) (
  xm_chk (xm_in (x0 + (2 : Int32)) 48) (
  xm_let (α := Int64) (((((q3.2.2 137 (Int32.toNatClampNeg x0)) * q1.1) + ((q3.2.2 137 (Int32.toNatClampNeg (x0 + (1 : Int32)))) * q2.1)) + ((q3.2.2 137 (Int32.toNatClampNeg (x0 + (2 : Int32)))) * q3.1))) fun v4 =>
  if v4 = (0 : Int64) then (
  some ((0 : Int32), q3.2)) else (
  ((if v4 ≤ (0 : Int64) then (
  some ((1 : Int64))) else (
  some ((-1 : Int64))) : Option (Int64)).bind fun q6 =>
  xm_chk (xm_in (x1 + (3 : Int32)) 48) (
  xm_let (α := Int64) ((q3.2.2 137 (Int32.toNatClampNeg (x1 + (3 : Int32))))) fun v9 =>
  xm_chk (xm_in (x2 + (3 : Int32)) 48) (
  xm_let (α := Int64) ((q3.2.2 137 (Int32.toNatClampNeg (x2 + (3 : Int32))))) fun v10 =>
  xm_chk (xm_in (x0 + (3 : Int32)) 48) (
  ((fn_X9_cross m x2 x0 (0 : Int32) q3.2).bind fun q11 =>
  ((fn_X9_cross m x0 x1 (0 : Int32) q11.2).bind fun q12 =>
  xm_chk (xm_in (0 : Int32) 4) (xm_let (w_J q12.2 138 (Int32.toNatClampNeg (0 : Int32)) (q6 * ((((q3.2.2 137 (Int32.toNatClampNeg (x0 + (3 : Int32)))) * q1.1) + (v9 * q11.1)) + (v10 * q12.1)))) fun u13 =>
  xm_chk (xm_in (x0 + (3 : Int32)) 48) (
  ((fn_X9_cross m x2 x0 (1 : Int32) u13).bind fun q14 =>
  ((fn_X9_cross m x0 x1 (1 : Int32) q14.2).bind fun q15 =>
  xm_chk (xm_in (1 : Int32) 4) (xm_let (w_J q15.2 138 (Int32.toNatClampNeg (1 : Int32)) (q6 * ((((u13.2 137 (Int32.toNatClampNeg (x0 + (3 : Int32)))) * q2.1) + (v9 * q14.1)) + (v10 * q15.1)))) fun u16 =>
  xm_chk (xm_in (x0 + (3 : Int32)) 48) (
  ((fn_X9_cross m x2 x0 (2 : Int32) u16).bind fun q17 =>
  ((fn_X9_cross m x0 x1 (2 : Int32) q17.2).bind fun q18 =>
  xm_chk (xm_in (2 : Int32) 4) (xm_let (w_J q18.2 138 (Int32.toNatClampNeg (2 : Int32)) (q6 * ((((u16.2 137 (Int32.toNatClampNeg (x0 + (3 : Int32)))) * q3.1) + (v9 * q17.1)) + (v10 * q18.1)))) fun u19 =>
  ((fn_J9_abs_067f4 m v4 u19).bind fun q20 =>
  xm_chk (xm_in (3 : Int32) 4) (xm_let (w_J q20.2 138 (Int32.toNatClampNeg (3 : Int32)) q20.1) fun u21 =>
  some ((1 : Int32), u21)))))))))))))))))))))))))
theorem en_X9_meet (m : Nat) (x0 : Int32) (x1 : Int32) (x2 : Int32) (u0 : xm_Y) : xs_ (fun x : Int32 => some (.int x)) sg_0 mt_X9_meet 0 [some (.ref 136), some (.int x0), some (.int x1), some (.int x2), none, none, none, none, none, none, none, none, none, none, none, none, none, none] [] u0 0 0 (fn_X9_meet m x0 x1 x2 u0) := by
  refine xs_top ?_
  rw [fn_X9_meet]
  refine xs_aload_n (n := 1) dX9_meet_0 rfl rfl ?_
  refine xs_iload_n (n := 2) dX9_meet_1 rfl rfl ?_
  refine xs_iload_n (n := 3) dX9_meet_2 rfl rfl ?_
  refine xs_iconst (n := 4) (v := (0 : Int32)) dX9_meet_3 rfl rfl ?_
  refine ys_callvl (n := 7) (N := mt_X9_cross) dX9_meet_4 rfl ok_X9_cross tw_525 im_X9_cross se_X9_cross ⟨Nat.le_of_ble_eq_true rfl, Nat.le_of_ble_eq_true rfl⟩ [.int x1, .int x2, .int (0 : Int32)] [] rfl rfl (Nat.le_of_ble_eq_true rfl) rfl (Nat.le_of_ble_eq_true rfl) (en_X9_cross m x1 x2 (0 : Int32) u0) sh_136 (by decide) rfl (fun q1 => ?_)
  refine xs_lstore (n := 9) (lv' := [some (.ref 136), some (.int x0), some (.int x1), some (.int x2), some (.long q1.1), none, none, none, none, none, none, none, none, none, none, none, none, none]) dX9_meet_7 rfl (Nat.le_of_ble_eq_true rfl) rfl ?_
  refine xs_aload_n (n := 10) dX9_meet_9 rfl rfl ?_
  refine xs_iload_n (n := 11) dX9_meet_10 rfl rfl ?_
  refine xs_iload_n (n := 12) dX9_meet_11 rfl rfl ?_
  refine xs_iconst (n := 13) (v := (1 : Int32)) dX9_meet_12 rfl rfl ?_
  refine ys_callvl (n := 16) (N := mt_X9_cross) dX9_meet_13 rfl ok_X9_cross tw_525 im_X9_cross se_X9_cross ⟨Nat.le_of_ble_eq_true rfl, Nat.le_of_ble_eq_true rfl⟩ [.int x1, .int x2, .int (1 : Int32)] [] rfl rfl (Nat.le_of_ble_eq_true rfl) rfl (Nat.le_of_ble_eq_true rfl) (en_X9_cross m x1 x2 (1 : Int32) q1.2) sh_136 (by decide) rfl (fun q2 => ?_)
  refine xs_lstore (n := 18) (lv' := [some (.ref 136), some (.int x0), some (.int x1), some (.int x2), some (.long q1.1), none, some (.long q2.1), none, none, none, none, none, none, none, none, none, none, none]) dX9_meet_16 rfl (Nat.le_of_ble_eq_true rfl) rfl ?_
  refine xs_aload_n (n := 19) dX9_meet_18 rfl rfl ?_
  refine xs_iload_n (n := 20) dX9_meet_19 rfl rfl ?_
  refine xs_iload_n (n := 21) dX9_meet_20 rfl rfl ?_
  refine xs_iconst (n := 22) (v := (2 : Int32)) dX9_meet_21 rfl rfl ?_
  refine ys_callvl (n := 25) (N := mt_X9_cross) dX9_meet_22 rfl ok_X9_cross tw_525 im_X9_cross se_X9_cross ⟨Nat.le_of_ble_eq_true rfl, Nat.le_of_ble_eq_true rfl⟩ [.int x1, .int x2, .int (2 : Int32)] [] rfl rfl (Nat.le_of_ble_eq_true rfl) rfl (Nat.le_of_ble_eq_true rfl) (en_X9_cross m x1 x2 (2 : Int32) q2.2) sh_136 (by decide) rfl (fun q3 => ?_)
  refine xs_lstore (n := 27) (lv' := [some (.ref 136), some (.int x0), some (.int x1), some (.int x2), some (.long q1.1), none, some (.long q2.1), none, some (.long q3.1), none, none, none, none, none, none, none, none, none]) dX9_meet_25 rfl (Nat.le_of_ble_eq_true rfl) rfl ?_
  refine xs_aload_n (n := 28) dX9_meet_27 rfl rfl ?_
  refine ys_getr (n := 31) dX9_meet_28 rfl fl_X9_11 sh_136 rfl ?_
  refine xs_iload_n (n := 32) dX9_meet_31 rfl rfl ?_
  refine ys_laload (n := 33) dX9_meet_32 rfl sh_137 ?_
  refine xs_lload (n := 35) dX9_meet_33 rfl rfl ?_
  refine xs_lmul (n := 36) dX9_meet_35 rfl ?_
  refine xs_aload_n (n := 37) dX9_meet_36 rfl rfl ?_
  refine ys_getr (n := 40) dX9_meet_37 rfl fl_X9_11 sh_136 rfl ?_
  refine xs_iload_n (n := 41) dX9_meet_40 rfl rfl ?_
  refine xs_iconst (n := 42) (v := (1 : Int32)) dX9_meet_41 rfl rfl ?_
  refine xs_iadd (n := 43) dX9_meet_42 rfl ?_
  refine ys_laload (n := 44) dX9_meet_43 rfl sh_137 ?_
  refine xs_lload (n := 46) dX9_meet_44 rfl rfl ?_
  refine xs_lmul (n := 47) dX9_meet_46 rfl ?_
  refine xs_ladd (n := 48) dX9_meet_47 rfl ?_
  refine xs_aload_n (n := 49) dX9_meet_48 rfl rfl ?_
  refine ys_getr (n := 52) dX9_meet_49 rfl fl_X9_11 sh_136 rfl ?_
  refine xs_iload_n (n := 53) dX9_meet_52 rfl rfl ?_
  refine xs_iconst (n := 54) (v := (2 : Int32)) dX9_meet_53 rfl rfl ?_
  refine xs_iadd (n := 55) dX9_meet_54 rfl ?_
  refine ys_laload (n := 56) dX9_meet_55 rfl sh_137 ?_
  refine xs_lload (n := 58) dX9_meet_56 rfl rfl ?_
  refine xs_lmul (n := 59) dX9_meet_58 rfl ?_
  refine xs_ladd (n := 60) dX9_meet_59 rfl ?_
  refine xs_letl (fun v4 => ?_)
  refine xs_lstore (n := 62) (lv' := [some (.ref 136), some (.int x0), some (.int x1), some (.int x2), some (.long q1.1), none, some (.long q2.1), none, some (.long q3.1), none, some (.long v4), none, none, none, none, none, none, none]) dX9_meet_60 rfl (Nat.le_of_ble_eq_true rfl) rfl ?_
  refine xs_lload (n := 64) dX9_meet_62 rfl rfl ?_
  refine xs_lconst (n := 65) (v := (0 : Int64)) dX9_meet_64 rfl rfl ?_
  refine xs_lif_ne (n := 69) (pc1 := 66) (tgt := 71) dX9_meet_65 rfl dX9_meet_66 rfl rfl (fun hc5 => ?_) (fun hc5 => ?_)
  · refine xs_iconst (n := 70) (v := (0 : Int32)) dX9_meet_69 rfl rfl ?_
    exact xs_zretc dX9_meet_70 rfl (Or.inl rfl) rfl
  · refine xs_lload (n := 73) dX9_meet_71 rfl rfl ?_
    refine xs_lconst (n := 74) (v := (0 : Int64)) dX9_meet_73 rfl rfl ?_
    refine xs_join 85 (fun q6 => [some (.ref 136), some (.int x0), some (.int x1), some (.int x2), some (.long q1.1), none, some (.long q2.1), none, some (.long q3.1), none, some (.long v4), none, none, none, none, none, none, none]) (fun q6 => [.long q6]) (fun q6 => q3.2) (fun q6 => ?_) (fun kj7 => ?_)
    · refine xs_lstore (n := 87) (lv' := [some (.ref 136), some (.int x0), some (.int x1), some (.int x2), some (.long q1.1), none, some (.long q2.1), none, some (.long q3.1), none, some (.long v4), none, some (.long q6), none, none, none, none, none]) dX9_meet_85 rfl (Nat.le_of_ble_eq_true rfl) rfl ?_
      refine xs_aload_n (n := 88) dX9_meet_87 rfl rfl ?_
      refine ys_getr (n := 91) dX9_meet_88 rfl fl_X9_11 sh_136 rfl ?_
      refine xs_iload_n (n := 92) dX9_meet_91 rfl rfl ?_
      refine xs_iconst (n := 93) (v := (3 : Int32)) dX9_meet_92 rfl rfl ?_
      refine xs_iadd (n := 94) dX9_meet_93 rfl ?_
      refine ys_laload (n := 95) dX9_meet_94 rfl sh_137 ?_
      refine xs_letl (fun v9 => ?_)
      refine xs_lstore (n := 97) (lv' := [some (.ref 136), some (.int x0), some (.int x1), some (.int x2), some (.long q1.1), none, some (.long q2.1), none, some (.long q3.1), none, some (.long v4), none, some (.long q6), none, some (.long v9), none, none, none]) dX9_meet_95 rfl (Nat.le_of_ble_eq_true rfl) rfl ?_
      refine xs_aload_n (n := 98) dX9_meet_97 rfl rfl ?_
      refine ys_getr (n := 101) dX9_meet_98 rfl fl_X9_11 sh_136 rfl ?_
      refine xs_iload_n (n := 102) dX9_meet_101 rfl rfl ?_
      refine xs_iconst (n := 103) (v := (3 : Int32)) dX9_meet_102 rfl rfl ?_
      refine xs_iadd (n := 104) dX9_meet_103 rfl ?_
      refine ys_laload (n := 105) dX9_meet_104 rfl sh_137 ?_
      refine xs_letl (fun v10 => ?_)
      refine xs_lstore (n := 107) (lv' := [some (.ref 136), some (.int x0), some (.int x1), some (.int x2), some (.long q1.1), none, some (.long q2.1), none, some (.long q3.1), none, some (.long v4), none, some (.long q6), none, some (.long v9), none, some (.long v10), none]) dX9_meet_105 rfl (Nat.le_of_ble_eq_true rfl) rfl ?_
      refine xs_aload_n (n := 108) dX9_meet_107 rfl rfl ?_
      refine ys_getr (n := 111) dX9_meet_108 rfl fl_X9_15 sh_136 rfl ?_
      refine xs_iconst (n := 112) (v := (0 : Int32)) dX9_meet_111 rfl rfl ?_
      refine xs_lload (n := 114) dX9_meet_112 rfl rfl ?_
      refine xs_aload_n (n := 115) dX9_meet_114 rfl rfl ?_
      refine ys_getr (n := 118) dX9_meet_115 rfl fl_X9_11 sh_136 rfl ?_
      refine xs_iload_n (n := 119) dX9_meet_118 rfl rfl ?_
      refine xs_iconst (n := 120) (v := (3 : Int32)) dX9_meet_119 rfl rfl ?_
      refine xs_iadd (n := 121) dX9_meet_120 rfl ?_
      refine ys_laload (n := 122) dX9_meet_121 rfl sh_137 ?_
      refine xs_lload (n := 124) dX9_meet_122 rfl rfl ?_
      refine xs_lmul (n := 125) dX9_meet_124 rfl ?_
      refine xs_lload (n := 127) dX9_meet_125 rfl rfl ?_
      refine xs_aload_n (n := 128) dX9_meet_127 rfl rfl ?_
      refine xs_iload_n (n := 129) dX9_meet_128 rfl rfl ?_
      refine xs_iload_n (n := 130) dX9_meet_129 rfl rfl ?_
      refine xs_iconst (n := 131) (v := (0 : Int32)) dX9_meet_130 rfl rfl ?_
      refine ys_callvl (n := 134) (N := mt_X9_cross) dX9_meet_131 rfl ok_X9_cross tw_525 im_X9_cross se_X9_cross ⟨Nat.le_of_ble_eq_true rfl, Nat.le_of_ble_eq_true rfl⟩ [.int x2, .int x0, .int (0 : Int32)] [.long v9, .long ((q3.2.2 137 (Int32.toNatClampNeg (x0 + (3 : Int32)))) * q1.1), .long q6, .int (0 : Int32), .ref 138] rfl rfl (Nat.le_of_ble_eq_true rfl) rfl (Nat.le_of_ble_eq_true rfl) (en_X9_cross m x2 x0 (0 : Int32) q3.2) sh_136 (by decide) rfl (fun q11 => ?_)
      refine xs_lmul (n := 135) dX9_meet_134 rfl ?_
      refine xs_ladd (n := 136) dX9_meet_135 rfl ?_
      refine xs_lload (n := 138) dX9_meet_136 rfl rfl ?_
      refine xs_aload_n (n := 139) dX9_meet_138 rfl rfl ?_
      refine xs_iload_n (n := 140) dX9_meet_139 rfl rfl ?_
      refine xs_iload_n (n := 141) dX9_meet_140 rfl rfl ?_
      refine xs_iconst (n := 142) (v := (0 : Int32)) dX9_meet_141 rfl rfl ?_
      refine ys_callvl (n := 145) (N := mt_X9_cross) dX9_meet_142 rfl ok_X9_cross tw_525 im_X9_cross se_X9_cross ⟨Nat.le_of_ble_eq_true rfl, Nat.le_of_ble_eq_true rfl⟩ [.int x0, .int x1, .int (0 : Int32)] [.long v10, .long (((q3.2.2 137 (Int32.toNatClampNeg (x0 + (3 : Int32)))) * q1.1) + (v9 * q11.1)), .long q6, .int (0 : Int32), .ref 138] rfl rfl (Nat.le_of_ble_eq_true rfl) rfl (Nat.le_of_ble_eq_true rfl) (en_X9_cross m x0 x1 (0 : Int32) q11.2) sh_136 (by decide) rfl (fun q12 => ?_)
      refine xs_lmul (n := 146) dX9_meet_145 rfl ?_
      refine xs_ladd (n := 147) dX9_meet_146 rfl ?_
      refine xs_lmul (n := 148) dX9_meet_147 rfl ?_
      refine ys_lastore (n := 149) dX9_meet_148 rfl sh_138 (fun u13 => ?_)
      refine xs_aload_n (n := 150) dX9_meet_149 rfl rfl ?_
      refine ys_getr (n := 153) dX9_meet_150 rfl fl_X9_15 sh_136 rfl ?_
      refine xs_iconst (n := 154) (v := (1 : Int32)) dX9_meet_153 rfl rfl ?_
      refine xs_lload (n := 156) dX9_meet_154 rfl rfl ?_
      refine xs_aload_n (n := 157) dX9_meet_156 rfl rfl ?_
      refine ys_getr (n := 160) dX9_meet_157 rfl fl_X9_11 sh_136 rfl ?_
      refine xs_iload_n (n := 161) dX9_meet_160 rfl rfl ?_
      refine xs_iconst (n := 162) (v := (3 : Int32)) dX9_meet_161 rfl rfl ?_
      refine xs_iadd (n := 163) dX9_meet_162 rfl ?_
      refine ys_laload (n := 164) dX9_meet_163 rfl sh_137 ?_
      refine xs_lload (n := 166) dX9_meet_164 rfl rfl ?_
      refine xs_lmul (n := 167) dX9_meet_166 rfl ?_
      refine xs_lload (n := 169) dX9_meet_167 rfl rfl ?_
      refine xs_aload_n (n := 170) dX9_meet_169 rfl rfl ?_
      refine xs_iload_n (n := 171) dX9_meet_170 rfl rfl ?_
      refine xs_iload_n (n := 172) dX9_meet_171 rfl rfl ?_
      refine xs_iconst (n := 173) (v := (1 : Int32)) dX9_meet_172 rfl rfl ?_
      refine ys_callvl (n := 176) (N := mt_X9_cross) dX9_meet_173 rfl ok_X9_cross tw_525 im_X9_cross se_X9_cross ⟨Nat.le_of_ble_eq_true rfl, Nat.le_of_ble_eq_true rfl⟩ [.int x2, .int x0, .int (1 : Int32)] [.long v9, .long ((u13.2 137 (Int32.toNatClampNeg (x0 + (3 : Int32)))) * q2.1), .long q6, .int (1 : Int32), .ref 138] rfl rfl (Nat.le_of_ble_eq_true rfl) rfl (Nat.le_of_ble_eq_true rfl) (en_X9_cross m x2 x0 (1 : Int32) u13) sh_136 (by decide) rfl (fun q14 => ?_)
      refine xs_lmul (n := 177) dX9_meet_176 rfl ?_
      refine xs_ladd (n := 178) dX9_meet_177 rfl ?_
      refine xs_lload (n := 180) dX9_meet_178 rfl rfl ?_
      refine xs_aload_n (n := 181) dX9_meet_180 rfl rfl ?_
      refine xs_iload_n (n := 182) dX9_meet_181 rfl rfl ?_
      refine xs_iload_n (n := 183) dX9_meet_182 rfl rfl ?_
      refine xs_iconst (n := 184) (v := (1 : Int32)) dX9_meet_183 rfl rfl ?_
      refine ys_callvl (n := 187) (N := mt_X9_cross) dX9_meet_184 rfl ok_X9_cross tw_525 im_X9_cross se_X9_cross ⟨Nat.le_of_ble_eq_true rfl, Nat.le_of_ble_eq_true rfl⟩ [.int x0, .int x1, .int (1 : Int32)] [.long v10, .long (((u13.2 137 (Int32.toNatClampNeg (x0 + (3 : Int32)))) * q2.1) + (v9 * q14.1)), .long q6, .int (1 : Int32), .ref 138] rfl rfl (Nat.le_of_ble_eq_true rfl) rfl (Nat.le_of_ble_eq_true rfl) (en_X9_cross m x0 x1 (1 : Int32) q14.2) sh_136 (by decide) rfl (fun q15 => ?_)
      refine xs_lmul (n := 188) dX9_meet_187 rfl ?_
      refine xs_ladd (n := 189) dX9_meet_188 rfl ?_
      refine xs_lmul (n := 190) dX9_meet_189 rfl ?_
      refine ys_lastore (n := 191) dX9_meet_190 rfl sh_138 (fun u16 => ?_)
      refine xs_aload_n (n := 192) dX9_meet_191 rfl rfl ?_
      refine ys_getr (n := 195) dX9_meet_192 rfl fl_X9_15 sh_136 rfl ?_
      refine xs_iconst (n := 196) (v := (2 : Int32)) dX9_meet_195 rfl rfl ?_
      refine xs_lload (n := 198) dX9_meet_196 rfl rfl ?_
      refine xs_aload_n (n := 199) dX9_meet_198 rfl rfl ?_
      refine ys_getr (n := 202) dX9_meet_199 rfl fl_X9_11 sh_136 rfl ?_
      refine xs_iload_n (n := 203) dX9_meet_202 rfl rfl ?_
      refine xs_iconst (n := 204) (v := (3 : Int32)) dX9_meet_203 rfl rfl ?_
      refine xs_iadd (n := 205) dX9_meet_204 rfl ?_
      refine ys_laload (n := 206) dX9_meet_205 rfl sh_137 ?_
      refine xs_lload (n := 208) dX9_meet_206 rfl rfl ?_
      refine xs_lmul (n := 209) dX9_meet_208 rfl ?_
      refine xs_lload (n := 211) dX9_meet_209 rfl rfl ?_
      refine xs_aload_n (n := 212) dX9_meet_211 rfl rfl ?_
      refine xs_iload_n (n := 213) dX9_meet_212 rfl rfl ?_
      refine xs_iload_n (n := 214) dX9_meet_213 rfl rfl ?_
      refine xs_iconst (n := 215) (v := (2 : Int32)) dX9_meet_214 rfl rfl ?_
      refine ys_callvl (n := 218) (N := mt_X9_cross) dX9_meet_215 rfl ok_X9_cross tw_525 im_X9_cross se_X9_cross ⟨Nat.le_of_ble_eq_true rfl, Nat.le_of_ble_eq_true rfl⟩ [.int x2, .int x0, .int (2 : Int32)] [.long v9, .long ((u16.2 137 (Int32.toNatClampNeg (x0 + (3 : Int32)))) * q3.1), .long q6, .int (2 : Int32), .ref 138] rfl rfl (Nat.le_of_ble_eq_true rfl) rfl (Nat.le_of_ble_eq_true rfl) (en_X9_cross m x2 x0 (2 : Int32) u16) sh_136 (by decide) rfl (fun q17 => ?_)
      refine xs_lmul (n := 219) dX9_meet_218 rfl ?_
      refine xs_ladd (n := 220) dX9_meet_219 rfl ?_
      refine xs_lload (n := 222) dX9_meet_220 rfl rfl ?_
      refine xs_aload_n (n := 223) dX9_meet_222 rfl rfl ?_
      refine xs_iload_n (n := 224) dX9_meet_223 rfl rfl ?_
      refine xs_iload_n (n := 225) dX9_meet_224 rfl rfl ?_
      refine xs_iconst (n := 226) (v := (2 : Int32)) dX9_meet_225 rfl rfl ?_
      refine ys_callvl (n := 229) (N := mt_X9_cross) dX9_meet_226 rfl ok_X9_cross tw_525 im_X9_cross se_X9_cross ⟨Nat.le_of_ble_eq_true rfl, Nat.le_of_ble_eq_true rfl⟩ [.int x0, .int x1, .int (2 : Int32)] [.long v10, .long (((u16.2 137 (Int32.toNatClampNeg (x0 + (3 : Int32)))) * q3.1) + (v9 * q17.1)), .long q6, .int (2 : Int32), .ref 138] rfl rfl (Nat.le_of_ble_eq_true rfl) rfl (Nat.le_of_ble_eq_true rfl) (en_X9_cross m x0 x1 (2 : Int32) q17.2) sh_136 (by decide) rfl (fun q18 => ?_)
      refine xs_lmul (n := 230) dX9_meet_229 rfl ?_
      refine xs_ladd (n := 231) dX9_meet_230 rfl ?_
      refine xs_lmul (n := 232) dX9_meet_231 rfl ?_
      refine ys_lastore (n := 233) dX9_meet_232 rfl sh_138 (fun u19 => ?_)
      refine xs_aload_n (n := 234) dX9_meet_233 rfl rfl ?_
      refine ys_getr (n := 237) dX9_meet_234 rfl fl_X9_15 sh_136 rfl ?_
      refine xs_iconst (n := 238) (v := (3 : Int32)) dX9_meet_237 rfl rfl ?_
      refine xs_lload (n := 240) dX9_meet_238 rfl rfl ?_
      refine ys_callsl (n := 243) (N := mt_J9_abs_067f4) dX9_meet_240 rfl ok_J9_abs_067f4 tw_529 st_J9_abs_067f4 ⟨Nat.le_of_ble_eq_true rfl, Nat.le_of_ble_eq_true rfl⟩ [.long v4] [.int (3 : Int32), .ref 138] rfl rfl (Nat.le_of_ble_eq_true rfl) rfl (Nat.le_of_ble_eq_true rfl) (en_J9_abs_067f4 m v4 u19) (fun q20 => ?_)
      refine ys_lastore (n := 244) dX9_meet_243 rfl sh_138 (fun u21 => ?_)
      refine xs_iconst (n := 245) (v := (1 : Int32)) dX9_meet_244 rfl rfl ?_
      exact xs_zretc dX9_meet_245 rfl (Or.inr rfl) rfl
    · refine xs_lif_le (n := 78) (pc1 := 75) (tgt := 84) dX9_meet_74 rfl dX9_meet_75 rfl rfl (fun hc8 => ?_) (fun hc8 => ?_)
      · refine xs_lconst (n := 85) (v := (1 : Int64)) dX9_meet_84 rfl rfl ?_
        exact xs_gf (xs_end (kj7 ((1 : Int64)))) (And.intro rfl (And.intro rfl (And.intro rfl (And.intro rfl (And.intro rfl (And.intro rfl (And.intro rfl (And.intro rfl trivial))))))))
      · refine xs_ldc2 (n := 81) (v := (-1 : Int64)) dX9_meet_78 rfl tw_512 ?_
        refine xs_goto (n := 85) dX9_meet_81 rfl ?_
        exact xs_gf (xs_end (kj7 ((-1 : Int64)))) (And.intro rfl (And.intro rfl (And.intro rfl (And.intro rfl (And.intro rfl (And.intro rfl (And.intro rfl (And.intro rfl trivial))))))))
