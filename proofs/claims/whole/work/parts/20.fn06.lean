def fn_X9_shape (m : Nat) (bb : Nat) (u0 : xm_Y) : Option (Unit × xm_Y) :=
  ((fn_X9_gather m bb u0).bind fun q1 =>
  ((fn_X6_empty m bb q1.2).bind fun q2 =>
  ((fn_X9_findCorners m bb q2.2).bind fun q3 =>
  ((fn_X6_isEmpty m bb q3.2).bind fun q4 =>
  ((if q4.1 = 0 then (
  ((fn_X9_findDirections m bb q4.2).bind fun q8 =>
  some (q8.2))) else (
  some (q4.2)) : Option (xm_Y)).bind fun q5 =>
  xm_let (w_I q5 (6 + 24 * bb) 3 (1 : Int32)) fun u9 =>
  some ((), u9))))))
theorem en_X9_shape (m : Nat) (bb : Nat) (hb : bb < 5) (u0 : xm_Y) : xs_ (fun _ : Unit => none) sg_0 mt_X9_shape 0 [some (.ref 136), some (.ref (3 + 24 * bb)), some (.ref 127), none] [] u0 0 0 (fn_X9_shape m bb u0) := by
  refine xs_top ?_
  rw [fn_X9_shape]
  refine xs_aload_n (n := 1) dX9_shape_0 rfl rfl ?_
  refine xs_aload_n (n := 2) dX9_shape_1 rfl rfl ?_
  refine xs_aload_n (n := 3) dX9_shape_2 rfl rfl ?_
  refine ys_callvv (n := 6) (N := mt_X9_gather) dX9_shape_3 rfl ok_X9_gather tw_495 im_X9_gather se_X9_gather ⟨Nat.le_of_ble_eq_true rfl, Nat.le_of_ble_eq_true rfl⟩ [.ref (3 + 24 * bb), .ref 127] [] rfl rfl (Nat.le_of_ble_eq_true rfl) rfl (Nat.le_of_ble_eq_true rfl) (en_X9_gather m bb hb u0) sh_136 (by decide) rfl (fun q1 => ?_)
  refine xs_aload_n (n := 7) dX9_shape_6 rfl rfl ?_
  refine ys_getr (n := 10) dX9_shape_7 rfl fl_X9_22 (bd_s hb) (bd_r2 hb) ?_
  refine xs_astore_n (n := 11) (lv' := [some (.ref 136), some (.ref (3 + 24 * bb)), some (.ref 127), some (.ref (6 + 24 * bb))]) dX9_shape_10 rfl (Nat.le_of_ble_eq_true rfl) rfl ?_
  refine xs_aload_n (n := 12) dX9_shape_11 rfl rfl ?_
  refine ys_callvv (n := 15) (N := mt_X6_empty) dX9_shape_12 rfl ok_X6_empty tw_513 im_X6_empty se_X6_empty ⟨Nat.le_of_ble_eq_true rfl, Nat.le_of_ble_eq_true rfl⟩ [] [] rfl rfl (Nat.le_of_ble_eq_true rfl) rfl (Nat.le_of_ble_eq_true rfl) (en_X6_empty m bb hb q1.2) (bp_s hb) (by decide) rfl (fun q2 => ?_)
  refine xs_aload_n (n := 16) dX9_shape_15 rfl rfl ?_
  refine xs_aload_n (n := 17) dX9_shape_16 rfl rfl ?_
  refine ys_callvv (n := 20) (N := mt_X9_findCorners) dX9_shape_17 rfl ok_X9_findCorners tw_517 im_X9_findCorners se_X9_findCorners ⟨Nat.le_of_ble_eq_true rfl, Nat.le_of_ble_eq_true rfl⟩ [.ref (6 + 24 * bb)] [] rfl rfl (Nat.le_of_ble_eq_true rfl) rfl (Nat.le_of_ble_eq_true rfl) (en_X9_findCorners m bb hb q2.2) sh_136 (by decide) rfl (fun q3 => ?_)
  refine xs_aload_n (n := 21) dX9_shape_20 rfl rfl ?_
  refine ys_callvi (n := 24) (N := mt_X6_isEmpty) dX9_shape_21 rfl ok_X6_isEmpty tw_552 im_X6_isEmpty se_X6_isEmpty ⟨Nat.le_of_ble_eq_true rfl, Nat.le_of_ble_eq_true rfl⟩ [] [] rfl rfl (Nat.le_of_ble_eq_true rfl) rfl (Nat.le_of_ble_eq_true rfl) (en_X6_isEmpty m bb hb q3.2) (bp_s hb) (by decide) rfl (fun q4 => ?_)
  refine xs_join 32 (fun q5 => [none, none, none, some (.ref (6 + 24 * bb))]) (fun q5 => []) (fun q5 => q5) (fun q5 => ?_) (fun kj6 => ?_)
  · refine xs_aload_n (n := 33) dX9_shape_32 rfl rfl ?_
    refine xs_iconst (n := 34) (v := (1 : Int32)) dX9_shape_33 rfl rfl ?_
    refine ys_putzc (n := 37) dX9_shape_34 rfl fl_X9_44 rfl (bp_s hb) (Or.inr rfl) (fun u9 => ?_)
    exact xs_vret dX9_shape_37 rfl rfl
  · refine xs_if_ne (n := 27) (tgt := 32) dX9_shape_24 rfl rfl (fun hc7 => ?_) (fun hc7 => ?_)
    · refine xs_aload_n (n := 28) dX9_shape_27 rfl rfl ?_
      refine xs_aload_n (n := 29) dX9_shape_28 rfl rfl ?_
      refine ys_callvv (n := 32) (N := mt_X9_findDirections) dX9_shape_29 rfl ok_X9_findDirections tw_556 im_X9_findDirections se_X9_findDirections ⟨Nat.le_of_ble_eq_true rfl, Nat.le_of_ble_eq_true rfl⟩ [.ref (6 + 24 * bb)] [] rfl rfl (Nat.le_of_ble_eq_true rfl) rfl (Nat.le_of_ble_eq_true rfl) (en_X9_findDirections m bb hb q4.2) sh_136 (by decide) rfl (fun q8 => ?_)
      exact xs_gf (xs_end (kj6 (q8.2))) (And.intro rfl trivial)
    · exact xs_gf (xs_end (kj6 (q4.2))) (And.intro rfl trivial)
def lp_X11_learnPlaces_2 (m : Nat) : Nat → Int32 → xm_Y → Option (Int32 × xm_Y)
  | 0, _, _ => none
  | n + 1, l1, u0 =>
  if (u0.1 1 2) ≤ l1 then (
  some (l1, u0)) else (
  xm_chk (xm_in l1 5) (
  ((if (u0.1 (6 + 24 * (Int32.toNatClampNeg l1)) 3) = 0 then (
  ((fn_X9_shape m (Int32.toNatClampNeg l1) u0).bind fun q6 =>
  some (q6.2))) else (
  some (u0)) : Option (xm_Y)).bind fun q3 =>
  xm_let (α := Int32) (l1 + (1 : Int32)) fun v7 =>
  lp_X11_learnPlaces_2 m n v7 q3)))
def fn_X11_learnPlaces (m : Nat) (u0 : xm_Y) : Option (Unit × xm_Y) :=
  ((lp_X11_learnPlaces_2 m m (0 : Int32) u0).bind fun q8 =>
  some ((), q8.2))
theorem el_X11_learnPlaces_2 (m : Nat) (K : Int32 × xm_Y → Option (Unit × xm_Y)) (kE : ∀ q : Int32 × xm_Y, xs_ (fun _ : Unit => none) sg_0 mt_X11_learnPlaces 51 [none, none, none] [] q.2 0 0 (K q)) : ∀ (n : Nat) (l1 : Int32) (u0 : xm_Y), xs_ (fun _ : Unit => none) sg_0 mt_X11_learnPlaces 2 [some (.ref 0), some (.int l1), none] [] u0 0 0 ((lp_X11_learnPlaces_2 m n l1 u0).bind K) := by
  intro n
  induction n with
  | zero =>
    intro l1 u0
    exact xs_none
  | succ n ih =>
    intro l1 u0
    rw [lp_X11_learnPlaces_2]
    refine xs_iload_n (n := 3) dX11_learnPlaces_2 rfl rfl ?_
    refine xs_aload_n (n := 4) dX11_learnPlaces_3 rfl rfl ?_
    refine ys_getr (n := 7) dX11_learnPlaces_4 rfl fl_X11_10 sh_0 rfl ?_
    refine ys_geti (n := 10) dX11_learnPlaces_7 rfl fl_X11_98 (Or.inl rfl) sh_1 ?_
    refine xs_icmp_ge (n := 13) (tgt := 51) dX11_learnPlaces_10 rfl rfl (fun hc1 => ?_) (fun hc1 => ?_)
    · exact xs_gf (xs_end (kE (l1, u0))) trivial
    · refine xs_aload_n (n := 14) dX11_learnPlaces_13 rfl rfl ?_
      refine ys_getr (n := 17) dX11_learnPlaces_14 rfl fl_X11_10 sh_0 rfl ?_
      refine ys_getr (n := 20) dX11_learnPlaces_17 rfl fl_X11_115 sh_1 rfl ?_
      refine xs_iload_n (n := 21) dX11_learnPlaces_20 rfl rfl ?_
      refine ys_aaload17 (n := 22) dX11_learnPlaces_21 rfl sh_2 (fun hi2 => pb_r (xin_n hi2)) (fun hi2 => ?_)
      refine xs_astore_n (n := 23) (lv' := [some (.ref 0), some (.int l1), some (.ref (3 + 24 * (Int32.toNatClampNeg l1)))]) dX11_learnPlaces_22 rfl (Nat.le_of_ble_eq_true rfl) rfl ?_
      refine xs_aload_n (n := 24) dX11_learnPlaces_23 rfl rfl ?_
      refine ys_getr (n := 27) dX11_learnPlaces_24 rfl fl_X11_171 (bd_s (xin_n hi2)) (bd_r2 (xin_n hi2)) ?_
      refine ys_geti (n := 30) dX11_learnPlaces_27 rfl fl_X11_289 (Or.inr rfl) (bp_s (xin_n hi2)) ?_
      refine xs_join 45 (fun q3 => [some (.ref 0), some (.int l1), none]) (fun q3 => []) (fun q3 => q3) (fun q3 => ?_) (fun kj4 => ?_)
      · refine xs_iincl (n := 48) (dv := (1 : Int32)) (fun v7 => [some (.ref 0), some (.int v7), none]) dX11_learnPlaces_45 rfl rfl rfl (Nat.le_of_ble_eq_true rfl) (fun _ => rfl) (fun v7 => ?_)
        refine xs_goto (n := 2) dX11_learnPlaces_48 rfl ?_
        exact xs_gf (ih v7 q3) (And.intro rfl (And.intro rfl trivial))
      · refine xs_if_ne (n := 33) (tgt := 45) dX11_learnPlaces_30 rfl rfl (fun hc5 => ?_) (fun hc5 => ?_)
        · refine xs_aload_n (n := 34) dX11_learnPlaces_33 rfl rfl ?_
          refine ys_getr (n := 37) dX11_learnPlaces_34 rfl fl_X11_47 sh_0 rfl ?_
          refine xs_aload_n (n := 38) dX11_learnPlaces_37 rfl rfl ?_
          refine xs_aload_n (n := 39) dX11_learnPlaces_38 rfl rfl ?_
          refine ys_getr (n := 42) dX11_learnPlaces_39 rfl fl_X11_30 sh_0 rfl ?_
          refine ys_callvv (n := 45) (N := mt_X9_shape) dX11_learnPlaces_42 rfl ok_X9_shape tw_491 im_X9_shape se_X9_shape ⟨Nat.le_of_ble_eq_true rfl, Nat.le_of_ble_eq_true rfl⟩ [.ref (3 + 24 * (Int32.toNatClampNeg l1)), .ref 127] [] rfl rfl (Nat.le_of_ble_eq_true rfl) rfl (Nat.le_of_ble_eq_true rfl) (en_X9_shape m (Int32.toNatClampNeg l1) (xin_n hi2) u0) sh_136 (by decide) rfl (fun q6 => ?_)
          exact xs_gf (xs_end (kj4 (q6.2))) (And.intro rfl (And.intro rfl trivial))
        · exact xs_gf (xs_end (kj4 (u0))) (And.intro rfl (And.intro rfl trivial))
theorem en_X11_learnPlaces (m : Nat) (u0 : xm_Y) : xs_ (fun _ : Unit => none) sg_0 mt_X11_learnPlaces 0 [some (.ref 0), none, none] [] u0 0 0 (fn_X11_learnPlaces m u0) := by
  refine xs_top ?_
  rw [fn_X11_learnPlaces]
  refine xs_iconst (n := 1) (v := (0 : Int32)) dX11_learnPlaces_0 rfl rfl ?_
  refine xs_istore_n (n := 2) (lv' := [some (.ref 0), some (.int (0 : Int32)), none]) dX11_learnPlaces_1 rfl (Nat.le_of_ble_eq_true rfl) rfl ?_
  refine xs_reg ?_
  refine xs_fg (lv' := [some (.ref 0), some (.int (0 : Int32)), none]) (And.intro rfl (And.intro rfl trivial)) ?_
  refine el_X11_learnPlaces_2 m _ (fun q8 => ?_) m (0 : Int32) u0
  exact xs_vret dX11_learnPlaces_51 rfl rfl
def lp_X7_isRankedBy_2 (m : Nat) (a1 : Nat) : Nat → Int32 → xm_Y → Option ((Int32 × xm_Y) ⊕ (Int32 × xm_Y))
  | 0, _, _ => none
  | n + 1, l2, u0 =>
  if (u0.1 1 2) ≤ l2 then (
  some (.inr (l2, u0))) else (
  xm_chk (xm_in l2 5) (
  ((fn_X1_ranksBy m (Int32.toNatClampNeg l2) a1 u0).bind fun q3 =>
  if q3.1 = 0 then (
  some (.inl ((0 : Int32), q3.2))) else (
  xm_let (α := Int32) (l2 + (1 : Int32)) fun v5 =>
  lp_X7_isRankedBy_2 m a1 n v5 q3.2))))
def fn_X7_isRankedBy (m : Nat) (s : Nat) (u0 : xm_Y) : Option (Int32 × xm_Y) :=
  ((lp_X7_isRankedBy_2 m s m (0 : Int32) u0).bind (Sum.elim (fun r => some r) (fun q6 =>
  some ((1 : Int32), q6.2))))
theorem el_X7_isRankedBy_2 (m : Nat) (a1 : Nat) (ha1 : xsh_ a1 13 3) (K : (Int32 × xm_Y) ⊕ (Int32 × xm_Y) → Option (Int32 × xm_Y)) (hK : ∀ r, K (.inl r) = some r) (kE : ∀ q : Int32 × xm_Y, xs_ (fun x : Int32 => some (.int x)) sg_0 mt_X7_isRankedBy 31 [none, none, none] [] q.2 0 0 (K (.inr q))) : ∀ (n : Nat) (l2 : Int32) (u0 : xm_Y), xs_ (fun x : Int32 => some (.int x)) sg_0 mt_X7_isRankedBy 2 [some (.ref 1), some (.ref a1), some (.int l2)] [] u0 0 0 ((lp_X7_isRankedBy_2 m a1 n l2 u0).bind K) := by
  intro n
  induction n with
  | zero =>
    intro l2 u0
    exact xs_none
  | succ n ih =>
    intro l2 u0
    rw [lp_X7_isRankedBy_2]
    refine xs_iload_n (n := 3) dX7_isRankedBy_2 rfl rfl ?_
    refine xs_aload_n (n := 4) dX7_isRankedBy_3 rfl rfl ?_
    refine ys_geti (n := 7) dX7_isRankedBy_4 rfl fl_X7_22 (Or.inl rfl) sh_1 ?_
    refine xs_icmp_ge (n := 10) (tgt := 31) dX7_isRankedBy_7 rfl rfl (fun hc1 => ?_) (fun hc1 => ?_)
    · exact xs_gf (xs_end (kE (l2, u0))) trivial
    · refine xs_aload_n (n := 11) dX7_isRankedBy_10 rfl rfl ?_
      refine ys_getr (n := 14) dX7_isRankedBy_11 rfl fl_X7_11 sh_1 rfl ?_
      refine xs_iload_n (n := 15) dX7_isRankedBy_14 rfl rfl ?_
      refine ys_aaload17 (n := 16) dX7_isRankedBy_15 rfl sh_2 (fun hi2 => pb_r (xin_n hi2)) (fun hi2 => ?_)
      refine xs_aload_n (n := 17) dX7_isRankedBy_16 rfl rfl ?_
      refine ys_callvi (n := 20) (N := mt_X1_ranksBy) dX7_isRankedBy_17 rfl ok_X1_ranksBy tw_568 im_X1_ranksBy se_X1_ranksBy ⟨Nat.le_of_ble_eq_true rfl, Nat.le_of_ble_eq_true rfl⟩ [.ref a1] [] rfl rfl (Nat.le_of_ble_eq_true rfl) rfl (Nat.le_of_ble_eq_true rfl) (en_X1_ranksBy m (Int32.toNatClampNeg l2) a1 (xin_n hi2) ha1 u0) (bd_s (xin_n hi2)) (by decide) rfl (fun q3 => ?_)
      refine xs_if_ne (n := 23) (tgt := 25) dX7_isRankedBy_20 rfl rfl (fun hc4 => ?_) (fun hc4 => ?_)
      · refine xs_iconst (n := 24) (v := (0 : Int32)) dX7_isRankedBy_23 rfl rfl ?_
        exact xs_zretc dX7_isRankedBy_24 rfl (Or.inl rfl) (hK _)
      · refine xs_iincl (n := 28) (dv := (1 : Int32)) (fun v5 => [some (.ref 1), some (.ref a1), some (.int v5)]) dX7_isRankedBy_25 rfl rfl rfl (Nat.le_of_ble_eq_true rfl) (fun _ => rfl) (fun v5 => ?_)
        refine xs_goto (n := 2) dX7_isRankedBy_28 rfl ?_
        exact xs_gf (ih v5 q3.2) (And.intro rfl (And.intro rfl (And.intro rfl trivial)))
theorem en_X7_isRankedBy (m : Nat) (s : Nat) (hs_ : xsh_ s 13 3) (u0 : xm_Y) : xs_ (fun x : Int32 => some (.int x)) sg_0 mt_X7_isRankedBy 0 [some (.ref 1), some (.ref s), none] [] u0 0 0 (fn_X7_isRankedBy m s u0) := by
  refine xs_top ?_
  rw [fn_X7_isRankedBy]
  refine xs_iconst (n := 1) (v := (0 : Int32)) dX7_isRankedBy_0 rfl rfl ?_
  refine xs_istore_n (n := 2) (lv' := [some (.ref 1), some (.ref s), some (.int (0 : Int32))]) dX7_isRankedBy_1 rfl (Nat.le_of_ble_eq_true rfl) rfl ?_
  refine xs_reg ?_
  refine xs_fg (lv' := [some (.ref 1), some (.ref s), some (.int (0 : Int32))]) (And.intro rfl (And.intro rfl (And.intro rfl trivial))) ?_
  refine el_X7_isRankedBy_2 m s hs_ _ (fun _ => rfl) (fun q6 => ?_) m (0 : Int32) u0
  refine xs_inr ?_
  refine xs_iconst (n := 32) (v := (1 : Int32)) dX7_isRankedBy_31 rfl rfl ?_
  exact xs_zretc dX7_isRankedBy_32 rfl (Or.inr rfl) rfl
def fn_X11_ranks (m : Nat) (x0 : Int32) (x1 : Int32) (x2 : Int32) (u0 : xm_Y) : Option (Int32 × xm_Y) :=
  ((fn_X11_ask m x0 x1 x2 u0).bind fun q1 =>
  if q1.1 = 0 then (
  some ((-1 : Int32), q1.2)) else (
  ((fn_X11_learnPlaces m q1.2).bind fun q3 =>
  ((fn_X7_isRankedBy m 145 q3.2).bind fun q4 =>
  ((if q4.1 = 0 then (
  some ((0 : Int32))) else (
  some ((1 : Int32))) : Option (Int32)).bind fun q5 =>
  some (q5, q4.2))))))
theorem en_X11_ranks (m : Nat) (x0 : Int32) (x1 : Int32) (x2 : Int32) (u0 : xm_Y) : xs_ (fun x : Int32 => some (.int x)) sg_0 mt_X11_ranks 0 [some (.ref 0), some (.int x0), some (.int x1), some (.int x2)] [] u0 0 0 (fn_X11_ranks m x0 x1 x2 u0) := by
  refine xs_top ?_
  rw [fn_X11_ranks]
  refine xs_aload_n (n := 1) dX11_ranks_0 rfl rfl ?_
  refine xs_iload_n (n := 2) dX11_ranks_1 rfl rfl ?_
  refine xs_iload_n (n := 3) dX11_ranks_2 rfl rfl ?_
  refine xs_iload_n (n := 4) dX11_ranks_3 rfl rfl ?_
  refine ys_callvi (n := 7) (N := mt_X11_ask) dX11_ranks_4 rfl ok_X11_ask tw_483 im_X11_ask se_X11_ask ⟨Nat.le_of_ble_eq_true rfl, Nat.le_of_ble_eq_true rfl⟩ [.int x0, .int x1, .int x2] [] rfl rfl (Nat.le_of_ble_eq_true rfl) rfl (Nat.le_of_ble_eq_true rfl) (en_X11_ask m x0 x1 x2 u0) sh_0 (by decide) rfl (fun q1 => ?_)
  refine xs_if_ne (n := 10) (tgt := 12) dX11_ranks_7 rfl rfl (fun hc2 => ?_) (fun hc2 => ?_)
  · refine xs_iconst (n := 11) (v := (-1 : Int32)) dX11_ranks_10 rfl rfl ?_
    exact xs_iret dX11_ranks_11 rfl rfl
  · refine xs_aload_n (n := 13) dX11_ranks_12 rfl rfl ?_
    refine ys_callvv (n := 16) (N := mt_X11_learnPlaces) dX11_ranks_13 rfl ok_X11_learnPlaces tw_487 im_X11_learnPlaces se_X11_learnPlaces ⟨Nat.le_of_ble_eq_true rfl, Nat.le_of_ble_eq_true rfl⟩ [] [] rfl rfl (Nat.le_of_ble_eq_true rfl) rfl (Nat.le_of_ble_eq_true rfl) (en_X11_learnPlaces m q1.2) sh_0 (by decide) rfl (fun q3 => ?_)
    refine xs_aload_n (n := 17) dX11_ranks_16 rfl rfl ?_
    refine ys_getr (n := 20) dX11_ranks_17 rfl fl_X11_10 sh_0 rfl ?_
    refine xs_aload_n (n := 21) dX11_ranks_20 rfl rfl ?_
    refine ys_getr (n := 24) dX11_ranks_21 rfl fl_X11_58 sh_0 rfl ?_
    refine ys_callvi (n := 27) (N := mt_X7_isRankedBy) dX11_ranks_24 rfl ok_X7_isRankedBy tw_564 im_X7_isRankedBy se_X7_isRankedBy ⟨Nat.le_of_ble_eq_true rfl, Nat.le_of_ble_eq_true rfl⟩ [.ref 145] [] rfl rfl (Nat.le_of_ble_eq_true rfl) rfl (Nat.le_of_ble_eq_true rfl) (en_X7_isRankedBy m 145 sh_145 q3.2) sh_1 (by decide) rfl (fun q4 => ?_)
    refine xs_join 35 (fun q5 => [none, none, none, none]) (fun q5 => [.int q5]) (fun q5 => q4.2) (fun q5 => ?_) (fun kj6 => ?_)
    · exact xs_iret dX11_ranks_35 rfl rfl
    · refine xs_if_eq (n := 30) (tgt := 34) dX11_ranks_27 rfl rfl (fun hc7 => ?_) (fun hc7 => ?_)
      · refine xs_iconst (n := 35) (v := (0 : Int32)) dX11_ranks_34 rfl rfl ?_
        exact xs_gf (xs_end (kj6 ((0 : Int32)))) trivial
      · refine xs_iconst (n := 31) (v := (1 : Int32)) dX11_ranks_30 rfl rfl ?_
        refine xs_goto (n := 35) dX11_ranks_31 rfl ?_
        exact xs_gf (xs_end (kj6 ((1 : Int32)))) trivial
def fn_X11_tells (m : Nat) (x0 : Int32) (x1 : Int32) (x2 : Int32) (x3 : Int32) (u0 : xm_Y) : Option (Int32 × xm_Y) :=
  ((fn_X7_has m x0 u0).bind fun q1 =>
  if q1.1 = 0 then (
  some ((-1 : Int32), q1.2)) else (
  ((fn_X11_ask m x1 x2 x3 q1.2).bind fun q3 =>
  if q3.1 = 0 then (
  some ((-1 : Int32), q3.2)) else (
  ((fn_X11_learnPlaces m q3.2).bind fun q5 =>
  xm_chk (xm_in x0 5) (
  ((fn_X6_isBoundBelow m (Int32.toNatClampNeg x0) 145 q5.2).bind fun q7 =>
  ((if q7.1 = 0 then (
  some ((0 : Int32))) else (
  some ((4 : Int32))) : Option (Int32)).bind fun q8 =>
  ((fn_X1_changesAtMost m (Int32.toNatClampNeg x0) 145 (-1 : Int32) q7.2).bind fun q11 =>
  ((if q11.1 = 0 then (
  some (q8)) else (
  xm_let (α := Int32) (q8 + (2 : Int32)) fun v15 =>
  some (v15)) : Option (Int32)).bind fun q12 =>
  ((fn_X1_changesAtMost m (Int32.toNatClampNeg x0) 145 (0 : Int32) q11.2).bind fun q16 =>
  ((if q16.1 = 0 then (
  some (q12)) else (
  xm_let (α := Int32) (q12 + (1 : Int32)) fun v20 =>
  some (v20)) : Option (Int32)).bind fun q17 =>
  some (q17, q16.2)))))))))))))
theorem en_X11_tells (m : Nat) (x0 : Int32) (x1 : Int32) (x2 : Int32) (x3 : Int32) (u0 : xm_Y) : xs_ (fun x : Int32 => some (.int x)) sg_0 mt_X11_tells 0 [some (.ref 0), some (.int x0), some (.int x1), some (.int x2), some (.int x3), none, none] [] u0 0 0 (fn_X11_tells m x0 x1 x2 x3 u0) := by
  refine xs_top ?_
  rw [fn_X11_tells]
  refine xs_aload_n (n := 1) dX11_tells_0 rfl rfl ?_
  refine ys_getr (n := 4) dX11_tells_1 rfl fl_X11_10 sh_0 rfl ?_
  refine xs_iload_n (n := 5) dX11_tells_4 rfl rfl ?_
  refine ys_callvi (n := 8) (N := mt_X7_has) dX11_tells_5 rfl ok_X7_has tw_367 im_X7_has se_X7_has ⟨Nat.le_of_ble_eq_true rfl, Nat.le_of_ble_eq_true rfl⟩ [.int x0] [] rfl rfl (Nat.le_of_ble_eq_true rfl) rfl (Nat.le_of_ble_eq_true rfl) (en_X7_has m x0 u0) sh_1 (by decide) rfl (fun q1 => ?_)
  refine xs_if_eq (n := 11) (tgt := 22) dX11_tells_8 rfl rfl (fun hc2 => ?_) (fun hc2 => ?_)
  · refine xs_iconst (n := 23) (v := (-1 : Int32)) dX11_tells_22 rfl rfl ?_
    exact xs_iret dX11_tells_23 rfl rfl
  · refine xs_aload_n (n := 12) dX11_tells_11 rfl rfl ?_
    refine xs_iload_n (n := 13) dX11_tells_12 rfl rfl ?_
    refine xs_iload_n (n := 14) dX11_tells_13 rfl rfl ?_
    refine xs_iload (n := 16) dX11_tells_14 rfl rfl ?_
    refine ys_callvi (n := 19) (N := mt_X11_ask) dX11_tells_16 rfl ok_X11_ask tw_483 im_X11_ask se_X11_ask ⟨Nat.le_of_ble_eq_true rfl, Nat.le_of_ble_eq_true rfl⟩ [.int x1, .int x2, .int x3] [] rfl rfl (Nat.le_of_ble_eq_true rfl) rfl (Nat.le_of_ble_eq_true rfl) (en_X11_ask m x1 x2 x3 q1.2) sh_0 (by decide) rfl (fun q3 => ?_)
    refine xs_if_ne (n := 22) (tgt := 24) dX11_tells_19 rfl rfl (fun hc4 => ?_) (fun hc4 => ?_)
    · refine xs_iconst (n := 23) (v := (-1 : Int32)) dX11_tells_22 rfl rfl ?_
      exact xs_iret dX11_tells_23 rfl rfl
    · refine xs_aload_n (n := 25) dX11_tells_24 rfl rfl ?_
      refine ys_callvv (n := 28) (N := mt_X11_learnPlaces) dX11_tells_25 rfl ok_X11_learnPlaces tw_487 im_X11_learnPlaces se_X11_learnPlaces ⟨Nat.le_of_ble_eq_true rfl, Nat.le_of_ble_eq_true rfl⟩ [] [] rfl rfl (Nat.le_of_ble_eq_true rfl) rfl (Nat.le_of_ble_eq_true rfl) (en_X11_learnPlaces m q3.2) sh_0 (by decide) rfl (fun q5 => ?_)
      refine xs_aload_n (n := 29) dX11_tells_28 rfl rfl ?_
      refine ys_getr (n := 32) dX11_tells_29 rfl fl_X11_10 sh_0 rfl ?_
      refine ys_getr (n := 35) dX11_tells_32 rfl fl_X11_115 sh_1 rfl ?_
      refine xs_iload_n (n := 36) dX11_tells_35 rfl rfl ?_
      refine ys_aaload17 (n := 37) dX11_tells_36 rfl sh_2 (fun hi6 => pb_r (xin_n hi6)) (fun hi6 => ?_)
      refine xs_astore (n := 39) (lv' := [some (.ref 0), some (.int x0), some (.int x1), some (.int x2), some (.int x3), some (.ref (3 + 24 * (Int32.toNatClampNeg x0))), none]) dX11_tells_37 rfl (Nat.le_of_ble_eq_true rfl) rfl ?_
      refine xs_aload (n := 41) dX11_tells_39 rfl rfl ?_
      refine ys_getr (n := 44) dX11_tells_41 rfl fl_X11_171 (bd_s (xin_n hi6)) (bd_r2 (xin_n hi6)) ?_
      refine xs_aload_n (n := 45) dX11_tells_44 rfl rfl ?_
      refine ys_getr (n := 48) dX11_tells_45 rfl fl_X11_58 sh_0 rfl ?_
      refine ys_callvi (n := 51) (N := mt_X6_isBoundBelow) dX11_tells_48 rfl ok_X6_isBoundBelow tw_592 im_X6_isBoundBelow se_X6_isBoundBelow ⟨Nat.le_of_ble_eq_true rfl, Nat.le_of_ble_eq_true rfl⟩ [.ref 145] [] rfl rfl (Nat.le_of_ble_eq_true rfl) rfl (Nat.le_of_ble_eq_true rfl) (en_X6_isBoundBelow m (Int32.toNatClampNeg x0) 145 (xin_n hi6) sh_145 q5.2) (bp_s (xin_n hi6)) (by decide) rfl (fun q7 => ?_)
      refine xs_join 59 (fun q8 => [some (.ref 0), none, none, none, none, some (.ref (3 + 24 * (Int32.toNatClampNeg x0))), none]) (fun q8 => [.int q8]) (fun q8 => q7.2) (fun q8 => ?_) (fun kj9 => ?_)
      · refine xs_istore (n := 61) (lv' := [some (.ref 0), none, none, none, none, some (.ref (3 + 24 * (Int32.toNatClampNeg x0))), some (.int q8)]) dX11_tells_59 rfl (Nat.le_of_ble_eq_true rfl) rfl ?_
        refine xs_aload (n := 63) dX11_tells_61 rfl rfl ?_
        refine xs_aload_n (n := 64) dX11_tells_63 rfl rfl ?_
        refine ys_getr (n := 67) dX11_tells_64 rfl fl_X11_58 sh_0 rfl ?_
        refine xs_iconst (n := 68) (v := (-1 : Int32)) dX11_tells_67 rfl rfl ?_
        refine ys_callvi (n := 71) (N := mt_X1_changesAtMost) dX11_tells_68 rfl ok_X1_changesAtMost tw_593 im_X1_changesAtMost se_X1_changesAtMost ⟨Nat.le_of_ble_eq_true rfl, Nat.le_of_ble_eq_true rfl⟩ [.ref 145, .int (-1 : Int32)] [] rfl rfl (Nat.le_of_ble_eq_true rfl) rfl (Nat.le_of_ble_eq_true rfl) (en_X1_changesAtMost m (Int32.toNatClampNeg x0) 145 (-1 : Int32) (xin_n hi6) sh_145 q7.2) (bd_s (xin_n hi6)) (by decide) rfl (fun q11 => ?_)
        refine xs_join 77 (fun q12 => [some (.ref 0), none, none, none, none, some (.ref (3 + 24 * (Int32.toNatClampNeg x0))), some (.int q12)]) (fun q12 => []) (fun q12 => q11.2) (fun q12 => ?_) (fun kj13 => ?_)
        · refine xs_aload (n := 79) dX11_tells_77 rfl rfl ?_
          refine xs_aload_n (n := 80) dX11_tells_79 rfl rfl ?_
          refine ys_getr (n := 83) dX11_tells_80 rfl fl_X11_58 sh_0 rfl ?_
          refine xs_iconst (n := 84) (v := (0 : Int32)) dX11_tells_83 rfl rfl ?_
          refine ys_callvi (n := 87) (N := mt_X1_changesAtMost) dX11_tells_84 rfl ok_X1_changesAtMost tw_593 im_X1_changesAtMost se_X1_changesAtMost ⟨Nat.le_of_ble_eq_true rfl, Nat.le_of_ble_eq_true rfl⟩ [.ref 145, .int (0 : Int32)] [] rfl rfl (Nat.le_of_ble_eq_true rfl) rfl (Nat.le_of_ble_eq_true rfl) (en_X1_changesAtMost m (Int32.toNatClampNeg x0) 145 (0 : Int32) (xin_n hi6) sh_145 q11.2) (bd_s (xin_n hi6)) (by decide) rfl (fun q16 => ?_)
          refine xs_join 93 (fun q17 => [none, none, none, none, none, none, some (.int q17)]) (fun q17 => []) (fun q17 => q16.2) (fun q17 => ?_) (fun kj18 => ?_)
          · refine xs_iload (n := 95) dX11_tells_93 rfl rfl ?_
            exact xs_iret dX11_tells_95 rfl rfl
          · refine xs_if_eq (n := 90) (tgt := 93) dX11_tells_87 rfl rfl (fun hc19 => ?_) (fun hc19 => ?_)
            · exact xs_gf (xs_end (kj18 (q12))) (And.intro rfl trivial)
            · refine xs_iincl (n := 93) (dv := (1 : Int32)) (fun v20 => [some (.ref 0), none, none, none, none, some (.ref (3 + 24 * (Int32.toNatClampNeg x0))), some (.int v20)]) dX11_tells_90 rfl rfl rfl (Nat.le_of_ble_eq_true rfl) (fun _ => rfl) (fun v20 => ?_)
              exact xs_gf (xs_end (kj18 (v20))) (And.intro rfl trivial)
        · refine xs_if_eq (n := 74) (tgt := 77) dX11_tells_71 rfl rfl (fun hc14 => ?_) (fun hc14 => ?_)
          · exact xs_gf (xs_end (kj13 (q8))) (And.intro rfl (And.intro rfl (And.intro rfl trivial)))
          · refine xs_iincl (n := 77) (dv := (2 : Int32)) (fun v15 => [some (.ref 0), none, none, none, none, some (.ref (3 + 24 * (Int32.toNatClampNeg x0))), some (.int v15)]) dX11_tells_74 rfl rfl rfl (Nat.le_of_ble_eq_true rfl) (fun _ => rfl) (fun v15 => ?_)
            exact xs_gf (xs_end (kj13 (v15))) (And.intro rfl (And.intro rfl (And.intro rfl trivial)))
      · refine xs_if_eq (n := 54) (tgt := 58) dX11_tells_51 rfl rfl (fun hc10 => ?_) (fun hc10 => ?_)
        · refine xs_iconst (n := 59) (v := (0 : Int32)) dX11_tells_58 rfl rfl ?_
          exact xs_gf (xs_end (kj9 ((0 : Int32)))) (And.intro rfl (And.intro rfl trivial))
        · refine xs_iconst (n := 55) (v := (4 : Int32)) dX11_tells_54 rfl rfl ?_
          refine xs_goto (n := 59) dX11_tells_55 rfl ?_
          exact xs_gf (xs_end (kj9 ((4 : Int32)))) (And.intro rfl (And.intro rfl trivial))
def lp_X6_floorOf_5 (m : Nat) (b0 : Nat) (a1 : Nat) : Nat → Int64 → Int32 → xm_Y → Option (Int64 × Int32 × xm_Y)
  | 0, _, _, _ => none
  | n + 1, l2, l4, u0 =>
  if ((4 : Int32) * (u0.1 (6 + 24 * b0) 2)) ≤ l4 then (
  some (l2, l4, u0)) else (
  xm_chk (xm_in (l4 + (3 : Int32)) 512) (
  xm_let (α := Int64) ((u0.2 (7 + 24 * b0) (Int32.toNatClampNeg (l4 + (3 : Int32))))) fun v2 =>
  ((if v2 ≤ (0 : Int64) then (
  some (l2, u0)) else (
  ((fn_X6_valueAt m b0 a1 l4 u0).bind fun q6 =>
  ((fn_J9_floorDiv_f86c9 m q6.1 v2 q6.2).bind fun q7 =>
  ((if l4 = 0 then (
  some (q7.1, q7.2)) else (
  ((fn_J9_min_f86c9 m l2 q7.1 q7.2).bind fun q11 =>
  some (q11.1, q11.2))) : Option (Int64 × xm_Y)).bind fun q8 =>
  some (q8.1, q8.2))))) : Option (Int64 × xm_Y)).bind fun q3 =>
  xm_let (α := Int32) (l4 + (4 : Int32)) fun v12 =>
  lp_X6_floorOf_5 m b0 a1 n q3.1 v12 q3.2)))
def fn_X6_floorOf (m : Nat) (bb : Nat) (s : Nat) (u0 : xm_Y) : Option (Int64 × xm_Y) :=
  ((lp_X6_floorOf_5 m bb s m (0 : Int64) (0 : Int32) u0).bind fun q13 =>
  some (q13.1, q13.2.2))
theorem el_X6_floorOf_5 (m : Nat) (b0 : Nat) (a1 : Nat) (hb0 : b0 < 5) (ha1 : xsh_ a1 13 3) (K : Int64 × Int32 × xm_Y → Option (Int64 × xm_Y)) (kE : ∀ q : Int64 × Int32 × xm_Y, xs_ (fun x : Int64 => some (.long x)) sg_0 mt_X6_floorOf 71 [none, none, some (.long q.1), none, none, none, none, none, none] [] q.2.2 0 0 (K q)) : ∀ (n : Nat) (l2 : Int64) (l4 : Int32) (u0 : xm_Y), xs_ (fun x : Int64 => some (.long x)) sg_0 mt_X6_floorOf 5 [some (.ref (6 + 24 * b0)), some (.ref a1), some (.long l2), none, some (.int l4), none, none, none, none] [] u0 0 0 ((lp_X6_floorOf_5 m b0 a1 n l2 l4 u0).bind K) := by
  intro n
  induction n with
  | zero =>
    intro l2 l4 u0
    exact xs_none
  | succ n ih =>
    intro l2 l4 u0
    rw [lp_X6_floorOf_5]
    refine xs_iload (n := 7) dX6_floorOf_5 rfl rfl ?_
    refine xs_iconst (n := 8) (v := (4 : Int32)) dX6_floorOf_7 rfl rfl ?_
    refine xs_aload_n (n := 9) dX6_floorOf_8 rfl rfl ?_
    refine ys_geti (n := 12) dX6_floorOf_9 rfl fl_X6_17 (Or.inl rfl) (bp_s hb0) ?_
    refine xs_imul (n := 13) dX6_floorOf_12 rfl ?_
    refine xs_icmp_ge (n := 16) (tgt := 71) dX6_floorOf_13 rfl rfl (fun hc1 => ?_) (fun hc1 => ?_)
    · exact xs_gf (xs_end (kE (l2, l4, u0))) (And.intro rfl trivial)
    · refine xs_aload_n (n := 17) dX6_floorOf_16 rfl rfl ?_
      refine ys_getr (n := 20) dX6_floorOf_17 rfl fl_X6_9 (bp_s hb0) (bp_r0 hb0) ?_
      refine xs_iload (n := 22) dX6_floorOf_20 rfl rfl ?_
      refine xs_iconst (n := 23) (v := (3 : Int32)) dX6_floorOf_22 rfl rfl ?_
      refine xs_iadd (n := 24) dX6_floorOf_23 rfl ?_
      refine ys_laload (n := 25) dX6_floorOf_24 rfl (bq_s hb0) ?_
      refine xs_letl (fun v2 => ?_)
      refine xs_lstore (n := 27) (lv' := [some (.ref (6 + 24 * b0)), some (.ref a1), some (.long l2), none, some (.int l4), some (.long v2), none, none, none]) dX6_floorOf_25 rfl (Nat.le_of_ble_eq_true rfl) rfl ?_
      refine xs_lload (n := 29) dX6_floorOf_27 rfl rfl ?_
      refine xs_lconst (n := 30) (v := (0 : Int64)) dX6_floorOf_29 rfl rfl ?_
      refine xs_join 65 (fun q3 => [some (.ref (6 + 24 * b0)), some (.ref a1), some (.long q3.1), none, some (.int l4), none, none, none, none]) (fun q3 => []) (fun q3 => q3.2) (fun q3 => ?_) (fun kj4 => ?_)
      · refine xs_iincl (n := 68) (dv := (4 : Int32)) (fun v12 => [some (.ref (6 + 24 * b0)), some (.ref a1), some (.long q3.1), none, some (.int v12), none, none, none, none]) dX6_floorOf_65 rfl rfl rfl (Nat.le_of_ble_eq_true rfl) (fun _ => rfl) (fun v12 => ?_)
        refine xs_goto (n := 5) dX6_floorOf_68 rfl ?_
        exact xs_gf (ih q3.1 v12 q3.2) (And.intro rfl (And.intro rfl (And.intro rfl (And.intro rfl trivial))))
      · refine xs_lif_le (n := 34) (pc1 := 31) (tgt := 65) dX6_floorOf_30 rfl dX6_floorOf_31 rfl rfl (fun hc5 => ?_) (fun hc5 => ?_)
        · exact xs_gf (xs_end (kj4 (l2, u0))) (And.intro rfl (And.intro rfl (And.intro rfl (And.intro rfl trivial))))
        · refine xs_aload_n (n := 35) dX6_floorOf_34 rfl rfl ?_
          refine xs_aload_n (n := 36) dX6_floorOf_35 rfl rfl ?_
          refine xs_iload (n := 38) dX6_floorOf_36 rfl rfl ?_
          refine ys_callvl (n := 41) (N := mt_X6_valueAt) dX6_floorOf_38 rfl ok_X6_valueAt tw_576 im_X6_valueAt se_X6_valueAt ⟨Nat.le_of_ble_eq_true rfl, Nat.le_of_ble_eq_true rfl⟩ [.ref a1, .int l4] [] rfl rfl (Nat.le_of_ble_eq_true rfl) rfl (Nat.le_of_ble_eq_true rfl) (en_X6_valueAt m b0 a1 l4 hb0 ha1 u0) (bp_s hb0) (by decide) rfl (fun q6 => ?_)
          refine xs_lload (n := 43) dX6_floorOf_41 rfl rfl ?_
          refine ys_callsl (n := 46) (N := mt_J9_floorDiv_f86c9) dX6_floorOf_43 rfl ok_J9_floorDiv_f86c9 tw_608 st_J9_floorDiv_f86c9 ⟨Nat.le_of_ble_eq_true rfl, Nat.le_of_ble_eq_true rfl⟩ [.long q6.1, .long v2] [] rfl rfl (Nat.le_of_ble_eq_true rfl) rfl (Nat.le_of_ble_eq_true rfl) (en_J9_floorDiv_f86c9 m q6.1 v2 q6.2) (fun q7 => ?_)
          refine xs_lstore (n := 48) (lv' := [some (.ref (6 + 24 * b0)), some (.ref a1), some (.long l2), none, some (.int l4), some (.long v2), none, some (.long q7.1), none]) dX6_floorOf_46 rfl (Nat.le_of_ble_eq_true rfl) rfl ?_
          refine xs_iload (n := 50) dX6_floorOf_48 rfl rfl ?_
          refine xs_join 64 (fun q8 => [some (.ref (6 + 24 * b0)), some (.ref a1), none, none, some (.int l4), none, none, none, none]) (fun q8 => [.long q8.1]) (fun q8 => q8.2) (fun q8 => ?_) (fun kj9 => ?_)
          · refine xs_lstore_n (n := 65) (lv' := [some (.ref (6 + 24 * b0)), some (.ref a1), some (.long q8.1), none, some (.int l4), none, none, none, none]) dX6_floorOf_64 rfl (Nat.le_of_ble_eq_true rfl) rfl ?_
            exact xs_gf (xs_end (kj4 (q8.1, q8.2))) (And.intro rfl (And.intro rfl (And.intro rfl (And.intro rfl trivial))))
          · refine xs_if_ne (n := 53) (tgt := 58) dX6_floorOf_50 rfl rfl (fun hc10 => ?_) (fun hc10 => ?_)
            · refine xs_lload (n := 55) dX6_floorOf_53 rfl rfl ?_
              refine xs_goto (n := 64) dX6_floorOf_55 rfl ?_
              exact xs_gf (xs_end (kj9 (q7.1, q7.2))) (And.intro rfl (And.intro rfl (And.intro rfl trivial)))
            · refine xs_lload_n (n := 59) dX6_floorOf_58 rfl rfl ?_
              refine xs_lload (n := 61) dX6_floorOf_59 rfl rfl ?_
              refine ys_callsl (n := 64) (N := mt_J9_min_f86c9) dX6_floorOf_61 rfl ok_J9_min_f86c9 tw_611 st_J9_min_f86c9 ⟨Nat.le_of_ble_eq_true rfl, Nat.le_of_ble_eq_true rfl⟩ [.long l2, .long q7.1] [] rfl rfl (Nat.le_of_ble_eq_true rfl) rfl (Nat.le_of_ble_eq_true rfl) (en_J9_min_f86c9 m l2 q7.1 q7.2) (fun q11 => ?_)
              exact xs_gf (xs_end (kj9 (q11.1, q11.2))) (And.intro rfl (And.intro rfl (And.intro rfl trivial)))
theorem en_X6_floorOf (m : Nat) (bb : Nat) (s : Nat) (hb : bb < 5) (hs_ : xsh_ s 13 3) (u0 : xm_Y) : xs_ (fun x : Int64 => some (.long x)) sg_0 mt_X6_floorOf 0 [some (.ref (6 + 24 * bb)), some (.ref s), none, none, none, none, none, none, none] [] u0 0 0 (fn_X6_floorOf m bb s u0) := by
  refine xs_top ?_
  rw [fn_X6_floorOf]
  refine xs_lconst (n := 1) (v := (0 : Int64)) dX6_floorOf_0 rfl rfl ?_
  refine xs_lstore_n (n := 2) (lv' := [some (.ref (6 + 24 * bb)), some (.ref s), some (.long (0 : Int64)), none, none, none, none, none, none]) dX6_floorOf_1 rfl (Nat.le_of_ble_eq_true rfl) rfl ?_
  refine xs_iconst (n := 3) (v := (0 : Int32)) dX6_floorOf_2 rfl rfl ?_
  refine xs_istore (n := 5) (lv' := [some (.ref (6 + 24 * bb)), some (.ref s), some (.long (0 : Int64)), none, some (.int (0 : Int32)), none, none, none, none]) dX6_floorOf_3 rfl (Nat.le_of_ble_eq_true rfl) rfl ?_
  refine xs_reg ?_
  refine xs_fg (lv' := [some (.ref (6 + 24 * bb)), some (.ref s), some (.long (0 : Int64)), none, some (.int (0 : Int32)), none, none, none, none]) (And.intro rfl (And.intro rfl (And.intro rfl (And.intro rfl trivial)))) ?_
  refine el_X6_floorOf_5 m bb s hb hs_ _ (fun q13 => ?_) m (0 : Int64) (0 : Int32) u0
  refine xs_lload_n (n := 72) dX6_floorOf_71 rfl rfl ?_
  exact xs_lret dX6_floorOf_72 rfl rfl
def lp_X7_floorOf_7 (m : Nat) (a1 : Nat) : Nat → Int32 → Int64 → Int32 → xm_Y → Option (Int32 × Int64 × Int32 × xm_Y)
  | 0, _, _, _, _ => none
  | n + 1, l2, l3, l5, u0 =>
  if (u0.1 1 2) ≤ l5 then (
  some (l2, l3, l5, u0)) else (
  xm_chk (xm_in l5 5) (
  ((fn_X6_isEmpty m (Int32.toNatClampNeg l5) u0).bind fun q3 =>
  ((if q3.1 = 0 then (
  ((fn_X6_floorOf m (Int32.toNatClampNeg l5) a1 q3.2).bind fun q7 =>
  ((if l2 = 0 then (
  some (q7.1, q7.2)) else (
  ((fn_J9_min_f86c9 m l3 q7.1 q7.2).bind fun q11 =>
  some (q11.1, q11.2))) : Option (Int64 × xm_Y)).bind fun q8 =>
  some ((1 : Int32), q8.1, q8.2)))) else (
  some (l2, l3, q3.2)) : Option (Int32 × Int64 × xm_Y)).bind fun q4 =>
  xm_let (α := Int32) (l5 + (1 : Int32)) fun v12 =>
  lp_X7_floorOf_7 m a1 n q4.1 q4.2.1 v12 q4.2.2))))
def fn_X7_floorOf (m : Nat) (s : Nat) (u0 : xm_Y) : Option (Int64 × xm_Y) :=
  ((lp_X7_floorOf_7 m s m (0 : Int32) (0 : Int64) (0 : Int32) u0).bind fun q13 =>
  some (q13.2.1, q13.2.2.2))
theorem el_X7_floorOf_7 (m : Nat) (a1 : Nat) (ha1 : xsh_ a1 13 3) (K : Int32 × Int64 × Int32 × xm_Y → Option (Int64 × xm_Y)) (kE : ∀ q : Int32 × Int64 × Int32 × xm_Y, xs_ (fun x : Int64 => some (.long x)) sg_0 mt_X7_floorOf 68 [none, none, none, some (.long q.2.1), none, none, none, none, none] [] q.2.2.2 0 0 (K q)) : ∀ (n : Nat) (l2 : Int32) (l3 : Int64) (l5 : Int32) (u0 : xm_Y), xs_ (fun x : Int64 => some (.long x)) sg_0 mt_X7_floorOf 7 [some (.ref 1), some (.ref a1), some (.int l2), some (.long l3), none, some (.int l5), none, none, none] [] u0 0 0 ((lp_X7_floorOf_7 m a1 n l2 l3 l5 u0).bind K) := by
  intro n
  induction n with
  | zero =>
    intro l2 l3 l5 u0
    exact xs_none
  | succ n ih =>
    intro l2 l3 l5 u0
    rw [lp_X7_floorOf_7]
    refine xs_iload (n := 9) dX7_floorOf_7 rfl rfl ?_
    refine xs_aload_n (n := 10) dX7_floorOf_9 rfl rfl ?_
    refine ys_geti (n := 13) dX7_floorOf_10 rfl fl_X7_22 (Or.inl rfl) sh_1 ?_
    refine xs_icmp_ge (n := 16) (tgt := 68) dX7_floorOf_13 rfl rfl (fun hc1 => ?_) (fun hc1 => ?_)
    · exact xs_gf (xs_end (kE (l2, l3, l5, u0))) (And.intro rfl trivial)
    · refine xs_aload_n (n := 17) dX7_floorOf_16 rfl rfl ?_
      refine ys_getr (n := 20) dX7_floorOf_17 rfl fl_X7_11 sh_1 rfl ?_
      refine xs_iload (n := 22) dX7_floorOf_20 rfl rfl ?_
      refine ys_aaload17 (n := 23) dX7_floorOf_22 rfl sh_2 (fun hi2 => pb_r (xin_n hi2)) (fun hi2 => ?_)
      refine ys_getr (n := 26) dX7_floorOf_23 rfl fl_X7_43 (bd_s (xin_n hi2)) (bd_r2 (xin_n hi2)) ?_
      refine xs_astore (n := 28) (lv' := [some (.ref 1), some (.ref a1), some (.int l2), some (.long l3), none, some (.int l5), some (.ref (6 + 24 * (Int32.toNatClampNeg l5))), none, none]) dX7_floorOf_26 rfl (Nat.le_of_ble_eq_true rfl) rfl ?_
      refine xs_aload (n := 30) dX7_floorOf_28 rfl rfl ?_
      refine ys_callvi (n := 33) (N := mt_X6_isEmpty) dX7_floorOf_30 rfl ok_X6_isEmpty tw_603 im_X6_isEmpty se_X6_isEmpty ⟨Nat.le_of_ble_eq_true rfl, Nat.le_of_ble_eq_true rfl⟩ [] [] rfl rfl (Nat.le_of_ble_eq_true rfl) rfl (Nat.le_of_ble_eq_true rfl) (en_X6_isEmpty m (Int32.toNatClampNeg l5) (xin_n hi2) u0) (bp_s (xin_n hi2)) (by decide) rfl (fun q3 => ?_)
      refine xs_join 62 (fun q4 => [some (.ref 1), some (.ref a1), some (.int q4.1), some (.long q4.2.1), none, some (.int l5), none, none, none]) (fun q4 => []) (fun q4 => q4.2.2) (fun q4 => ?_) (fun kj5 => ?_)
      · refine xs_iincl (n := 65) (dv := (1 : Int32)) (fun v12 => [some (.ref 1), some (.ref a1), some (.int q4.1), some (.long q4.2.1), none, some (.int v12), none, none, none]) dX7_floorOf_62 rfl rfl rfl (Nat.le_of_ble_eq_true rfl) (fun _ => rfl) (fun v12 => ?_)
        refine xs_goto (n := 7) dX7_floorOf_65 rfl ?_
        exact xs_gf (ih q4.1 q4.2.1 v12 q4.2.2) (And.intro rfl (And.intro rfl (And.intro rfl (And.intro rfl (And.intro rfl trivial)))))
      · refine xs_if_ne (n := 36) (tgt := 62) dX7_floorOf_33 rfl rfl (fun hc6 => ?_) (fun hc6 => ?_)
        · refine xs_aload (n := 38) dX7_floorOf_36 rfl rfl ?_
          refine xs_aload_n (n := 39) dX7_floorOf_38 rfl rfl ?_
          refine ys_callvl (n := 42) (N := mt_X6_floorOf) dX7_floorOf_39 rfl ok_X6_floorOf tw_604 im_X6_floorOf se_X6_floorOf ⟨Nat.le_of_ble_eq_true rfl, Nat.le_of_ble_eq_true rfl⟩ [.ref a1] [] rfl rfl (Nat.le_of_ble_eq_true rfl) rfl (Nat.le_of_ble_eq_true rfl) (en_X6_floorOf m (Int32.toNatClampNeg l5) a1 (xin_n hi2) ha1 q3.2) (bp_s (xin_n hi2)) (by decide) rfl (fun q7 => ?_)
          refine xs_lstore (n := 44) (lv' := [some (.ref 1), some (.ref a1), some (.int l2), some (.long l3), none, some (.int l5), some (.ref (6 + 24 * (Int32.toNatClampNeg l5))), some (.long q7.1), none]) dX7_floorOf_42 rfl (Nat.le_of_ble_eq_true rfl) rfl ?_
          refine xs_iload_n (n := 45) dX7_floorOf_44 rfl rfl ?_
          refine xs_join 59 (fun q8 => [some (.ref 1), some (.ref a1), none, none, none, some (.int l5), none, none, none]) (fun q8 => [.long q8.1]) (fun q8 => q8.2) (fun q8 => ?_) (fun kj9 => ?_)
          · refine xs_lstore_n (n := 60) (lv' := [some (.ref 1), some (.ref a1), none, some (.long q8.1), none, some (.int l5), none, none, none]) dX7_floorOf_59 rfl (Nat.le_of_ble_eq_true rfl) rfl ?_
            refine xs_iconst (n := 61) (v := (1 : Int32)) dX7_floorOf_60 rfl rfl ?_
            refine xs_istore_n (n := 62) (lv' := [some (.ref 1), some (.ref a1), some (.int (1 : Int32)), some (.long q8.1), none, some (.int l5), none, none, none]) dX7_floorOf_61 rfl (Nat.le_of_ble_eq_true rfl) rfl ?_
            exact xs_gf (xs_end (kj5 ((1 : Int32), q8.1, q8.2))) (And.intro rfl (And.intro rfl (And.intro rfl (And.intro rfl (And.intro rfl trivial)))))
          · refine xs_if_eq (n := 48) (tgt := 57) dX7_floorOf_45 rfl rfl (fun hc10 => ?_) (fun hc10 => ?_)
            · refine xs_lload (n := 59) dX7_floorOf_57 rfl rfl ?_
              exact xs_gf (xs_end (kj9 (q7.1, q7.2))) (And.intro rfl (And.intro rfl (And.intro rfl trivial)))
            · refine xs_lload_n (n := 49) dX7_floorOf_48 rfl rfl ?_
              refine xs_lload (n := 51) dX7_floorOf_49 rfl rfl ?_
              refine ys_callsl (n := 54) (N := mt_J9_min_f86c9) dX7_floorOf_51 rfl ok_J9_min_f86c9 tw_614 st_J9_min_f86c9 ⟨Nat.le_of_ble_eq_true rfl, Nat.le_of_ble_eq_true rfl⟩ [.long l3, .long q7.1] [] rfl rfl (Nat.le_of_ble_eq_true rfl) rfl (Nat.le_of_ble_eq_true rfl) (en_J9_min_f86c9 m l3 q7.1 q7.2) (fun q11 => ?_)
              refine xs_goto (n := 59) dX7_floorOf_54 rfl ?_
              exact xs_gf (xs_end (kj9 (q11.1, q11.2))) (And.intro rfl (And.intro rfl (And.intro rfl trivial)))
        · exact xs_gf (xs_end (kj5 (l2, l3, q3.2))) (And.intro rfl (And.intro rfl (And.intro rfl (And.intro rfl (And.intro rfl trivial)))))
theorem en_X7_floorOf (m : Nat) (s : Nat) (hs_ : xsh_ s 13 3) (u0 : xm_Y) : xs_ (fun x : Int64 => some (.long x)) sg_0 mt_X7_floorOf 0 [some (.ref 1), some (.ref s), none, none, none, none, none, none, none] [] u0 0 0 (fn_X7_floorOf m s u0) := by
  refine xs_top ?_
  rw [fn_X7_floorOf]
  refine xs_iconst (n := 1) (v := (0 : Int32)) dX7_floorOf_0 rfl rfl ?_
  refine xs_istore_n (n := 2) (lv' := [some (.ref 1), some (.ref s), some (.int (0 : Int32)), none, none, none, none, none, none]) dX7_floorOf_1 rfl (Nat.le_of_ble_eq_true rfl) rfl ?_
  refine xs_lconst (n := 3) (v := (0 : Int64)) dX7_floorOf_2 rfl rfl ?_
  refine xs_lstore_n (n := 4) (lv' := [some (.ref 1), some (.ref s), some (.int (0 : Int32)), some (.long (0 : Int64)), none, none, none, none, none]) dX7_floorOf_3 rfl (Nat.le_of_ble_eq_true rfl) rfl ?_
  refine xs_iconst (n := 5) (v := (0 : Int32)) dX7_floorOf_4 rfl rfl ?_
  refine xs_istore (n := 7) (lv' := [some (.ref 1), some (.ref s), some (.int (0 : Int32)), some (.long (0 : Int64)), none, some (.int (0 : Int32)), none, none, none]) dX7_floorOf_5 rfl (Nat.le_of_ble_eq_true rfl) rfl ?_
  refine xs_reg ?_
  refine xs_fg (lv' := [some (.ref 1), some (.ref s), some (.int (0 : Int32)), some (.long (0 : Int64)), none, some (.int (0 : Int32)), none, none, none]) (And.intro rfl (And.intro rfl (And.intro rfl (And.intro rfl (And.intro rfl trivial))))) ?_
  refine el_X7_floorOf_7 m s hs_ _ (fun q13 => ?_) m (0 : Int32) (0 : Int64) (0 : Int32) u0
  refine xs_lload_n (n := 69) dX7_floorOf_68 rfl rfl ?_
  exact xs_lret dX7_floorOf_69 rfl rfl
def fn_X11_floor (m : Nat) (x0 : Int32) (x1 : Int32) (x2 : Int32) (u0 : xm_Y) : Option (Int64 × xm_Y) :=
  ((fn_X11_ask m x0 x1 x2 u0).bind fun q1 =>
  if q1.1 = 0 then (
  some ((-9000000000000000 : Int64), q1.2)) else (
  ((fn_X11_learnPlaces m q1.2).bind fun q3 =>
  ((fn_X7_isRankedBy m 145 q3.2).bind fun q4 =>
  ((if q4.1 = 0 then (
  some ((-9000000000000000 : Int64), q4.2)) else (
  ((fn_X7_floorOf m 145 q4.2).bind fun q8 =>
  some (q8.1, q8.2))) : Option (Int64 × xm_Y)).bind fun q5 =>
  some (q5.1, q5.2))))))
theorem en_X11_floor (m : Nat) (x0 : Int32) (x1 : Int32) (x2 : Int32) (u0 : xm_Y) : xs_ (fun x : Int64 => some (.long x)) sg_0 mt_X11_floor 0 [some (.ref 0), some (.int x0), some (.int x1), some (.int x2)] [] u0 0 0 (fn_X11_floor m x0 x1 x2 u0) := by
  refine xs_top ?_
  rw [fn_X11_floor]
  refine xs_aload_n (n := 1) dX11_floor_0 rfl rfl ?_
  refine xs_iload_n (n := 2) dX11_floor_1 rfl rfl ?_
  refine xs_iload_n (n := 3) dX11_floor_2 rfl rfl ?_
  refine xs_iload_n (n := 4) dX11_floor_3 rfl rfl ?_
  refine ys_callvi (n := 7) (N := mt_X11_ask) dX11_floor_4 rfl ok_X11_ask tw_483 im_X11_ask se_X11_ask ⟨Nat.le_of_ble_eq_true rfl, Nat.le_of_ble_eq_true rfl⟩ [.int x0, .int x1, .int x2] [] rfl rfl (Nat.le_of_ble_eq_true rfl) rfl (Nat.le_of_ble_eq_true rfl) (en_X11_ask m x0 x1 x2 u0) sh_0 (by decide) rfl (fun q1 => ?_)
  refine xs_if_ne (n := 10) (tgt := 14) dX11_floor_7 rfl rfl (fun hc2 => ?_) (fun hc2 => ?_)
  · refine xs_ldc2 (n := 13) (v := (-9000000000000000 : Int64)) dX11_floor_10 rfl tw_598 ?_
    exact xs_lret dX11_floor_13 rfl rfl
  · refine xs_aload_n (n := 15) dX11_floor_14 rfl rfl ?_
    refine ys_callvv (n := 18) (N := mt_X11_learnPlaces) dX11_floor_15 rfl ok_X11_learnPlaces tw_487 im_X11_learnPlaces se_X11_learnPlaces ⟨Nat.le_of_ble_eq_true rfl, Nat.le_of_ble_eq_true rfl⟩ [] [] rfl rfl (Nat.le_of_ble_eq_true rfl) rfl (Nat.le_of_ble_eq_true rfl) (en_X11_learnPlaces m q1.2) sh_0 (by decide) rfl (fun q3 => ?_)
    refine xs_aload_n (n := 19) dX11_floor_18 rfl rfl ?_
    refine ys_getr (n := 22) dX11_floor_19 rfl fl_X11_10 sh_0 rfl ?_
    refine xs_aload_n (n := 23) dX11_floor_22 rfl rfl ?_
    refine ys_getr (n := 26) dX11_floor_23 rfl fl_X11_58 sh_0 rfl ?_
    refine ys_callvi (n := 29) (N := mt_X7_isRankedBy) dX11_floor_26 rfl ok_X7_isRankedBy tw_564 im_X7_isRankedBy se_X7_isRankedBy ⟨Nat.le_of_ble_eq_true rfl, Nat.le_of_ble_eq_true rfl⟩ [.ref 145] [] rfl rfl (Nat.le_of_ble_eq_true rfl) rfl (Nat.le_of_ble_eq_true rfl) (en_X7_isRankedBy m 145 sh_145 q3.2) sh_1 (by decide) rfl (fun q4 => ?_)
    refine xs_join 49 (fun q5 => [none, none, none, none]) (fun q5 => [.long q5.1]) (fun q5 => q5.2) (fun q5 => ?_) (fun kj6 => ?_)
    · exact xs_lret dX11_floor_49 rfl rfl
    · refine xs_if_eq (n := 32) (tgt := 46) dX11_floor_29 rfl rfl (fun hc7 => ?_) (fun hc7 => ?_)
      · refine xs_ldc2 (n := 49) (v := (-9000000000000000 : Int64)) dX11_floor_46 rfl tw_598 ?_
        exact xs_gf (xs_end (kj6 ((-9000000000000000 : Int64), q4.2))) trivial
      · refine xs_aload_n (n := 33) dX11_floor_32 rfl rfl ?_
        refine ys_getr (n := 36) dX11_floor_33 rfl fl_X11_10 sh_0 rfl ?_
        refine xs_aload_n (n := 37) dX11_floor_36 rfl rfl ?_
        refine ys_getr (n := 40) dX11_floor_37 rfl fl_X11_58 sh_0 rfl ?_
        refine ys_callvl (n := 43) (N := mt_X7_floorOf) dX11_floor_40 rfl ok_X7_floorOf tw_599 im_X7_floorOf se_X7_floorOf ⟨Nat.le_of_ble_eq_true rfl, Nat.le_of_ble_eq_true rfl⟩ [.ref 145] [] rfl rfl (Nat.le_of_ble_eq_true rfl) rfl (Nat.le_of_ble_eq_true rfl) (en_X7_floorOf m 145 sh_145 q4.2) sh_1 (by decide) rfl (fun q8 => ?_)
        refine xs_goto (n := 49) dX11_floor_43 rfl ?_
        exact xs_gf (xs_end (kj6 (q8.1, q8.2))) trivial
def fn_X11_isSize (m : Nat) (x0 : Int32) (u0 : xm_Y) : Option (Int32 × xm_Y) :=
  ((if x0 < (1 : Int32) then (
  some ((0 : Int32))) else (
  if (5 : Int32) < x0 then (
  some ((0 : Int32))) else (
  some ((1 : Int32)))) : Option (Int32)).bind fun q1 =>
  xm_chk (q1 = 0 ∨ q1 = 1) (some (q1, u0)))
theorem en_X11_isSize (m : Nat) (x0 : Int32) (u0 : xm_Y) : xs_ (fun x : Int32 => some (.int x)) sg_0 mt_X11_isSize 0 [some (.int x0)] [] u0 0 0 (fn_X11_isSize m x0 u0) := by
  refine xs_top ?_
  rw [fn_X11_isSize]
  refine xs_iload_n (n := 1) dX11_isSize_0 rfl rfl ?_
  refine xs_iconst (n := 2) (v := (1 : Int32)) dX11_isSize_1 rfl rfl ?_
  refine xs_join 15 (fun q1 => [none]) (fun q1 => [.int q1]) (fun q1 => u0) (fun q1 => ?_) (fun kj2 => ?_)
  · exact xs_zret dX11_isSize_15 rfl rfl
  · refine xs_icmp_lt (n := 5) (tgt := 14) dX11_isSize_2 rfl rfl (fun hc3 => ?_) (fun hc3 => ?_)
    · refine xs_iconst (n := 15) (v := (0 : Int32)) dX11_isSize_14 rfl rfl ?_
      exact xs_gf (xs_end (kj2 ((0 : Int32)))) trivial
    · refine xs_iload_n (n := 6) dX11_isSize_5 rfl rfl ?_
      refine xs_iconst (n := 7) (v := (5 : Int32)) dX11_isSize_6 rfl rfl ?_
      refine xs_icmp_gt (n := 10) (tgt := 14) dX11_isSize_7 rfl rfl (fun hc4 => ?_) (fun hc4 => ?_)
      · refine xs_iconst (n := 15) (v := (0 : Int32)) dX11_isSize_14 rfl rfl ?_
        exact xs_gf (xs_end (kj2 ((0 : Int32)))) trivial
      · refine xs_iconst (n := 11) (v := (1 : Int32)) dX11_isSize_10 rfl rfl ?_
        refine xs_goto (n := 15) dX11_isSize_11 rfl ?_
        exact xs_gf (xs_end (kj2 ((1 : Int32)))) trivial
def fn_X5_keep (m : Nat) (x0 : Int32) (u0 : xm_Y) : Option (Unit × xm_Y) :=
  xm_chk (0 ≤ (0 : Int32) ∧ 0 ≤ ((3 : Int32) * x0) ∧ 0 ≤ (3 : Int32) ∧ (Int32.toNatClampNeg (0 : Int32)) + (Int32.toNatClampNeg (3 : Int32)) ≤ 3 ∧ (Int32.toNatClampNeg ((3 : Int32) * x0)) + (Int32.toNatClampNeg (3 : Int32)) ≤ 15) (xm_let (cp_I u0 141 142 (Int32.toNatClampNeg (0 : Int32)) (Int32.toNatClampNeg ((3 : Int32) * x0)) (Int32.toNatClampNeg (3 : Int32))) fun u1 =>
  some ((), u1))
theorem en_X5_keep (m : Nat) (x0 : Int32) (u0 : xm_Y) : xs_ (fun _ : Unit => none) sg_0 mt_X5_keep 0 [some (.ref 139), some (.int x0)] [] u0 0 0 (fn_X5_keep m x0 u0) := by
  refine xs_top ?_
  rw [fn_X5_keep]
  refine xs_aload_n (n := 1) dX5_keep_0 rfl rfl ?_
  refine ys_getr (n := 4) dX5_keep_1 rfl fl_X5_12 sh_139 rfl ?_
  refine ys_getr (n := 7) dX5_keep_4 rfl fl_X5_55 sh_140 rfl ?_
  refine xs_iconst (n := 8) (v := (0 : Int32)) dX5_keep_7 rfl rfl ?_
  refine xs_aload_n (n := 9) dX5_keep_8 rfl rfl ?_
  refine ys_getr (n := 12) dX5_keep_9 rfl fl_X5_18 sh_139 rfl ?_
  refine xs_iconst (n := 13) (v := (3 : Int32)) dX5_keep_12 rfl rfl ?_
  refine xs_iload_n (n := 14) dX5_keep_13 rfl rfl ?_
  refine xs_imul (n := 15) dX5_keep_14 rfl ?_
  refine xs_iconst (n := 16) (v := (3 : Int32)) dX5_keep_15 rfl rfl ?_
  refine ys_copyi (n := 19) dX5_keep_16 rfl tw_642 sh_141 sh_142 (Nat.le_of_ble_eq_true rfl) (Nat.le_of_ble_eq_true rfl) (fun u1 => ?_)
  exact xs_vret dX5_keep_19 rfl rfl
def lp_X5_seekRank_19 (m : Nat) : Nat → Int32 → xm_Y → Option ((Int32 × xm_Y) ⊕ (Int32 × xm_Y))
  | 0, _, _ => none
  | n + 1, l3, u0 =>
  if (4000 : Int32) ≤ l3 then (
  some (.inr (l3, u0))) else (
  ((fn_X10_next m u0).bind fun q4 =>
  if q4.1 = 0 then (
  some (.inr (l3, q4.2))) else (
  ((fn_X7_isRankedBy m 141 q4.2).bind fun q6 =>
  if q6.1 = 0 then (
  xm_let (α := Int32) (l3 + (1 : Int32)) fun v8 =>
  lp_X5_seekRank_19 m n v8 q6.2) else (
  xm_chk (0 ≤ (0 : Int32) ∧ 0 ≤ (0 : Int32) ∧ 0 ≤ (3 : Int32) ∧ (Int32.toNatClampNeg (0 : Int32)) + (Int32.toNatClampNeg (3 : Int32)) ≤ 3 ∧ (Int32.toNatClampNeg (0 : Int32)) + (Int32.toNatClampNeg (3 : Int32)) ≤ 3) (xm_let (cp_I q6.2 141 144 (Int32.toNatClampNeg (0 : Int32)) (Int32.toNatClampNeg (0 : Int32)) (Int32.toNatClampNeg (3 : Int32))) fun u9 =>
  ((fn_X7_floorOf m 144 u9).bind fun q10 =>
  xm_let (w_J q10.2 139 5 q10.1) fun u11 =>
  xm_let (w_I u11 139 6 (1 : Int32)) fun u12 =>
  ((fn_X5_keep m (0 : Int32) u12).bind fun q13 =>
  xm_let (w_I q13.2 139 2 (1 : Int32)) fun u14 =>
  some (.inl ((1 : Int32), u14))))))))))
def fn_X5_seekRank (m : Nat) (x0 : Int32) (u0 : xm_Y) : Option (Int32 × xm_Y) :=
  xm_let (w_I u0 139 6 (0 : Int32)) fun u1 =>
  ((fn_X10_start m x0 (u1.1 1 1) u1).bind fun q2 =>
  ((lp_X5_seekRank_19 m m (0 : Int32) q2.2).bind (Sum.elim (fun r => some r) (fun q15 =>
  some ((0 : Int32), q15.2)))))
theorem el_X5_seekRank_19 (m : Nat) (K : (Int32 × xm_Y) ⊕ (Int32 × xm_Y) → Option (Int32 × xm_Y)) (hK : ∀ r, K (.inl r) = some r) (kE : ∀ q : Int32 × xm_Y, xs_ (fun x : Int32 => some (.int x)) sg_0 mt_X5_seekRank 102 [none, none, none, none] [] q.2 0 0 (K (.inr q))) : ∀ (n : Nat) (l3 : Int32) (u0 : xm_Y), xs_ (fun x : Int32 => some (.int x)) sg_0 mt_X5_seekRank 19 [some (.ref 139), some (.ref 1), none, some (.int l3)] [] u0 0 0 ((lp_X5_seekRank_19 m n l3 u0).bind K) := by
  intro n
  induction n with
  | zero =>
    intro l3 u0
    exact xs_none
  | succ n ih =>
    intro l3 u0
    rw [lp_X5_seekRank_19]
    refine xs_iload_n (n := 20) dX5_seekRank_19 rfl rfl ?_
    refine xs_sipush (n := 23) (v := (4000 : Int32)) dX5_seekRank_20 rfl rfl ?_
    refine xs_icmp_ge (n := 26) (tgt := 102) dX5_seekRank_23 rfl rfl (fun hc3 => ?_) (fun hc3 => ?_)
    · exact xs_gf (xs_end (kE (l3, u0))) trivial
    · refine xs_aload_n (n := 27) dX5_seekRank_26 rfl rfl ?_
      refine ys_getr (n := 30) dX5_seekRank_27 rfl fl_X5_12 sh_139 rfl ?_
      refine ys_callvi (n := 33) (N := mt_X10_next) dX5_seekRank_30 rfl ok_X10_next tw_630 im_X10_next se_X10_next ⟨Nat.le_of_ble_eq_true rfl, Nat.le_of_ble_eq_true rfl⟩ [] [] rfl rfl (Nat.le_of_ble_eq_true rfl) rfl (Nat.le_of_ble_eq_true rfl) (en_X10_next m u0) sh_140 (by decide) rfl (fun q4 => ?_)
      refine xs_if_eq (n := 36) (tgt := 102) dX5_seekRank_33 rfl rfl (fun hc5 => ?_) (fun hc5 => ?_)
      · exact xs_gf (xs_end (kE (l3, q4.2))) trivial
      · refine xs_aload_n (n := 37) dX5_seekRank_36 rfl rfl ?_
        refine xs_aload_n (n := 38) dX5_seekRank_37 rfl rfl ?_
        refine ys_getr (n := 41) dX5_seekRank_38 rfl fl_X5_12 sh_139 rfl ?_
        refine ys_getr (n := 44) dX5_seekRank_41 rfl fl_X5_55 sh_140 rfl ?_
        refine ys_callvi (n := 47) (N := mt_X7_isRankedBy) dX5_seekRank_44 rfl ok_X7_isRankedBy tw_641 im_X7_isRankedBy se_X7_isRankedBy ⟨Nat.le_of_ble_eq_true rfl, Nat.le_of_ble_eq_true rfl⟩ [.ref 141] [] rfl rfl (Nat.le_of_ble_eq_true rfl) rfl (Nat.le_of_ble_eq_true rfl) (en_X7_isRankedBy m 141 sh_141 q4.2) sh_1 (by decide) rfl (fun q6 => ?_)
        refine xs_if_eq (n := 50) (tgt := 96) dX5_seekRank_47 rfl rfl (fun hc7 => ?_) (fun hc7 => ?_)
        · refine xs_iincl (n := 99) (dv := (1 : Int32)) (fun v8 => [some (.ref 139), some (.ref 1), none, some (.int v8)]) dX5_seekRank_96 rfl rfl rfl (Nat.le_of_ble_eq_true rfl) (fun _ => rfl) (fun v8 => ?_)
          refine xs_goto (n := 19) dX5_seekRank_99 rfl ?_
          exact xs_gf (ih v8 q6.2) (And.intro rfl (And.intro rfl (And.intro rfl trivial)))
        · refine xs_aload_n (n := 51) dX5_seekRank_50 rfl rfl ?_
          refine ys_getr (n := 54) dX5_seekRank_51 rfl fl_X5_12 sh_139 rfl ?_
          refine ys_getr (n := 57) dX5_seekRank_54 rfl fl_X5_55 sh_140 rfl ?_
          refine xs_iconst (n := 58) (v := (0 : Int32)) dX5_seekRank_57 rfl rfl ?_
          refine xs_aload_n (n := 59) dX5_seekRank_58 rfl rfl ?_
          refine ys_getr (n := 62) dX5_seekRank_59 rfl fl_X5_25 sh_139 rfl ?_
          refine xs_iconst (n := 63) (v := (0 : Int32)) dX5_seekRank_62 rfl rfl ?_
          refine xs_iconst (n := 64) (v := (3 : Int32)) dX5_seekRank_63 rfl rfl ?_
          refine ys_copyi (n := 67) dX5_seekRank_64 rfl tw_642 sh_141 sh_144 (Nat.le_of_ble_eq_true rfl) (Nat.le_of_ble_eq_true rfl) (fun u9 => ?_)
          refine xs_aload_n (n := 68) dX5_seekRank_67 rfl rfl ?_
          refine xs_aload_n (n := 69) dX5_seekRank_68 rfl rfl ?_
          refine xs_aload_n (n := 70) dX5_seekRank_69 rfl rfl ?_
          refine ys_getr (n := 73) dX5_seekRank_70 rfl fl_X5_25 sh_139 rfl ?_
          refine ys_callvl (n := 76) (N := mt_X7_floorOf) dX5_seekRank_73 rfl ok_X7_floorOf tw_643 im_X7_floorOf se_X7_floorOf ⟨Nat.le_of_ble_eq_true rfl, Nat.le_of_ble_eq_true rfl⟩ [.ref 144] [.ref 139] rfl rfl (Nat.le_of_ble_eq_true rfl) rfl (Nat.le_of_ble_eq_true rfl) (en_X7_floorOf m 144 sh_144 u9) sh_1 (by decide) rfl (fun q10 => ?_)
          refine ys_putl (n := 79) dX5_seekRank_76 rfl fl_X5_72 rfl sh_139 (fun u11 => ?_)
          refine xs_aload_n (n := 80) dX5_seekRank_79 rfl rfl ?_
          refine xs_iconst (n := 81) (v := (1 : Int32)) dX5_seekRank_80 rfl rfl ?_
          refine ys_putzc (n := 84) dX5_seekRank_81 rfl fl_X5_38 rfl sh_139 (Or.inr rfl) (fun u12 => ?_)
          refine xs_aload_n (n := 85) dX5_seekRank_84 rfl rfl ?_
          refine xs_iconst (n := 86) (v := (0 : Int32)) dX5_seekRank_85 rfl rfl ?_
          refine ys_callvv (n := 89) (N := mt_X5_keep) dX5_seekRank_86 rfl ok_X5_keep tw_644 im_X5_keep se_X5_keep ⟨Nat.le_of_ble_eq_true rfl, Nat.le_of_ble_eq_true rfl⟩ [.int (0 : Int32)] [] rfl rfl (Nat.le_of_ble_eq_true rfl) rfl (Nat.le_of_ble_eq_true rfl) (en_X5_keep m (0 : Int32) u12) sh_139 (by decide) rfl (fun q13 => ?_)
          refine xs_aload_n (n := 90) dX5_seekRank_89 rfl rfl ?_
          refine xs_iconst (n := 91) (v := (1 : Int32)) dX5_seekRank_90 rfl rfl ?_
          refine ys_puti (n := 94) dX5_seekRank_91 rfl fl_X5_34 rfl sh_139 (fun u14 => ?_)
          refine xs_iconst (n := 95) (v := (1 : Int32)) dX5_seekRank_94 rfl rfl ?_
          exact xs_zretc dX5_seekRank_95 rfl (Or.inr rfl) (hK _)
theorem en_X5_seekRank (m : Nat) (x0 : Int32) (u0 : xm_Y) : xs_ (fun x : Int32 => some (.int x)) sg_0 mt_X5_seekRank 0 [some (.ref 139), some (.ref 1), some (.int x0), none] [] u0 0 0 (fn_X5_seekRank m x0 u0) := by
  refine xs_top ?_
  rw [fn_X5_seekRank]
  refine xs_aload_n (n := 1) dX5_seekRank_0 rfl rfl ?_
  refine xs_iconst (n := 2) (v := (0 : Int32)) dX5_seekRank_1 rfl rfl ?_
  refine ys_putzc (n := 5) dX5_seekRank_2 rfl fl_X5_38 rfl sh_139 (Or.inl rfl) (fun u1 => ?_)
  refine xs_aload_n (n := 6) dX5_seekRank_5 rfl rfl ?_
  refine ys_getr (n := 9) dX5_seekRank_6 rfl fl_X5_12 sh_139 rfl ?_
  refine xs_iload_n (n := 10) dX5_seekRank_9 rfl rfl ?_
  refine xs_aload_n (n := 11) dX5_seekRank_10 rfl rfl ?_
  refine ys_geti (n := 14) dX5_seekRank_11 rfl fl_X5_42 (Or.inl rfl) sh_1 ?_
  refine ys_callvv (n := 17) (N := mt_X10_start) dX5_seekRank_14 rfl ok_X10_start tw_626 im_X10_start se_X10_start ⟨Nat.le_of_ble_eq_true rfl, Nat.le_of_ble_eq_true rfl⟩ [.int x0, .int (u1.1 1 1)] [] rfl rfl (Nat.le_of_ble_eq_true rfl) rfl (Nat.le_of_ble_eq_true rfl) (en_X10_start m x0 (u1.1 1 1) u1) sh_140 (by decide) rfl (fun q2 => ?_)
  refine xs_iconst (n := 18) (v := (0 : Int32)) dX5_seekRank_17 rfl rfl ?_
  refine xs_istore_n (n := 19) (lv' := [some (.ref 139), some (.ref 1), some (.int x0), some (.int (0 : Int32))]) dX5_seekRank_18 rfl (Nat.le_of_ble_eq_true rfl) rfl ?_
  refine xs_reg ?_
  refine xs_fg (lv' := [some (.ref 139), some (.ref 1), none, some (.int (0 : Int32))]) (And.intro rfl (And.intro rfl (And.intro rfl trivial))) ?_
  refine el_X5_seekRank_19 m _ (fun _ => rfl) (fun q15 => ?_) m (0 : Int32) q2.2
  refine xs_inr ?_
  refine xs_iconst (n := 103) (v := (0 : Int32)) dX5_seekRank_102 rfl rfl ?_
  exact xs_zretc dX5_seekRank_103 rfl (Or.inl rfl) rfl
def fn_X11_rank (m : Nat) (x0 : Int32) (u0 : xm_Y) : Option (Int32 × xm_Y) :=
  ((fn_X11_isSize m x0 u0).bind fun q1 =>
  if q1.1 = 0 then (
  some ((-1 : Int32), q1.2)) else (
  ((fn_X11_learnPlaces m q1.2).bind fun q3 =>
  ((fn_X5_seekRank m x0 q3.2).bind fun q4 =>
  ((if q4.1 = 0 then (
  some ((0 : Int32))) else (
  some ((1 : Int32))) : Option (Int32)).bind fun q5 =>
  some (q5, q4.2))))))
theorem en_X11_rank (m : Nat) (x0 : Int32) (u0 : xm_Y) : xs_ (fun x : Int32 => some (.int x)) sg_0 mt_X11_rank 0 [some (.ref 0), some (.int x0)] [] u0 0 0 (fn_X11_rank m x0 u0) := by
  refine xs_top ?_
  rw [fn_X11_rank]
  refine xs_iload_n (n := 1) dX11_rank_0 rfl rfl ?_
  refine ys_callsi (n := 4) (N := mt_X11_isSize) dX11_rank_1 rfl ok_X11_isSize tw_619 st_X11_isSize ⟨Nat.le_of_ble_eq_true rfl, Nat.le_of_ble_eq_true rfl⟩ [.int x0] [] rfl rfl (Nat.le_of_ble_eq_true rfl) rfl (Nat.le_of_ble_eq_true rfl) (en_X11_isSize m x0 u0) (fun q1 => ?_)
  refine xs_if_ne (n := 7) (tgt := 9) dX11_rank_4 rfl rfl (fun hc2 => ?_) (fun hc2 => ?_)
  · refine xs_iconst (n := 8) (v := (-1 : Int32)) dX11_rank_7 rfl rfl ?_
    exact xs_iret dX11_rank_8 rfl rfl
  · refine xs_aload_n (n := 10) dX11_rank_9 rfl rfl ?_
    refine ys_callvv (n := 13) (N := mt_X11_learnPlaces) dX11_rank_10 rfl ok_X11_learnPlaces tw_487 im_X11_learnPlaces se_X11_learnPlaces ⟨Nat.le_of_ble_eq_true rfl, Nat.le_of_ble_eq_true rfl⟩ [] [] rfl rfl (Nat.le_of_ble_eq_true rfl) rfl (Nat.le_of_ble_eq_true rfl) (en_X11_learnPlaces m q1.2) sh_0 (by decide) rfl (fun q3 => ?_)
    refine xs_aload_n (n := 14) dX11_rank_13 rfl rfl ?_
    refine ys_getr (n := 17) dX11_rank_14 rfl fl_X11_54 sh_0 rfl ?_
    refine xs_aload_n (n := 18) dX11_rank_17 rfl rfl ?_
    refine ys_getr (n := 21) dX11_rank_18 rfl fl_X11_10 sh_0 rfl ?_
    refine xs_iload_n (n := 22) dX11_rank_21 rfl rfl ?_
    refine ys_callvi (n := 25) (N := mt_X5_seekRank) dX11_rank_22 rfl ok_X5_seekRank tw_622 im_X5_seekRank se_X5_seekRank ⟨Nat.le_of_ble_eq_true rfl, Nat.le_of_ble_eq_true rfl⟩ [.ref 1, .int x0] [] rfl rfl (Nat.le_of_ble_eq_true rfl) rfl (Nat.le_of_ble_eq_true rfl) (en_X5_seekRank m x0 q3.2) sh_139 (by decide) rfl (fun q4 => ?_)
    refine xs_join 33 (fun q5 => [none, none]) (fun q5 => [.int q5]) (fun q5 => q4.2) (fun q5 => ?_) (fun kj6 => ?_)
    · exact xs_iret dX11_rank_33 rfl rfl
    · refine xs_if_eq (n := 28) (tgt := 32) dX11_rank_25 rfl rfl (fun hc7 => ?_) (fun hc7 => ?_)
      · refine xs_iconst (n := 33) (v := (0 : Int32)) dX11_rank_32 rfl rfl ?_
        exact xs_gf (xs_end (kj6 ((0 : Int32)))) trivial
      · refine xs_iconst (n := 29) (v := (1 : Int32)) dX11_rank_28 rfl rfl ?_
        refine xs_goto (n := 33) dX11_rank_29 rfl ?_
        exact xs_gf (xs_end (kj6 ((1 : Int32)))) trivial
def lp_X5_isRow_5 (m : Nat) : Nat → Int32 → Int32 → xm_Y → Option ((Int32 × xm_Y) ⊕ (Int32 × Int32 × xm_Y))
  | 0, _, _, _ => none
  | n + 1, l3, l4, u0 =>
  if (u0.1 1 2) ≤ l4 then (
  some (.inr (l3, l4, u0))) else (
  xm_chk (xm_in l4 5) (
  if (u0.1 143 (Int32.toNatClampNeg l4)) = (-1 : Int32) then (
  xm_chk (xm_in l4 5) (
  ((fn_X1_changesAtMost m (Int32.toNatClampNeg l4) 141 (0 : Int32) u0).bind fun q4 =>
  if q4.1 = 0 then (
  some (.inl ((0 : Int32), q4.2))) else (
  ((if l3 = 0 then (
  ((fn_X1_ranksBy m (Int32.toNatClampNeg l4) 141 q4.2).bind fun q9 =>
  if q9.1 = 0 then (
  some ((0 : Int32), q9.2)) else (
  some ((1 : Int32), q9.2)))) else (
  some ((1 : Int32), q4.2)) : Option (Int32 × xm_Y)).bind fun q6 =>
  xm_let (α := Int32) (l4 + (1 : Int32)) fun v11 =>
  lp_X5_isRow_5 m n q6.1 v11 q6.2))))) else (
  xm_let (α := Int32) (l4 + (1 : Int32)) fun v12 =>
  lp_X5_isRow_5 m n l3 v12 u0)))
def fn_X5_isRow (m : Nat) (u0 : xm_Y) : Option (Int32 × xm_Y) :=
  ((lp_X5_isRow_5 m m (0 : Int32) (0 : Int32) u0).bind (Sum.elim (fun r => some r) (fun q13 =>
  xm_chk (q13.1 = 0 ∨ q13.1 = 1) (some (q13.1, q13.2.2)))))
theorem el_X5_isRow_5 (m : Nat) (K : (Int32 × xm_Y) ⊕ (Int32 × Int32 × xm_Y) → Option (Int32 × xm_Y)) (hK : ∀ r, K (.inl r) = some r) (kE : ∀ q : Int32 × Int32 × xm_Y, xs_ (fun x : Int32 => some (.int x)) sg_0 mt_X5_isRow 71 [none, none, none, some (.int q.1), none, none] [] q.2.2 0 0 (K (.inr q))) : ∀ (n : Nat) (l3 : Int32) (l4 : Int32) (u0 : xm_Y), xs_ (fun x : Int32 => some (.int x)) sg_0 mt_X5_isRow 5 [some (.ref 139), some (.ref 1), some (.ref 141), some (.int l3), some (.int l4), none] [] u0 0 0 ((lp_X5_isRow_5 m n l3 l4 u0).bind K) := by
  intro n
  induction n with
  | zero =>
    intro l3 l4 u0
    exact xs_none
  | succ n ih =>
    intro l3 l4 u0
    rw [lp_X5_isRow_5]
    refine xs_iload (n := 7) dX5_isRow_5 rfl rfl ?_
    refine xs_aload_n (n := 8) dX5_isRow_7 rfl rfl ?_
    refine ys_geti (n := 11) dX5_isRow_8 rfl fl_X5_80 (Or.inl rfl) sh_1 ?_
    refine xs_icmp_ge (n := 14) (tgt := 71) dX5_isRow_11 rfl rfl (fun hc1 => ?_) (fun hc1 => ?_)
    · exact xs_gf (xs_end (kE (l3, l4, u0))) (And.intro rfl trivial)
    · refine xs_aload_n (n := 15) dX5_isRow_14 rfl rfl ?_
      refine ys_getr (n := 18) dX5_isRow_15 rfl fl_X5_22 sh_139 rfl ?_
      refine xs_iload (n := 20) dX5_isRow_18 rfl rfl ?_
      refine ys_iaload (n := 21) dX5_isRow_20 rfl sh_143 ?_
      refine xs_iconst (n := 22) (v := (-1 : Int32)) dX5_isRow_21 rfl rfl ?_
      refine xs_icmp_ne (n := 25) (tgt := 65) dX5_isRow_22 rfl rfl (fun hc2 => ?_) (fun hc2 => ?_)
      · refine xs_aload_n (n := 26) dX5_isRow_25 rfl rfl ?_
        refine ys_getr (n := 29) dX5_isRow_26 rfl fl_X5_93 sh_1 rfl ?_
        refine xs_iload (n := 31) dX5_isRow_29 rfl rfl ?_
        refine ys_aaload17 (n := 32) dX5_isRow_31 rfl sh_2 (fun hi3 => pb_r (xin_n hi3)) (fun hi3 => ?_)
        refine xs_astore (n := 34) (lv' := [some (.ref 139), some (.ref 1), some (.ref 141), some (.int l3), some (.int l4), some (.ref (3 + 24 * (Int32.toNatClampNeg l4)))]) dX5_isRow_32 rfl (Nat.le_of_ble_eq_true rfl) rfl ?_
        refine xs_aload (n := 36) dX5_isRow_34 rfl rfl ?_
        refine xs_aload_n (n := 37) dX5_isRow_36 rfl rfl ?_
        refine xs_iconst (n := 38) (v := (0 : Int32)) dX5_isRow_37 rfl rfl ?_
        refine ys_callvi (n := 41) (N := mt_X1_changesAtMost) dX5_isRow_38 rfl ok_X1_changesAtMost tw_664 im_X1_changesAtMost se_X1_changesAtMost ⟨Nat.le_of_ble_eq_true rfl, Nat.le_of_ble_eq_true rfl⟩ [.ref 141, .int (0 : Int32)] [] rfl rfl (Nat.le_of_ble_eq_true rfl) rfl (Nat.le_of_ble_eq_true rfl) (en_X1_changesAtMost m (Int32.toNatClampNeg l4) 141 (0 : Int32) (xin_n hi3) sh_141 u0) (bd_s (xin_n hi3)) (by decide) rfl (fun q4 => ?_)
        refine xs_if_ne (n := 44) (tgt := 46) dX5_isRow_41 rfl rfl (fun hc5 => ?_) (fun hc5 => ?_)
        · refine xs_iconst (n := 45) (v := (0 : Int32)) dX5_isRow_44 rfl rfl ?_
          exact xs_zretc dX5_isRow_45 rfl (Or.inl rfl) (hK _)
        · refine xs_iload_n (n := 47) dX5_isRow_46 rfl rfl ?_
          refine xs_join 64 (fun q6 => [some (.ref 139), some (.ref 1), some (.ref 141), none, some (.int l4), none]) (fun q6 => [.int q6.1]) (fun q6 => q6.2) (fun q6 => ?_) (fun kj7 => ?_)
          · refine xs_istore_n (n := 65) (lv' := [some (.ref 139), some (.ref 1), some (.ref 141), some (.int q6.1), some (.int l4), none]) dX5_isRow_64 rfl (Nat.le_of_ble_eq_true rfl) rfl ?_
            refine xs_iincl (n := 68) (dv := (1 : Int32)) (fun v11 => [some (.ref 139), some (.ref 1), some (.ref 141), some (.int q6.1), some (.int v11), none]) dX5_isRow_65 rfl rfl rfl (Nat.le_of_ble_eq_true rfl) (fun _ => rfl) (fun v11 => ?_)
            refine xs_goto (n := 5) dX5_isRow_68 rfl ?_
            exact xs_gf (ih q6.1 v11 q6.2) (And.intro rfl (And.intro rfl (And.intro rfl (And.intro rfl (And.intro rfl trivial)))))
          · refine xs_if_ne (n := 50) (tgt := 59) dX5_isRow_47 rfl rfl (fun hc8 => ?_) (fun hc8 => ?_)
            · refine xs_aload (n := 52) dX5_isRow_50 rfl rfl ?_
              refine xs_aload_n (n := 53) dX5_isRow_52 rfl rfl ?_
              refine ys_callvi (n := 56) (N := mt_X1_ranksBy) dX5_isRow_53 rfl ok_X1_ranksBy tw_665 im_X1_ranksBy se_X1_ranksBy ⟨Nat.le_of_ble_eq_true rfl, Nat.le_of_ble_eq_true rfl⟩ [.ref 141] [] rfl rfl (Nat.le_of_ble_eq_true rfl) rfl (Nat.le_of_ble_eq_true rfl) (en_X1_ranksBy m (Int32.toNatClampNeg l4) 141 (xin_n hi3) sh_141 q4.2) (bd_s (xin_n hi3)) (by decide) rfl (fun q9 => ?_)
              refine xs_if_eq (n := 59) (tgt := 63) dX5_isRow_56 rfl rfl (fun hc10 => ?_) (fun hc10 => ?_)
              · refine xs_iconst (n := 64) (v := (0 : Int32)) dX5_isRow_63 rfl rfl ?_
                exact xs_gf (xs_end (kj7 ((0 : Int32), q9.2))) (And.intro rfl (And.intro rfl (And.intro rfl (And.intro rfl trivial))))
              · refine xs_iconst (n := 60) (v := (1 : Int32)) dX5_isRow_59 rfl rfl ?_
                refine xs_goto (n := 64) dX5_isRow_60 rfl ?_
                exact xs_gf (xs_end (kj7 ((1 : Int32), q9.2))) (And.intro rfl (And.intro rfl (And.intro rfl (And.intro rfl trivial))))
            · refine xs_iconst (n := 60) (v := (1 : Int32)) dX5_isRow_59 rfl rfl ?_
              refine xs_goto (n := 64) dX5_isRow_60 rfl ?_
              exact xs_gf (xs_end (kj7 ((1 : Int32), q4.2))) (And.intro rfl (And.intro rfl (And.intro rfl (And.intro rfl trivial))))
      · refine xs_iincl (n := 68) (dv := (1 : Int32)) (fun v12 => [some (.ref 139), some (.ref 1), some (.ref 141), some (.int l3), some (.int v12), none]) dX5_isRow_65 rfl rfl rfl (Nat.le_of_ble_eq_true rfl) (fun _ => rfl) (fun v12 => ?_)
        refine xs_goto (n := 5) dX5_isRow_68 rfl ?_
        exact xs_gf (ih l3 v12 u0) (And.intro rfl (And.intro rfl (And.intro rfl (And.intro rfl (And.intro rfl trivial)))))
theorem en_X5_isRow (m : Nat) (u0 : xm_Y) : xs_ (fun x : Int32 => some (.int x)) sg_0 mt_X5_isRow 0 [some (.ref 139), some (.ref 1), some (.ref 141), none, none, none] [] u0 0 0 (fn_X5_isRow m u0) := by
  refine xs_top ?_
  rw [fn_X5_isRow]
  refine xs_iconst (n := 1) (v := (0 : Int32)) dX5_isRow_0 rfl rfl ?_
  refine xs_istore_n (n := 2) (lv' := [some (.ref 139), some (.ref 1), some (.ref 141), some (.int (0 : Int32)), none, none]) dX5_isRow_1 rfl (Nat.le_of_ble_eq_true rfl) rfl ?_
  refine xs_iconst (n := 3) (v := (0 : Int32)) dX5_isRow_2 rfl rfl ?_
  refine xs_istore (n := 5) (lv' := [some (.ref 139), some (.ref 1), some (.ref 141), some (.int (0 : Int32)), some (.int (0 : Int32)), none]) dX5_isRow_3 rfl (Nat.le_of_ble_eq_true rfl) rfl ?_
  refine xs_reg ?_
  refine xs_fg (lv' := [some (.ref 139), some (.ref 1), some (.ref 141), some (.int (0 : Int32)), some (.int (0 : Int32)), none]) (And.intro rfl (And.intro rfl (And.intro rfl (And.intro rfl (And.intro rfl trivial))))) ?_
  refine el_X5_isRow_5 m _ (fun _ => rfl) (fun q13 => ?_) m (0 : Int32) (0 : Int32) u0
  refine xs_inr ?_
  refine xs_iload_n (n := 72) dX5_isRow_71 rfl rfl ?_
  exact xs_zret dX5_isRow_72 rfl rfl
