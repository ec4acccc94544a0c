def lp_X6_isNowherePositive_3 (m : Nat) (b0 : Nat) (c2 : Int64) (u0 : xm_Y) : Nat → Int32 → Option ((Int32 × xm_Y) ⊕ (Int32))
  | 0, _ => none
  | n + 1, l4 =>
  if ((4 : Int32) * (u0.1 (6 + 24 * b0) 1)) ≤ l4 then (
  some (.inr (l4))) else (
  xm_chk (xm_in (0 : Int32) 3) (
  xm_chk (xm_in l4 512) (
  xm_chk (xm_in (1 : Int32) 3) (
  xm_chk (xm_in (l4 + (1 : Int32)) 512) (
  xm_chk (xm_in (2 : Int32) 3) (
  xm_chk (xm_in (l4 + (2 : Int32)) 512) (
  xm_chk (xm_in (l4 + (3 : Int32)) 512) (
  if (((((u0.2 (8 + 24 * b0) (Int32.toNatClampNeg (0 : Int32))) * (u0.2 (7 + 24 * b0) (Int32.toNatClampNeg l4))) + ((u0.2 (8 + 24 * b0) (Int32.toNatClampNeg (1 : Int32))) * (u0.2 (7 + 24 * b0) (Int32.toNatClampNeg (l4 + (1 : Int32)))))) + ((u0.2 (8 + 24 * b0) (Int32.toNatClampNeg (2 : Int32))) * (u0.2 (7 + 24 * b0) (Int32.toNatClampNeg (l4 + (2 : Int32)))))) + (c2 * (u0.2 (7 + 24 * b0) (Int32.toNatClampNeg (l4 + (3 : Int32)))))) ≤ (0 : Int64) then (
  xm_let (α := Int32) (l4 + (4 : Int32)) fun v3 =>
  lp_X6_isNowherePositive_3 m b0 c2 u0 n v3) else (
  some (.inl ((0 : Int32), u0)))))))))))
def fn_X6_isNowherePositive (m : Nat) (bb : Nat) (x0 : Int64) (u0 : xm_Y) : Option (Int32 × xm_Y) :=
  ((lp_X6_isNowherePositive_3 m bb x0 u0 m (0 : Int32)).bind (Sum.elim (fun r => some r) (fun q4 =>
  some ((1 : Int32), u0))))
theorem el_X6_isNowherePositive_3 (m : Nat) (b0 : Nat) (c2 : Int64) (hb0 : b0 < 5) (u0 : xm_Y) (K : (Int32 × xm_Y) ⊕ (Int32) → Option (Int32 × xm_Y)) (hK : ∀ r, K (.inl r) = some r) (kE : ∀ q : Int32, xs_ (fun x : Int32 => some (.int x)) sg_0 mt_X6_isNowherePositive 78 [none, none, none, none, none] [] u0 0 0 (K (.inr q))) : ∀ (n : Nat) (l4 : Int32), xs_ (fun x : Int32 => some (.int x)) sg_0 mt_X6_isNowherePositive 3 [some (.ref (6 + 24 * b0)), some (.ref (8 + 24 * b0)), some (.long c2), none, some (.int l4)] [] u0 0 0 ((lp_X6_isNowherePositive_3 m b0 c2 u0 n l4).bind K) := by
  intro n
  induction n with
  | zero =>
    intro l4
    exact xs_none
  | succ n ih =>
    intro l4
    rw [lp_X6_isNowherePositive_3]
    refine xs_iload (n := 5) dX6_isNowherePositive_3 rfl rfl ?_
    refine xs_iconst (n := 6) (v := (4 : Int32)) dX6_isNowherePositive_5 rfl rfl ?_
    refine xs_aload_n (n := 7) dX6_isNowherePositive_6 rfl rfl ?_
    refine ys_geti (n := 10) dX6_isNowherePositive_7 rfl fl_X6_13 (Or.inl rfl) (bp_s hb0) ?_
    refine xs_imul (n := 11) dX6_isNowherePositive_10 rfl ?_
    refine xs_icmp_ge (n := 14) (tgt := 78) dX6_isNowherePositive_11 rfl rfl (fun hc1 => ?_) (fun hc1 => ?_)
    · exact xs_gf (xs_end (kE (l4))) trivial
    · refine xs_aload_n (n := 15) dX6_isNowherePositive_14 rfl rfl ?_
      refine xs_iconst (n := 16) (v := (0 : Int32)) dX6_isNowherePositive_15 rfl rfl ?_
      refine ys_laload (n := 17) dX6_isNowherePositive_16 rfl (bc_s hb0) ?_
      refine xs_aload_n (n := 18) dX6_isNowherePositive_17 rfl rfl ?_
      refine ys_getr (n := 21) dX6_isNowherePositive_18 rfl fl_X6_9 (bp_s hb0) (bp_r0 hb0) ?_
      refine xs_iload (n := 23) dX6_isNowherePositive_21 rfl rfl ?_
      refine ys_laload (n := 24) dX6_isNowherePositive_23 rfl (bq_s hb0) ?_
      refine xs_lmul (n := 25) dX6_isNowherePositive_24 rfl ?_
      refine xs_aload_n (n := 26) dX6_isNowherePositive_25 rfl rfl ?_
      refine xs_iconst (n := 27) (v := (1 : Int32)) dX6_isNowherePositive_26 rfl rfl ?_
      refine ys_laload (n := 28) dX6_isNowherePositive_27 rfl (bc_s hb0) ?_
      refine xs_aload_n (n := 29) dX6_isNowherePositive_28 rfl rfl ?_
      refine ys_getr (n := 32) dX6_isNowherePositive_29 rfl fl_X6_9 (bp_s hb0) (bp_r0 hb0) ?_
      refine xs_iload (n := 34) dX6_isNowherePositive_32 rfl rfl ?_
      refine xs_iconst (n := 35) (v := (1 : Int32)) dX6_isNowherePositive_34 rfl rfl ?_
      refine xs_iadd (n := 36) dX6_isNowherePositive_35 rfl ?_
      refine ys_laload (n := 37) dX6_isNowherePositive_36 rfl (bq_s hb0) ?_
      refine xs_lmul (n := 38) dX6_isNowherePositive_37 rfl ?_
      refine xs_ladd (n := 39) dX6_isNowherePositive_38 rfl ?_
      refine xs_aload_n (n := 40) dX6_isNowherePositive_39 rfl rfl ?_
      refine xs_iconst (n := 41) (v := (2 : Int32)) dX6_isNowherePositive_40 rfl rfl ?_
      refine ys_laload (n := 42) dX6_isNowherePositive_41 rfl (bc_s hb0) ?_
      refine xs_aload_n (n := 43) dX6_isNowherePositive_42 rfl rfl ?_
      refine ys_getr (n := 46) dX6_isNowherePositive_43 rfl fl_X6_9 (bp_s hb0) (bp_r0 hb0) ?_
      refine xs_iload (n := 48) dX6_isNowherePositive_46 rfl rfl ?_
      refine xs_iconst (n := 49) (v := (2 : Int32)) dX6_isNowherePositive_48 rfl rfl ?_
      refine xs_iadd (n := 50) dX6_isNowherePositive_49 rfl ?_
      refine ys_laload (n := 51) dX6_isNowherePositive_50 rfl (bq_s hb0) ?_
      refine xs_lmul (n := 52) dX6_isNowherePositive_51 rfl ?_
      refine xs_ladd (n := 53) dX6_isNowherePositive_52 rfl ?_
      refine xs_lload_n (n := 54) dX6_isNowherePositive_53 rfl rfl ?_
      refine xs_aload_n (n := 55) dX6_isNowherePositive_54 rfl rfl ?_
      refine ys_getr (n := 58) dX6_isNowherePositive_55 rfl fl_X6_9 (bp_s hb0) (bp_r0 hb0) ?_
      refine xs_iload (n := 60) dX6_isNowherePositive_58 rfl rfl ?_
      refine xs_iconst (n := 61) (v := (3 : Int32)) dX6_isNowherePositive_60 rfl rfl ?_
      refine xs_iadd (n := 62) dX6_isNowherePositive_61 rfl ?_
      refine ys_laload (n := 63) dX6_isNowherePositive_62 rfl (bq_s hb0) ?_
      refine xs_lmul (n := 64) dX6_isNowherePositive_63 rfl ?_
      refine xs_ladd (n := 65) dX6_isNowherePositive_64 rfl ?_
      refine xs_lconst (n := 66) (v := (0 : Int64)) dX6_isNowherePositive_65 rfl rfl ?_
      refine xs_lif_le (n := 70) (pc1 := 67) (tgt := 72) dX6_isNowherePositive_66 rfl dX6_isNowherePositive_67 rfl rfl (fun hc2 => ?_) (fun hc2 => ?_)
      · refine xs_iincl (n := 75) (dv := (4 : Int32)) (fun v3 => [some (.ref (6 + 24 * b0)), some (.ref (8 + 24 * b0)), some (.long c2), none, some (.int v3)]) dX6_isNowherePositive_72 rfl rfl rfl (Nat.le_of_ble_eq_true rfl) (fun _ => rfl) (fun v3 => ?_)
        refine xs_goto (n := 3) dX6_isNowherePositive_75 rfl ?_
        exact xs_gf (ih v3) (And.intro rfl (And.intro rfl (And.intro rfl (And.intro rfl trivial))))
      · refine xs_iconst (n := 71) (v := (0 : Int32)) dX6_isNowherePositive_70 rfl rfl ?_
        exact xs_zretc dX6_isNowherePositive_71 rfl (Or.inl rfl) (hK _)
theorem en_X6_isNowherePositive (m : Nat) (bb : Nat) (x0 : Int64) (hb : bb < 5) (u0 : xm_Y) : xs_ (fun x : Int32 => some (.int x)) sg_0 mt_X6_isNowherePositive 0 [some (.ref (6 + 24 * bb)), some (.ref (8 + 24 * bb)), some (.long x0), none, none] [] u0 0 0 (fn_X6_isNowherePositive m bb x0 u0) := by
  refine xs_top ?_
  rw [fn_X6_isNowherePositive]
  refine xs_iconst (n := 1) (v := (0 : Int32)) dX6_isNowherePositive_0 rfl rfl ?_
  refine xs_istore (n := 3) (lv' := [some (.ref (6 + 24 * bb)), some (.ref (8 + 24 * bb)), some (.long x0), none, some (.int (0 : Int32))]) dX6_isNowherePositive_1 rfl (Nat.le_of_ble_eq_true rfl) rfl ?_
  refine xs_reg ?_
  refine xs_fg (lv' := [some (.ref (6 + 24 * bb)), some (.ref (8 + 24 * bb)), some (.long x0), none, some (.int (0 : Int32))]) (And.intro rfl (And.intro rfl (And.intro rfl (And.intro rfl trivial)))) ?_
  refine el_X6_isNowherePositive_3 m bb x0 hb u0 _ (fun _ => rfl) (fun q4 => ?_) m (0 : Int32)
  refine xs_inr ?_
  refine xs_iconst (n := 79) (v := (1 : Int32)) dX6_isNowherePositive_78 rfl rfl ?_
  exact xs_zretc dX6_isNowherePositive_79 rfl (Or.inr rfl) rfl
def lp_X1_changesAtMost_7 (m : Nat) (b0 : Nat) (a1 : Nat) : Nat → Int32 → xm_Y → Option (Int32 × xm_Y)
  | 0, _, _ => none
  | n + 1, l5, u0 =>
  if (3 : Int32) ≤ l5 then (
  some (l5, u0)) else (
  xm_chk (xm_in l5 3) (
  xm_chk (xm_in l5 3) (xm_let (w_J u0 (8 + 24 * b0) (Int32.toNatClampNeg l5) (Int32.toInt64 (-(u0.1 a1 (Int32.toNatClampNeg l5))))) fun u3 =>
  xm_let (α := Int32) (l5 + (1 : Int32)) fun v4 =>
  lp_X1_changesAtMost_7 m b0 a1 n v4 u3)))
def lp_X1_changesAtMost_56 (m : Nat) (b0 : Nat) (a1 : Nat) (c5 : Int32) (a6 : Nat) : Nat → Int32 → xm_Y → Option (Int32 × xm_Y)
  | 0, _, _ => none
  | n + 1, l7, u0 =>
  if (3 : Int32) ≤ l7 then (
  some (l7, u0)) else (
  xm_chk (xm_in l7 3) (
  xm_chk (xm_in c5 3) (
  xm_chk (xm_in l7 3) (
  xm_chk (xm_in l7 3) (xm_let (w_J u0 (8 + 24 * b0) (Int32.toNatClampNeg l7) ((u0.2 (8 + 24 * b0) (Int32.toNatClampNeg l7)) + (Int32.toInt64 ((u0.1 a1 (Int32.toNatClampNeg c5)) * (u0.1 a6 (Int32.toNatClampNeg l7)))))) fun u9 =>
  xm_let (α := Int32) (l7 + (1 : Int32)) fun v10 =>
  lp_X1_changesAtMost_56 m b0 a1 c5 a6 n v10 u9)))))
def lp_X1_changesAtMost_35 (m : Nat) (b0 : Nat) (a1 : Nat) : Nat → Int64 → Int32 → xm_Y → Option (Int64 × Int32 × xm_Y)
  | 0, _, _, _ => none
  | n + 1, l3, l5, u0 =>
  if (3 : Int32) ≤ l5 then (
  some (l3, l5, u0)) else (
  xm_chk (xm_in l5 3) (
  ((lp_X1_changesAtMost_56 m b0 a1 l5 ((21 + 24 * b0 + 2 * (Int32.toNatClampNeg l5)) + 1) m (0 : Int32) u0).bind fun q11 =>
  xm_chk (xm_in l5 3) (
  xm_chk (xm_in l5 3) (
  xm_let (α := Int64) ((l3 + (Int32.toInt64 ((q11.2.1 a1 (Int32.toNatClampNeg l5)) * (q11.2.1 (21 + 24 * b0 + 2 * (Int32.toNatClampNeg l5)) 1))))) fun v13 =>
  xm_let (α := Int32) (l5 + (1 : Int32)) fun v14 =>
  lp_X1_changesAtMost_35 m b0 a1 n v13 v14 q11.2)))))
def fn_X1_changesAtMost (m : Nat) (bb : Nat) (s : Nat) (x0 : Int32) (u0 : xm_Y) : Option (Int32 × xm_Y) :=
  xm_let (α := Int64) ((Int32.toInt64 (-x0))) fun v1 =>
  ((lp_X1_changesAtMost_7 m bb s m (0 : Int32) u0).bind fun q5 =>
  ((lp_X1_changesAtMost_35 m bb s m v1 (0 : Int32) q5.2).bind fun q15 =>
  ((fn_X6_isNowherePositive m bb q15.1 q15.2.2).bind fun q16 =>
  xm_chk (q16.1 = 0 ∨ q16.1 = 1) (some (q16.1, q16.2)))))
theorem el_X1_changesAtMost_7 (m : Nat) (b0 : Nat) (a1 : Nat) (c3 : Int64) (hb0 : b0 < 5) (ha1 : xsh_ a1 13 3) (K : Int32 × xm_Y → Option (Int32 × xm_Y)) (kE : ∀ q : Int32 × xm_Y, xs_ (fun x : Int32 => some (.int x)) sg_0 mt_X1_changesAtMost 32 [some (.ref (3 + 24 * b0)), some (.ref a1), none, some (.long c3), none, none, none, none] [] q.2 0 0 (K q)) : ∀ (n : Nat) (l5 : Int32) (u0 : xm_Y), xs_ (fun x : Int32 => some (.int x)) sg_0 mt_X1_changesAtMost 7 [some (.ref (3 + 24 * b0)), some (.ref a1), none, some (.long c3), none, some (.int l5), none, none] [] u0 0 0 ((lp_X1_changesAtMost_7 m b0 a1 n l5 u0).bind K) := by
  intro n
  induction n with
  | zero =>
    intro l5 u0
    exact xs_none
  | succ n ih =>
    intro l5 u0
    rw [lp_X1_changesAtMost_7]
    refine xs_iload (n := 9) dX1_changesAtMost_7 rfl rfl ?_
    refine xs_iconst (n := 10) (v := (3 : Int32)) dX1_changesAtMost_9 rfl rfl ?_
    refine xs_icmp_ge (n := 13) (tgt := 32) dX1_changesAtMost_10 rfl rfl (fun hc2 => ?_) (fun hc2 => ?_)
    · exact xs_gf (xs_end (kE (l5, u0))) (And.intro rfl (And.intro rfl (And.intro rfl trivial)))
    · refine xs_aload_n (n := 14) dX1_changesAtMost_13 rfl rfl ?_
      refine ys_getr (n := 17) dX1_changesAtMost_14 rfl fl_X1_27 (bd_s hb0) (bd_r3 hb0) ?_
      refine xs_iload (n := 19) dX1_changesAtMost_17 rfl rfl ?_
      refine xs_aload_n (n := 20) dX1_changesAtMost_19 rfl rfl ?_
      refine xs_iload (n := 22) dX1_changesAtMost_20 rfl rfl ?_
      refine ys_iaload (n := 23) dX1_changesAtMost_22 rfl ha1 ?_
      refine xs_ineg (n := 24) dX1_changesAtMost_23 rfl ?_
      refine xs_i2l (n := 25) dX1_changesAtMost_24 rfl ?_
      refine ys_lastore (n := 26) dX1_changesAtMost_25 rfl (bc_s hb0) (fun u3 => ?_)
      refine xs_iincl (n := 29) (dv := (1 : Int32)) (fun v4 => [some (.ref (3 + 24 * b0)), some (.ref a1), none, some (.long c3), none, some (.int v4), none, none]) dX1_changesAtMost_26 rfl rfl rfl (Nat.le_of_ble_eq_true rfl) (fun _ => rfl) (fun v4 => ?_)
      refine xs_goto (n := 7) dX1_changesAtMost_29 rfl ?_
      exact xs_gf (ih v4 u3) (And.intro rfl (And.intro rfl (And.intro rfl (And.intro rfl trivial))))
theorem el_X1_changesAtMost_56 (m : Nat) (b0 : Nat) (a1 : Nat) (c5 : Int32) (a6 : Nat) (c3 : Int64) (hb0 : b0 < 5) (ha1 : xsh_ a1 13 3) (ha6 : xsh_ a6 13 3) (K : Int32 × xm_Y → Option (Int32 × xm_Y)) (kE : ∀ q : Int32 × xm_Y, xs_ (fun x : Int32 => some (.int x)) sg_0 mt_X1_changesAtMost 89 [some (.ref (3 + 24 * b0)), some (.ref a1), none, some (.long c3), none, some (.int c5), none, none] [] q.2 0 0 (K q)) : ∀ (n : Nat) (l7 : Int32) (u0 : xm_Y), xs_ (fun x : Int32 => some (.int x)) sg_0 mt_X1_changesAtMost 56 [some (.ref (3 + 24 * b0)), some (.ref a1), none, some (.long c3), none, some (.int c5), some (.ref a6), some (.int l7)] [] u0 0 0 ((lp_X1_changesAtMost_56 m b0 a1 c5 a6 n l7 u0).bind K) := by
  intro n
  induction n with
  | zero =>
    intro l7 u0
    exact xs_none
  | succ n ih =>
    intro l7 u0
    rw [lp_X1_changesAtMost_56]
    refine xs_iload (n := 58) dX1_changesAtMost_56 rfl rfl ?_
    refine xs_iconst (n := 59) (v := (3 : Int32)) dX1_changesAtMost_58 rfl rfl ?_
    refine xs_icmp_ge (n := 62) (tgt := 89) dX1_changesAtMost_59 rfl rfl (fun hc8 => ?_) (fun hc8 => ?_)
    · exact xs_gf (xs_end (kE (l7, u0))) (And.intro rfl (And.intro rfl (And.intro rfl (And.intro rfl trivial))))
    · refine xs_aload_n (n := 63) dX1_changesAtMost_62 rfl rfl ?_
      refine ys_getr (n := 66) dX1_changesAtMost_63 rfl fl_X1_27 (bd_s hb0) (bd_r3 hb0) ?_
      refine xs_iload (n := 68) dX1_changesAtMost_66 rfl rfl ?_
      refine xs_dup2_11 (n := 69) dX1_changesAtMost_68 rfl rfl rfl ?_
      refine ys_laload (n := 70) dX1_changesAtMost_69 rfl (bc_s hb0) ?_
      refine xs_aload_n (n := 71) dX1_changesAtMost_70 rfl rfl ?_
      refine xs_iload (n := 73) dX1_changesAtMost_71 rfl rfl ?_
      refine ys_iaload (n := 74) dX1_changesAtMost_73 rfl ha1 ?_
      refine xs_aload (n := 76) dX1_changesAtMost_74 rfl rfl ?_
      refine xs_iload (n := 78) dX1_changesAtMost_76 rfl rfl ?_
      refine ys_iaload (n := 79) dX1_changesAtMost_78 rfl ha6 ?_
      refine xs_imul (n := 80) dX1_changesAtMost_79 rfl ?_
      refine xs_i2l (n := 81) dX1_changesAtMost_80 rfl ?_
      refine xs_ladd (n := 82) dX1_changesAtMost_81 rfl ?_
      refine ys_lastore (n := 83) dX1_changesAtMost_82 rfl (bc_s hb0) (fun u9 => ?_)
      refine xs_iincl (n := 86) (dv := (1 : Int32)) (fun v10 => [some (.ref (3 + 24 * b0)), some (.ref a1), none, some (.long c3), none, some (.int c5), some (.ref a6), some (.int v10)]) dX1_changesAtMost_83 rfl rfl rfl (Nat.le_of_ble_eq_true rfl) (fun _ => rfl) (fun v10 => ?_)
      refine xs_goto (n := 56) dX1_changesAtMost_86 rfl ?_
      exact xs_gf (ih v10 u9) (And.intro rfl (And.intro rfl (And.intro rfl (And.intro rfl (And.intro rfl (And.intro rfl trivial))))))
theorem el_X1_changesAtMost_35 (m : Nat) (b0 : Nat) (a1 : Nat) (hb0 : b0 < 5) (ha1 : xsh_ a1 13 3) (K : Int64 × Int32 × xm_Y → Option (Int32 × xm_Y)) (kE : ∀ q : Int64 × Int32 × xm_Y, xs_ (fun x : Int32 => some (.int x)) sg_0 mt_X1_changesAtMost 114 [some (.ref (3 + 24 * b0)), none, none, some (.long q.1), none, none, none, none] [] q.2.2 0 0 (K q)) : ∀ (n : Nat) (l3 : Int64) (l5 : Int32) (u0 : xm_Y), xs_ (fun x : Int32 => some (.int x)) sg_0 mt_X1_changesAtMost 35 [some (.ref (3 + 24 * b0)), some (.ref a1), none, some (.long l3), none, some (.int l5), none, none] [] u0 0 0 ((lp_X1_changesAtMost_35 m b0 a1 n l3 l5 u0).bind K) := by
  intro n
  induction n with
  | zero =>
    intro l3 l5 u0
    exact xs_none
  | succ n ih =>
    intro l3 l5 u0
    rw [lp_X1_changesAtMost_35]
    refine xs_iload (n := 37) dX1_changesAtMost_35 rfl rfl ?_
    refine xs_iconst (n := 38) (v := (3 : Int32)) dX1_changesAtMost_37 rfl rfl ?_
    refine xs_icmp_ge (n := 41) (tgt := 114) dX1_changesAtMost_38 rfl rfl (fun hc6 => ?_) (fun hc6 => ?_)
    · exact xs_gf (xs_end (kE (l3, l5, u0))) (And.intro rfl (And.intro rfl trivial))
    · refine xs_aload_n (n := 42) dX1_changesAtMost_41 rfl rfl ?_
      refine ys_getr (n := 45) dX1_changesAtMost_42 rfl fl_X1_17 (bd_s hb0) (bd_r1 hb0) ?_
      refine xs_iload (n := 47) dX1_changesAtMost_45 rfl rfl ?_
      refine ys_aaload16 (n := 48) dX1_changesAtMost_47 rfl (br_s hb0) (fun hi7 => br_r hb0 (xin_n hi7)) (fun hi7 => ?_)
      refine ys_getr (n := 51) dX1_changesAtMost_48 rfl fl_X1_60 (br_a hb0 (xin_n hi7)).1 (br_a hb0 (xin_n hi7)).2.1 ?_
      refine xs_astore (n := 53) (lv' := [some (.ref (3 + 24 * b0)), some (.ref a1), none, some (.long l3), none, some (.int l5), some (.ref ((21 + 24 * b0 + 2 * (Int32.toNatClampNeg l5)) + 1)), none]) dX1_changesAtMost_51 rfl (Nat.le_of_ble_eq_true rfl) rfl ?_
      refine xs_iconst (n := 54) (v := (0 : Int32)) dX1_changesAtMost_53 rfl rfl ?_
      refine xs_istore (n := 56) (lv' := [some (.ref (3 + 24 * b0)), some (.ref a1), none, some (.long l3), none, some (.int l5), some (.ref ((21 + 24 * b0 + 2 * (Int32.toNatClampNeg l5)) + 1)), some (.int (0 : Int32))]) dX1_changesAtMost_54 rfl (Nat.le_of_ble_eq_true rfl) rfl ?_
      refine xs_reg ?_
      refine xs_fg (lv' := [some (.ref (3 + 24 * b0)), some (.ref a1), none, some (.long l3), none, some (.int l5), some (.ref ((21 + 24 * b0 + 2 * (Int32.toNatClampNeg l5)) + 1)), some (.int (0 : Int32))]) (And.intro rfl (And.intro rfl (And.intro rfl (And.intro rfl (And.intro rfl (And.intro rfl trivial)))))) ?_
      refine el_X1_changesAtMost_56 m b0 a1 l5 ((21 + 24 * b0 + 2 * (Int32.toNatClampNeg l5)) + 1) l3 hb0 ha1 (br_a hb0 (xin_n hi7)).2.2 _ (fun q11 => ?_) m (0 : Int32) u0
      refine xs_lload_n (n := 90) dX1_changesAtMost_89 rfl rfl ?_
      refine xs_aload_n (n := 91) dX1_changesAtMost_90 rfl rfl ?_
      refine xs_iload (n := 93) dX1_changesAtMost_91 rfl rfl ?_
      refine ys_iaload (n := 94) dX1_changesAtMost_93 rfl ha1 ?_
      refine xs_aload_n (n := 95) dX1_changesAtMost_94 rfl rfl ?_
      refine ys_getr (n := 98) dX1_changesAtMost_95 rfl fl_X1_17 (bd_s hb0) (bd_r1 hb0) ?_
      refine xs_iload (n := 100) dX1_changesAtMost_98 rfl rfl ?_
      refine ys_aaload16 (n := 101) dX1_changesAtMost_100 rfl (br_s hb0) (fun hi12 => br_r hb0 (xin_n hi12)) (fun hi12 => ?_)
      refine ys_geti (n := 104) dX1_changesAtMost_101 rfl fl_X1_64 (Or.inl rfl) (br_a hb0 (xin_n hi12)).1 ?_
      refine xs_imul (n := 105) dX1_changesAtMost_104 rfl ?_
      refine xs_i2l (n := 106) dX1_changesAtMost_105 rfl ?_
      refine xs_ladd (n := 107) dX1_changesAtMost_106 rfl ?_
      refine xs_letl (fun v13 => ?_)
      refine xs_lstore_n (n := 108) (lv' := [some (.ref (3 + 24 * b0)), some (.ref a1), none, some (.long v13), none, some (.int l5), none, none]) dX1_changesAtMost_107 rfl (Nat.le_of_ble_eq_true rfl) rfl ?_
      refine xs_iincl (n := 111) (dv := (1 : Int32)) (fun v14 => [some (.ref (3 + 24 * b0)), some (.ref a1), none, some (.long v13), none, some (.int v14), none, none]) dX1_changesAtMost_108 rfl rfl rfl (Nat.le_of_ble_eq_true rfl) (fun _ => rfl) (fun v14 => ?_)
      refine xs_goto (n := 35) dX1_changesAtMost_111 rfl ?_
      exact xs_gf (ih v13 v14 q11.2) (And.intro rfl (And.intro rfl (And.intro rfl (And.intro rfl trivial))))
theorem en_X1_changesAtMost (m : Nat) (bb : Nat) (s : Nat) (x0 : Int32) (hb : bb < 5) (hs_ : xsh_ s 13 3) (u0 : xm_Y) : xs_ (fun x : Int32 => some (.int x)) sg_0 mt_X1_changesAtMost 0 [some (.ref (3 + 24 * bb)), some (.ref s), some (.int x0), none, none, none, none, none] [] u0 0 0 (fn_X1_changesAtMost m bb s x0 u0) := by
  refine xs_top ?_
  rw [fn_X1_changesAtMost]
  refine xs_iload_n (n := 1) dX1_changesAtMost_0 rfl rfl ?_
  refine xs_ineg (n := 2) dX1_changesAtMost_1 rfl ?_
  refine xs_i2l (n := 3) dX1_changesAtMost_2 rfl ?_
  refine xs_letl (fun v1 => ?_)
  refine xs_lstore_n (n := 4) (lv' := [some (.ref (3 + 24 * bb)), some (.ref s), some (.int x0), some (.long v1), none, none, none, none]) dX1_changesAtMost_3 rfl (Nat.le_of_ble_eq_true rfl) rfl ?_
  refine xs_iconst (n := 5) (v := (0 : Int32)) dX1_changesAtMost_4 rfl rfl ?_
  refine xs_istore (n := 7) (lv' := [some (.ref (3 + 24 * bb)), some (.ref s), some (.int x0), some (.long v1), none, some (.int (0 : Int32)), none, none]) dX1_changesAtMost_5 rfl (Nat.le_of_ble_eq_true rfl) rfl ?_
  refine xs_reg ?_
  refine xs_fg (lv' := [some (.ref (3 + 24 * bb)), some (.ref s), none, some (.long v1), none, some (.int (0 : Int32)), none, none]) (And.intro rfl (And.intro rfl (And.intro rfl (And.intro rfl trivial)))) ?_
  refine el_X1_changesAtMost_7 m bb s v1 hb hs_ _ (fun q5 => ?_) m (0 : Int32) u0
  refine xs_iconst (n := 33) (v := (0 : Int32)) dX1_changesAtMost_32 rfl rfl ?_
  refine xs_istore (n := 35) (lv' := [some (.ref (3 + 24 * bb)), some (.ref s), none, some (.long v1), none, some (.int (0 : Int32)), none, none]) dX1_changesAtMost_33 rfl (Nat.le_of_ble_eq_true rfl) rfl ?_
  refine xs_reg ?_
  refine xs_fg (lv' := [some (.ref (3 + 24 * bb)), some (.ref s), none, some (.long v1), none, some (.int (0 : Int32)), none, none]) (And.intro rfl (And.intro rfl (And.intro rfl (And.intro rfl trivial)))) ?_
  refine el_X1_changesAtMost_35 m bb s hb hs_ _ (fun q15 => ?_) m v1 (0 : Int32) q5.2
  refine xs_aload_n (n := 115) dX1_changesAtMost_114 rfl rfl ?_
  refine ys_getr (n := 118) dX1_changesAtMost_115 rfl fl_X1_23 (bd_s hb) (bd_r2 hb) ?_
  refine xs_aload_n (n := 119) dX1_changesAtMost_118 rfl rfl ?_
  refine ys_getr (n := 122) dX1_changesAtMost_119 rfl fl_X1_27 (bd_s hb) (bd_r3 hb) ?_
  refine xs_lload_n (n := 123) dX1_changesAtMost_122 rfl rfl ?_
  refine ys_callvi (n := 126) (N := mt_X6_isNowherePositive) dX1_changesAtMost_123 rfl ok_X6_isNowherePositive tw_584 im_X6_isNowherePositive se_X6_isNowherePositive ⟨Nat.le_of_ble_eq_true rfl, Nat.le_of_ble_eq_true rfl⟩ [.ref (8 + 24 * bb), .long q15.1] [] rfl rfl (Nat.le_of_ble_eq_true rfl) rfl (Nat.le_of_ble_eq_true rfl) (en_X6_isNowherePositive m bb q15.1 hb q15.2.2) (bp_s hb) (by decide) rfl (fun q16 => ?_)
  exact xs_zret dX1_changesAtMost_126 rfl rfl
def fn_X6_valueAt (m : Nat) (bb : Nat) (s : Nat) (x0 : Int32) (u0 : xm_Y) : Option (Int64 × xm_Y) :=
  xm_chk (xm_in (0 : Int32) 3) (
  xm_chk (xm_in x0 512) (
  xm_chk (xm_in (1 : Int32) 3) (
  xm_chk (xm_in (x0 + (1 : Int32)) 512) (
  xm_chk (xm_in (2 : Int32) 3) (
  xm_chk (xm_in (x0 + (2 : Int32)) 512) (
  some (((((Int32.toInt64 (u0.1 s (Int32.toNatClampNeg (0 : Int32)))) * (u0.2 (7 + 24 * bb) (Int32.toNatClampNeg x0))) + ((Int32.toInt64 (u0.1 s (Int32.toNatClampNeg (1 : Int32)))) * (u0.2 (7 + 24 * bb) (Int32.toNatClampNeg (x0 + (1 : Int32)))))) + ((Int32.toInt64 (u0.1 s (Int32.toNatClampNeg (2 : Int32)))) * (u0.2 (7 + 24 * bb) (Int32.toNatClampNeg (x0 + (2 : Int32)))))), u0)))))))
theorem en_X6_valueAt (m : Nat) (bb : Nat) (s : Nat) (x0 : Int32) (hb : bb < 5) (hs_ : xsh_ s 13 3) (u0 : xm_Y) : xs_ (fun x : Int64 => some (.long x)) sg_0 mt_X6_valueAt 0 [some (.ref (6 + 24 * bb)), some (.ref s), some (.int x0)] [] u0 0 0 (fn_X6_valueAt m bb s x0 u0) := by
  refine xs_top ?_
  rw [fn_X6_valueAt]
  refine xs_aload_n (n := 1) dX6_valueAt_0 rfl rfl ?_
  refine xs_iconst (n := 2) (v := (0 : Int32)) dX6_valueAt_1 rfl rfl ?_
  refine ys_iaload (n := 3) dX6_valueAt_2 rfl hs_ ?_
  refine xs_i2l (n := 4) dX6_valueAt_3 rfl ?_
  refine xs_aload_n (n := 5) dX6_valueAt_4 rfl rfl ?_
  refine ys_getr (n := 8) dX6_valueAt_5 rfl fl_X6_9 (bp_s hb) (bp_r0 hb) ?_
  refine xs_iload_n (n := 9) dX6_valueAt_8 rfl rfl ?_
  refine ys_laload (n := 10) dX6_valueAt_9 rfl (bq_s hb) ?_
  refine xs_lmul (n := 11) dX6_valueAt_10 rfl ?_
  refine xs_aload_n (n := 12) dX6_valueAt_11 rfl rfl ?_
  refine xs_iconst (n := 13) (v := (1 : Int32)) dX6_valueAt_12 rfl rfl ?_
  refine ys_iaload (n := 14) dX6_valueAt_13 rfl hs_ ?_
  refine xs_i2l (n := 15) dX6_valueAt_14 rfl ?_
  refine xs_aload_n (n := 16) dX6_valueAt_15 rfl rfl ?_
  refine ys_getr (n := 19) dX6_valueAt_16 rfl fl_X6_9 (bp_s hb) (bp_r0 hb) ?_
  refine xs_iload_n (n := 20) dX6_valueAt_19 rfl rfl ?_
  refine xs_iconst (n := 21) (v := (1 : Int32)) dX6_valueAt_20 rfl rfl ?_
  refine xs_iadd (n := 22) dX6_valueAt_21 rfl ?_
  refine ys_laload (n := 23) dX6_valueAt_22 rfl (bq_s hb) ?_
  refine xs_lmul (n := 24) dX6_valueAt_23 rfl ?_
  refine xs_ladd (n := 25) dX6_valueAt_24 rfl ?_
  refine xs_aload_n (n := 26) dX6_valueAt_25 rfl rfl ?_
  refine xs_iconst (n := 27) (v := (2 : Int32)) dX6_valueAt_26 rfl rfl ?_
  refine ys_iaload (n := 28) dX6_valueAt_27 rfl hs_ ?_
  refine xs_i2l (n := 29) dX6_valueAt_28 rfl ?_
  refine xs_aload_n (n := 30) dX6_valueAt_29 rfl rfl ?_
  refine ys_getr (n := 33) dX6_valueAt_30 rfl fl_X6_9 (bp_s hb) (bp_r0 hb) ?_
  refine xs_iload_n (n := 34) dX6_valueAt_33 rfl rfl ?_
  refine xs_iconst (n := 35) (v := (2 : Int32)) dX6_valueAt_34 rfl rfl ?_
  refine xs_iadd (n := 36) dX6_valueAt_35 rfl ?_
  refine ys_laload (n := 37) dX6_valueAt_36 rfl (bq_s hb) ?_
  refine xs_lmul (n := 38) dX6_valueAt_37 rfl ?_
  refine xs_ladd (n := 39) dX6_valueAt_38 rfl ?_
  exact xs_lret dX6_valueAt_39 rfl rfl
def lp_X6_isBoundBelow_7 (m : Nat) (b0 : Nat) (a1 : Nat) : Nat → Int32 → xm_Y → Option ((Int32 × xm_Y) ⊕ (Int32 × xm_Y))
  | 0, _, _ => none
  | n + 1, l2, u0 =>
  if ((4 : Int32) * (u0.1 (6 + 24 * b0) 1)) ≤ l2 then (
  some (.inr (l2, u0))) else (
  ((fn_X6_valueAt m b0 a1 l2 u0).bind fun q3 =>
  if (0 : Int64) ≤ q3.1 then (
  xm_let (α := Int32) (l2 + (4 : Int32)) fun v5 =>
  lp_X6_isBoundBelow_7 m b0 a1 n v5 q3.2) else (
  some (.inl ((0 : Int32), q3.2)))))
def fn_X6_isBoundBelow (m : Nat) (bb : Nat) (s : Nat) (u0 : xm_Y) : Option (Int32 × xm_Y) :=
  xm_let (α := Int32) (((4 : Int32) * (u0.1 (6 + 24 * bb) 2))) fun v1 =>
  ((lp_X6_isBoundBelow_7 m bb s m v1 u0).bind (Sum.elim (fun r => some r) (fun q6 =>
  some ((1 : Int32), q6.2))))
theorem el_X6_isBoundBelow_7 (m : Nat) (b0 : Nat) (a1 : Nat) (hb0 : b0 < 5) (ha1 : xsh_ a1 13 3) (K : (Int32 × xm_Y) ⊕ (Int32 × xm_Y) → Option (Int32 × xm_Y)) (hK : ∀ r, K (.inl r) = some r) (kE : ∀ q : Int32 × xm_Y, xs_ (fun x : Int32 => some (.int x)) sg_0 mt_X6_isBoundBelow 36 [none, none, none] [] q.2 0 0 (K (.inr q))) : ∀ (n : Nat) (l2 : Int32) (u0 : xm_Y), xs_ (fun x : Int32 => some (.int x)) sg_0 mt_X6_isBoundBelow 7 [some (.ref (6 + 24 * b0)), some (.ref a1), some (.int l2)] [] u0 0 0 ((lp_X6_isBoundBelow_7 m b0 a1 n l2 u0).bind K) := by
  intro n
  induction n with
  | zero =>
    intro l2 u0
    exact xs_none
  | succ n ih =>
    intro l2 u0
    rw [lp_X6_isBoundBelow_7]
    refine xs_iload_n (n := 8) dX6_isBoundBelow_7 rfl rfl ?_
    refine xs_iconst (n := 9) (v := (4 : Int32)) dX6_isBoundBelow_8 rfl rfl ?_
    refine xs_aload_n (n := 10) dX6_isBoundBelow_9 rfl rfl ?_
    refine ys_geti (n := 13) dX6_isBoundBelow_10 rfl fl_X6_13 (Or.inl rfl) (bp_s hb0) ?_
    refine xs_imul (n := 14) dX6_isBoundBelow_13 rfl ?_
    refine xs_icmp_ge (n := 17) (tgt := 36) dX6_isBoundBelow_14 rfl rfl (fun hc2 => ?_) (fun hc2 => ?_)
    · exact xs_gf (xs_end (kE (l2, u0))) trivial
    · refine xs_aload_n (n := 18) dX6_isBoundBelow_17 rfl rfl ?_
      refine xs_aload_n (n := 19) dX6_isBoundBelow_18 rfl rfl ?_
      refine xs_iload_n (n := 20) dX6_isBoundBelow_19 rfl rfl ?_
      refine ys_callvl (n := 23) (N := mt_X6_valueAt) dX6_isBoundBelow_20 rfl ok_X6_valueAt tw_576 im_X6_valueAt se_X6_valueAt ⟨Nat.le_of_ble_eq_true rfl, Nat.le_of_ble_eq_true rfl⟩ [.ref a1, .int l2] [] rfl rfl (Nat.le_of_ble_eq_true rfl) rfl (Nat.le_of_ble_eq_true rfl) (en_X6_valueAt m b0 a1 l2 hb0 ha1 u0) (bp_s hb0) (by decide) rfl (fun q3 => ?_)
      refine xs_lconst (n := 24) (v := (0 : Int64)) dX6_isBoundBelow_23 rfl rfl ?_
      refine xs_lif_ge (n := 28) (pc1 := 25) (tgt := 30) dX6_isBoundBelow_24 rfl dX6_isBoundBelow_25 rfl rfl (fun hc4 => ?_) (fun hc4 => ?_)
      · refine xs_iincl (n := 33) (dv := (4 : Int32)) (fun v5 => [some (.ref (6 + 24 * b0)), some (.ref a1), some (.int v5)]) dX6_isBoundBelow_30 rfl rfl rfl (Nat.le_of_ble_eq_true rfl) (fun _ => rfl) (fun v5 => ?_)
        refine xs_goto (n := 7) dX6_isBoundBelow_33 rfl ?_
        exact xs_gf (ih v5 q3.2) (And.intro rfl (And.intro rfl (And.intro rfl trivial)))
      · refine xs_iconst (n := 29) (v := (0 : Int32)) dX6_isBoundBelow_28 rfl rfl ?_
        exact xs_zretc dX6_isBoundBelow_29 rfl (Or.inl rfl) (hK _)
theorem en_X6_isBoundBelow (m : Nat) (bb : Nat) (s : Nat) (hb : bb < 5) (hs_ : xsh_ s 13 3) (u0 : xm_Y) : xs_ (fun x : Int32 => some (.int x)) sg_0 mt_X6_isBoundBelow 0 [some (.ref (6 + 24 * bb)), some (.ref s), none] [] u0 0 0 (fn_X6_isBoundBelow m bb s u0) := by
  refine xs_top ?_
  rw [fn_X6_isBoundBelow]
  refine xs_iconst (n := 1) (v := (4 : Int32)) dX6_isBoundBelow_0 rfl rfl ?_
  refine xs_aload_n (n := 2) dX6_isBoundBelow_1 rfl rfl ?_
  refine ys_geti (n := 5) dX6_isBoundBelow_2 rfl fl_X6_17 (Or.inl rfl) (bp_s hb) ?_
  refine xs_imul (n := 6) dX6_isBoundBelow_5 rfl ?_
  refine xs_leti (fun v1 => ?_)
  refine xs_istore_n (n := 7) (lv' := [some (.ref (6 + 24 * bb)), some (.ref s), some (.int v1)]) dX6_isBoundBelow_6 rfl (Nat.le_of_ble_eq_true rfl) rfl ?_
  refine xs_reg ?_
  refine xs_fg (lv' := [some (.ref (6 + 24 * bb)), some (.ref s), some (.int v1)]) (And.intro rfl (And.intro rfl (And.intro rfl trivial))) ?_
  refine el_X6_isBoundBelow_7 m bb s hb hs_ _ (fun _ => rfl) (fun q6 => ?_) m v1 u0
  refine xs_inr ?_
  refine xs_iconst (n := 37) (v := (1 : Int32)) dX6_isBoundBelow_36 rfl rfl ?_
  exact xs_zretc dX6_isBoundBelow_37 rfl (Or.inr rfl) rfl
def fn_X1_ranksBy (m : Nat) (bb : Nat) (s : Nat) (u0 : xm_Y) : Option (Int32 × xm_Y) :=
  ((fn_X6_isBoundBelow m bb s u0).bind fun q1 =>
  ((if q1.1 = 0 then (
  some ((0 : Int32), q1.2)) else (
  ((fn_X1_changesAtMost m bb s (-1 : Int32) q1.2).bind fun q5 =>
  if q5.1 = 0 then (
  some ((0 : Int32), q5.2)) else (
  some ((1 : Int32), q5.2)))) : Option (Int32 × xm_Y)).bind fun q2 =>
  xm_chk (q2.1 = 0 ∨ q2.1 = 1) (some (q2.1, q2.2))))
theorem en_X1_ranksBy (m : Nat) (bb : Nat) (s : Nat) (hb : bb < 5) (hs_ : xsh_ s 13 3) (u0 : xm_Y) : xs_ (fun x : Int32 => some (.int x)) sg_0 mt_X1_ranksBy 0 [some (.ref (3 + 24 * bb)), some (.ref s)] [] u0 0 0 (fn_X1_ranksBy m bb s u0) := by
  refine xs_top ?_
  rw [fn_X1_ranksBy]
  refine xs_aload_n (n := 1) dX1_ranksBy_0 rfl rfl ?_
  refine ys_getr (n := 4) dX1_ranksBy_1 rfl fl_X1_23 (bd_s hb) (bd_r2 hb) ?_
  refine xs_aload_n (n := 5) dX1_ranksBy_4 rfl rfl ?_
  refine ys_callvi (n := 8) (N := mt_X6_isBoundBelow) dX1_ranksBy_5 rfl ok_X6_isBoundBelow tw_572 im_X6_isBoundBelow se_X6_isBoundBelow ⟨Nat.le_of_ble_eq_true rfl, Nat.le_of_ble_eq_true rfl⟩ [.ref s] [] rfl rfl (Nat.le_of_ble_eq_true rfl) rfl (Nat.le_of_ble_eq_true rfl) (en_X6_isBoundBelow m bb s hb hs_ u0) (bp_s hb) (by decide) rfl (fun q1 => ?_)
  refine xs_join 25 (fun q2 => [none, none]) (fun q2 => [.int q2.1]) (fun q2 => q2.2) (fun q2 => ?_) (fun kj3 => ?_)
  · exact xs_zret dX1_ranksBy_25 rfl rfl
  · refine xs_if_eq (n := 11) (tgt := 24) dX1_ranksBy_8 rfl rfl (fun hc4 => ?_) (fun hc4 => ?_)
    · refine xs_iconst (n := 25) (v := (0 : Int32)) dX1_ranksBy_24 rfl rfl ?_
      exact xs_gf (xs_end (kj3 ((0 : Int32), q1.2))) trivial
    · refine xs_aload_n (n := 12) dX1_ranksBy_11 rfl rfl ?_
      refine xs_aload_n (n := 13) dX1_ranksBy_12 rfl rfl ?_
      refine xs_iconst (n := 14) (v := (-1 : Int32)) dX1_ranksBy_13 rfl rfl ?_
      refine ys_callvi (n := 17) (N := mt_X1_changesAtMost) dX1_ranksBy_14 rfl ok_X1_changesAtMost tw_580 im_X1_changesAtMost se_X1_changesAtMost ⟨Nat.le_of_ble_eq_true rfl, Nat.le_of_ble_eq_true rfl⟩ [.ref s, .int (-1 : Int32)] [] rfl rfl (Nat.le_of_ble_eq_true rfl) rfl (Nat.le_of_ble_eq_true rfl) (en_X1_changesAtMost m bb s (-1 : Int32) hb hs_ q1.2) (bd_s hb) (by decide) rfl (fun q5 => ?_)
      refine xs_if_eq (n := 20) (tgt := 24) dX1_ranksBy_17 rfl rfl (fun hc6 => ?_) (fun hc6 => ?_)
      · refine xs_iconst (n := 25) (v := (0 : Int32)) dX1_ranksBy_24 rfl rfl ?_
        exact xs_gf (xs_end (kj3 ((0 : Int32), q5.2))) trivial
      · refine xs_iconst (n := 21) (v := (1 : Int32)) dX1_ranksBy_20 rfl rfl ?_
        refine xs_goto (n := 25) dX1_ranksBy_21 rfl ?_
        exact xs_gf (xs_end (kj3 ((1 : Int32), q5.2))) trivial
def fn_X10_start (m : Nat) (x0 : Int32) (x1 : Int32) (u0 : xm_Y) : Option (Unit × xm_Y) :=
  xm_let (w_I u0 140 1 x0) fun u1 =>
  ((if x1 ≤ (1 : Int32) then (
  some ((0 : Int32))) else (
  some ((u1.1 140 1))) : Option (Int32)).bind fun q2 =>
  xm_let (w_I u1 140 2 q2) fun u5 =>
  ((if x1 ≤ (2 : Int32) then (
  some ((0 : Int32))) else (
  some ((u5.1 140 1))) : Option (Int32)).bind fun q6 =>
  xm_let (w_I u5 140 3 q6) fun u9 =>
  xm_let (w_I u9 140 4 (1 : Int32)) fun u10 =>
  xm_let (w_I u10 140 5 (((u10.1 140 1) + (u10.1 140 2)) + (u10.1 140 3))) fun u11 =>
  xm_chk (xm_in (0 : Int32) 3) (xm_let (w_I u11 141 (Int32.toNatClampNeg (0 : Int32)) (-(u11.1 140 1))) fun u12 =>
  xm_chk (xm_in (1 : Int32) 3) (xm_let (w_I u12 141 (Int32.toNatClampNeg (1 : Int32)) ((-(u12.1 140 2)) - (1 : Int32))) fun u13 =>
  xm_chk (xm_in (2 : Int32) 3) (xm_let (w_I u13 141 (Int32.toNatClampNeg (2 : Int32)) (0 : Int32)) fun u14 =>
  some ((), u14))))))
theorem en_X10_start (m : Nat) (x0 : Int32) (x1 : Int32) (u0 : xm_Y) : xs_ (fun _ : Unit => none) sg_0 mt_X10_start 0 [some (.ref 140), some (.int x0), some (.int x1)] [] u0 0 0 (fn_X10_start m x0 x1 u0) := by
  refine xs_top ?_
  rw [fn_X10_start]
  refine xs_aload_n (n := 1) dX10_start_0 rfl rfl ?_
  refine xs_iload_n (n := 2) dX10_start_1 rfl rfl ?_
  refine ys_puti (n := 5) dX10_start_2 rfl fl_X10_15 rfl sh_140 (fun u1 => ?_)
  refine xs_aload_n (n := 6) dX10_start_5 rfl rfl ?_
  refine xs_iload_n (n := 7) dX10_start_6 rfl rfl ?_
  refine xs_iconst (n := 8) (v := (1 : Int32)) dX10_start_7 rfl rfl ?_
  refine xs_join 19 (fun q2 => [some (.ref 140), none, some (.int x1)]) (fun q2 => [.int q2, .ref 140]) (fun q2 => u1) (fun q2 => ?_) (fun kj3 => ?_)
  · refine ys_puti (n := 22) dX10_start_19 rfl fl_X10_19 rfl sh_140 (fun u5 => ?_)
    refine xs_aload_n (n := 23) dX10_start_22 rfl rfl ?_
    refine xs_iload_n (n := 24) dX10_start_23 rfl rfl ?_
    refine xs_iconst (n := 25) (v := (2 : Int32)) dX10_start_24 rfl rfl ?_
    refine xs_join 36 (fun q6 => [some (.ref 140), none, none]) (fun q6 => [.int q6, .ref 140]) (fun q6 => u5) (fun q6 => ?_) (fun kj7 => ?_)
    · refine ys_puti (n := 39) dX10_start_36 rfl fl_X10_22 rfl sh_140 (fun u9 => ?_)
      refine xs_aload_n (n := 40) dX10_start_39 rfl rfl ?_
      refine xs_iconst (n := 41) (v := (1 : Int32)) dX10_start_40 rfl rfl ?_
      refine ys_puti (n := 44) dX10_start_41 rfl fl_X10_25 rfl sh_140 (fun u10 => ?_)
      refine xs_aload_n (n := 45) dX10_start_44 rfl rfl ?_
      refine xs_aload_n (n := 46) dX10_start_45 rfl rfl ?_
      refine ys_geti (n := 49) dX10_start_46 rfl fl_X10_15 (Or.inl rfl) sh_140 ?_
      refine xs_aload_n (n := 50) dX10_start_49 rfl rfl ?_
      refine ys_geti (n := 53) dX10_start_50 rfl fl_X10_19 (Or.inl rfl) sh_140 ?_
      refine xs_iadd (n := 54) dX10_start_53 rfl ?_
      refine xs_aload_n (n := 55) dX10_start_54 rfl rfl ?_
      refine ys_geti (n := 58) dX10_start_55 rfl fl_X10_22 (Or.inl rfl) sh_140 ?_
      refine xs_iadd (n := 59) dX10_start_58 rfl ?_
      refine ys_puti (n := 62) dX10_start_59 rfl fl_X10_28 rfl sh_140 (fun u11 => ?_)
      refine xs_aload_n (n := 63) dX10_start_62 rfl rfl ?_
      refine ys_getr (n := 66) dX10_start_63 rfl fl_X10_9 sh_140 rfl ?_
      refine xs_iconst (n := 67) (v := (0 : Int32)) dX10_start_66 rfl rfl ?_
      refine xs_aload_n (n := 68) dX10_start_67 rfl rfl ?_
      refine ys_geti (n := 71) dX10_start_68 rfl fl_X10_15 (Or.inl rfl) sh_140 ?_
      refine xs_ineg (n := 72) dX10_start_71 rfl ?_
      refine ys_iastore (n := 73) dX10_start_72 rfl sh_141 (fun u12 => ?_)
      refine xs_aload_n (n := 74) dX10_start_73 rfl rfl ?_
      refine ys_getr (n := 77) dX10_start_74 rfl fl_X10_9 sh_140 rfl ?_
      refine xs_iconst (n := 78) (v := (1 : Int32)) dX10_start_77 rfl rfl ?_
      refine xs_aload_n (n := 79) dX10_start_78 rfl rfl ?_
      refine ys_geti (n := 82) dX10_start_79 rfl fl_X10_19 (Or.inl rfl) sh_140 ?_
      refine xs_ineg (n := 83) dX10_start_82 rfl ?_
      refine xs_iconst (n := 84) (v := (1 : Int32)) dX10_start_83 rfl rfl ?_
      refine xs_isub (n := 85) dX10_start_84 rfl ?_
      refine ys_iastore (n := 86) dX10_start_85 rfl sh_141 (fun u13 => ?_)
      refine xs_aload_n (n := 87) dX10_start_86 rfl rfl ?_
      refine ys_getr (n := 90) dX10_start_87 rfl fl_X10_9 sh_140 rfl ?_
      refine xs_iconst (n := 91) (v := (2 : Int32)) dX10_start_90 rfl rfl ?_
      refine xs_iconst (n := 92) (v := (0 : Int32)) dX10_start_91 rfl rfl ?_
      refine ys_iastore (n := 93) dX10_start_92 rfl sh_141 (fun u14 => ?_)
      exact xs_vret dX10_start_93 rfl rfl
    · refine xs_icmp_le (n := 28) (tgt := 35) dX10_start_25 rfl rfl (fun hc8 => ?_) (fun hc8 => ?_)
      · refine xs_iconst (n := 36) (v := (0 : Int32)) dX10_start_35 rfl rfl ?_
        exact xs_gf (xs_end (kj7 ((0 : Int32)))) (And.intro rfl trivial)
      · refine xs_aload_n (n := 29) dX10_start_28 rfl rfl ?_
        refine ys_geti (n := 32) dX10_start_29 rfl fl_X10_15 (Or.inl rfl) sh_140 ?_
        refine xs_goto (n := 36) dX10_start_32 rfl ?_
        exact xs_gf (xs_end (kj7 ((u5.1 140 1)))) (And.intro rfl trivial)
  · refine xs_icmp_le (n := 11) (tgt := 18) dX10_start_8 rfl rfl (fun hc4 => ?_) (fun hc4 => ?_)
    · refine xs_iconst (n := 19) (v := (0 : Int32)) dX10_start_18 rfl rfl ?_
      exact xs_gf (xs_end (kj3 ((0 : Int32)))) (And.intro rfl (And.intro rfl trivial))
    · refine xs_aload_n (n := 12) dX10_start_11 rfl rfl ?_
      refine ys_geti (n := 15) dX10_start_12 rfl fl_X10_15 (Or.inl rfl) sh_140 ?_
      refine xs_goto (n := 19) dX10_start_15 rfl ?_
      exact xs_gf (xs_end (kj3 ((u1.1 140 1)))) (And.intro rfl (And.intro rfl trivial))
def fn_X10_nextPair (m : Nat) (u0 : xm_Y) : Option (Int32 × xm_Y) :=
  xm_chk (xm_in (1 : Int32) 3) (
  xm_chk (xm_in (1 : Int32) 3) (xm_let (w_I u0 141 (Int32.toNatClampNeg (1 : Int32)) ((u0.1 141 (Int32.toNatClampNeg (1 : Int32))) + (1 : Int32))) fun u1 =>
  xm_chk (xm_in (1 : Int32) 3) (
  ((if (u1.1 141 (Int32.toNatClampNeg (1 : Int32))) ≤ (u1.1 140 2) then (
  some (u1)) else (
  xm_chk (xm_in (1 : Int32) 3) (xm_let (w_I u1 141 (Int32.toNatClampNeg (1 : Int32)) (-(u1.1 140 2))) fun u5 =>
  xm_chk (xm_in (0 : Int32) 3) (
  xm_chk (xm_in (0 : Int32) 3) (xm_let (w_I u5 141 (Int32.toNatClampNeg (0 : Int32)) ((u5.1 141 (Int32.toNatClampNeg (0 : Int32))) + (1 : Int32))) fun u6 =>
  some (u6))))) : Option (xm_Y)).bind fun q2 =>
  xm_chk (xm_in (0 : Int32) 3) (
  ((if (q2.1 141 (Int32.toNatClampNeg (0 : Int32))) ≤ (q2.1 140 1) then (
  some (q2)) else (
  xm_chk (xm_in (0 : Int32) 3) (xm_let (w_I q2 141 (Int32.toNatClampNeg (0 : Int32)) (-(q2.1 140 1))) fun u10 =>
  xm_let (w_I u10 140 4 ((u10.1 140 4) + (1 : Int32))) fun u11 =>
  some (u11))) : Option (xm_Y)).bind fun q7 =>
  ((if (q7.1 140 5) < (q7.1 140 4) then (
  some ((0 : Int32))) else (
  some ((1 : Int32))) : Option (Int32)).bind fun q12 =>
  xm_chk (q12 = 0 ∨ q12 = 1) (some (q12, q7)))))))))
theorem en_X10_nextPair (m : Nat) (u0 : xm_Y) : xs_ (fun x : Int32 => some (.int x)) sg_0 mt_X10_nextPair 0 [some (.ref 140)] [] u0 0 0 (fn_X10_nextPair m u0) := by
  refine xs_top ?_
  rw [fn_X10_nextPair]
  refine xs_aload_n (n := 1) dX10_nextPair_0 rfl rfl ?_
  refine ys_getr (n := 4) dX10_nextPair_1 rfl fl_X10_9 sh_140 rfl ?_
  refine xs_iconst (n := 5) (v := (1 : Int32)) dX10_nextPair_4 rfl rfl ?_
  refine xs_dup2_11 (n := 6) dX10_nextPair_5 rfl rfl rfl ?_
  refine ys_iaload (n := 7) dX10_nextPair_6 rfl sh_141 ?_
  refine xs_iconst (n := 8) (v := (1 : Int32)) dX10_nextPair_7 rfl rfl ?_
  refine xs_iadd (n := 9) dX10_nextPair_8 rfl ?_
  refine ys_iastore (n := 10) dX10_nextPair_9 rfl sh_141 (fun u1 => ?_)
  refine xs_aload_n (n := 11) dX10_nextPair_10 rfl rfl ?_
  refine ys_getr (n := 14) dX10_nextPair_11 rfl fl_X10_9 sh_140 rfl ?_
  refine xs_iconst (n := 15) (v := (1 : Int32)) dX10_nextPair_14 rfl rfl ?_
  refine ys_iaload (n := 16) dX10_nextPair_15 rfl sh_141 ?_
  refine xs_aload_n (n := 17) dX10_nextPair_16 rfl rfl ?_
  refine ys_geti (n := 20) dX10_nextPair_17 rfl fl_X10_19 (Or.inl rfl) sh_140 ?_
  refine xs_join 44 (fun q2 => [some (.ref 140)]) (fun q2 => []) (fun q2 => q2) (fun q2 => ?_) (fun kj3 => ?_)
  · refine xs_aload_n (n := 45) dX10_nextPair_44 rfl rfl ?_
    refine ys_getr (n := 48) dX10_nextPair_45 rfl fl_X10_9 sh_140 rfl ?_
    refine xs_iconst (n := 49) (v := (0 : Int32)) dX10_nextPair_48 rfl rfl ?_
    refine ys_iaload (n := 50) dX10_nextPair_49 rfl sh_141 ?_
    refine xs_aload_n (n := 51) dX10_nextPair_50 rfl rfl ?_
    refine ys_geti (n := 54) dX10_nextPair_51 rfl fl_X10_15 (Or.inl rfl) sh_140 ?_
    refine xs_join 78 (fun q7 => [some (.ref 140)]) (fun q7 => []) (fun q7 => q7) (fun q7 => ?_) (fun kj8 => ?_)
    · refine xs_aload_n (n := 79) dX10_nextPair_78 rfl rfl ?_
      refine ys_geti (n := 82) dX10_nextPair_79 rfl fl_X10_25 (Or.inl rfl) sh_140 ?_
      refine xs_aload_n (n := 83) dX10_nextPair_82 rfl rfl ?_
      refine ys_geti (n := 86) dX10_nextPair_83 rfl fl_X10_28 (Or.inl rfl) sh_140 ?_
      refine xs_join 94 (fun q12 => [none]) (fun q12 => [.int q12]) (fun q12 => q7) (fun q12 => ?_) (fun kj13 => ?_)
      · exact xs_zret dX10_nextPair_94 rfl rfl
      · refine xs_icmp_gt (n := 89) (tgt := 93) dX10_nextPair_86 rfl rfl (fun hc14 => ?_) (fun hc14 => ?_)
        · refine xs_iconst (n := 94) (v := (0 : Int32)) dX10_nextPair_93 rfl rfl ?_
          exact xs_gf (xs_end (kj13 ((0 : Int32)))) trivial
        · refine xs_iconst (n := 90) (v := (1 : Int32)) dX10_nextPair_89 rfl rfl ?_
          refine xs_goto (n := 94) dX10_nextPair_90 rfl ?_
          exact xs_gf (xs_end (kj13 ((1 : Int32)))) trivial
    · refine xs_icmp_le (n := 57) (tgt := 78) dX10_nextPair_54 rfl rfl (fun hc9 => ?_) (fun hc9 => ?_)
      · exact xs_gf (xs_end (kj8 (q2))) (And.intro rfl trivial)
      · refine xs_aload_n (n := 58) dX10_nextPair_57 rfl rfl ?_
        refine ys_getr (n := 61) dX10_nextPair_58 rfl fl_X10_9 sh_140 rfl ?_
        refine xs_iconst (n := 62) (v := (0 : Int32)) dX10_nextPair_61 rfl rfl ?_
        refine xs_aload_n (n := 63) dX10_nextPair_62 rfl rfl ?_
        refine ys_geti (n := 66) dX10_nextPair_63 rfl fl_X10_15 (Or.inl rfl) sh_140 ?_
        refine xs_ineg (n := 67) dX10_nextPair_66 rfl ?_
        refine ys_iastore (n := 68) dX10_nextPair_67 rfl sh_141 (fun u10 => ?_)
        refine xs_aload_n (n := 69) dX10_nextPair_68 rfl rfl ?_
        refine xs_dup (n := 70) dX10_nextPair_69 rfl rfl ?_
        refine ys_geti (n := 73) dX10_nextPair_70 rfl fl_X10_25 (Or.inl rfl) sh_140 ?_
        refine xs_iconst (n := 74) (v := (1 : Int32)) dX10_nextPair_73 rfl rfl ?_
        refine xs_iadd (n := 75) dX10_nextPair_74 rfl ?_
        refine ys_puti (n := 78) dX10_nextPair_75 rfl fl_X10_25 rfl sh_140 (fun u11 => ?_)
        exact xs_gf (xs_end (kj8 (u11))) (And.intro rfl trivial)
  · refine xs_icmp_le (n := 23) (tgt := 44) dX10_nextPair_20 rfl rfl (fun hc4 => ?_) (fun hc4 => ?_)
    · exact xs_gf (xs_end (kj3 (u1))) (And.intro rfl trivial)
    · refine xs_aload_n (n := 24) dX10_nextPair_23 rfl rfl ?_
      refine ys_getr (n := 27) dX10_nextPair_24 rfl fl_X10_9 sh_140 rfl ?_
      refine xs_iconst (n := 28) (v := (1 : Int32)) dX10_nextPair_27 rfl rfl ?_
      refine xs_aload_n (n := 29) dX10_nextPair_28 rfl rfl ?_
      refine ys_geti (n := 32) dX10_nextPair_29 rfl fl_X10_19 (Or.inl rfl) sh_140 ?_
      refine xs_ineg (n := 33) dX10_nextPair_32 rfl ?_
      refine ys_iastore (n := 34) dX10_nextPair_33 rfl sh_141 (fun u5 => ?_)
      refine xs_aload_n (n := 35) dX10_nextPair_34 rfl rfl ?_
      refine ys_getr (n := 38) dX10_nextPair_35 rfl fl_X10_9 sh_140 rfl ?_
      refine xs_iconst (n := 39) (v := (0 : Int32)) dX10_nextPair_38 rfl rfl ?_
      refine xs_dup2_11 (n := 40) dX10_nextPair_39 rfl rfl rfl ?_
      refine ys_iaload (n := 41) dX10_nextPair_40 rfl sh_141 ?_
      refine xs_iconst (n := 42) (v := (1 : Int32)) dX10_nextPair_41 rfl rfl ?_
      refine xs_iadd (n := 43) dX10_nextPair_42 rfl ?_
      refine ys_iastore (n := 44) dX10_nextPair_43 rfl sh_141 (fun u6 => ?_)
      exact xs_gf (xs_end (kj3 (u6))) (And.intro rfl trivial)
def lp_X10_next_26 (m : Nat) : Nat → Int32 → xm_Y → Option ((Int32 × xm_Y) ⊕ (Int32 × xm_Y))
  | 0, _, _ => none
  | n + 1, l1, u0 =>
  if (4000 : Int32) ≤ l1 then (
  some (.inr (l1, u0))) else (
  ((fn_X10_nextPair m u0).bind fun q3 =>
  if q3.1 = 0 then (
  some (.inr (l1, q3.2))) else (
  xm_chk (xm_in (0 : Int32) 3) (
  ((fn_J9_abs_0f7a4 m (q3.2.1 141 (Int32.toNatClampNeg (0 : Int32))) q3.2).bind fun q5 =>
  xm_chk (xm_in (1 : Int32) 3) (
  ((fn_J9_abs_0f7a4 m (q5.2.1 141 (Int32.toNatClampNeg (1 : Int32))) q5.2).bind fun q6 =>
  xm_let (α := Int32) ((((q3.2.1 140 4) - q5.1) - q6.1)) fun v7 =>
  if v7 < 0 then (
  xm_let (α := Int32) (l1 + (1 : Int32)) fun v9 =>
  lp_X10_next_26 m n v9 q6.2) else (
  if (q6.2.1 140 3) < v7 then (
  xm_let (α := Int32) (l1 + (1 : Int32)) fun v11 =>
  lp_X10_next_26 m n v11 q6.2) else (
  xm_chk (xm_in (2 : Int32) 3) (xm_let (w_I q6.2 141 (Int32.toNatClampNeg (2 : Int32)) (-v7)) fun u12 =>
  some (.inl ((1 : Int32), u12))))))))))))
def fn_X10_next (m : Nat) (u0 : xm_Y) : Option (Int32 × xm_Y) :=
  xm_chk (xm_in (2 : Int32) 3) (
  if 0 ≤ (u0.1 141 (Int32.toNatClampNeg (2 : Int32))) then (
  ((lp_X10_next_26 m m (0 : Int32) u0).bind (Sum.elim (fun r => some r) (fun q13 =>
  some ((0 : Int32), q13.2))))) else (
  xm_chk (xm_in (2 : Int32) 3) (
  xm_chk (xm_in (2 : Int32) 3) (xm_let (w_I u0 141 (Int32.toNatClampNeg (2 : Int32)) (-(u0.1 141 (Int32.toNatClampNeg (2 : Int32))))) fun u14 =>
  some ((1 : Int32), u14)))))
theorem el_X10_next_26 (m : Nat) (K : (Int32 × xm_Y) ⊕ (Int32 × xm_Y) → Option (Int32 × xm_Y)) (hK : ∀ r, K (.inl r) = some r) (kE : ∀ q : Int32 × xm_Y, xs_ (fun x : Int32 => some (.int x)) sg_0 mt_X10_next 93 [none, none, none] [] q.2 0 0 (K (.inr q))) : ∀ (n : Nat) (l1 : Int32) (u0 : xm_Y), xs_ (fun x : Int32 => some (.int x)) sg_0 mt_X10_next 26 [some (.ref 140), some (.int l1), none] [] u0 0 0 ((lp_X10_next_26 m n l1 u0).bind K) := by
  intro n
  induction n with
  | zero =>
    intro l1 u0
    exact xs_none
  | succ n ih =>
    intro l1 u0
    rw [lp_X10_next_26]
    refine xs_iload_n (n := 27) dX10_next_26 rfl rfl ?_
    refine xs_sipush (n := 30) (v := (4000 : Int32)) dX10_next_27 rfl rfl ?_
    refine xs_icmp_ge (n := 33) (tgt := 93) dX10_next_30 rfl rfl (fun hc2 => ?_) (fun hc2 => ?_)
    · exact xs_gf (xs_end (kE (l1, u0))) trivial
    · refine xs_aload_n (n := 34) dX10_next_33 rfl rfl ?_
      refine ys_callvi (n := 37) (N := mt_X10_nextPair) dX10_next_34 rfl ok_X10_nextPair tw_634 im_X10_nextPair se_X10_nextPair ⟨Nat.le_of_ble_eq_true rfl, Nat.le_of_ble_eq_true rfl⟩ [] [] rfl rfl (Nat.le_of_ble_eq_true rfl) rfl (Nat.le_of_ble_eq_true rfl) (en_X10_nextPair m u0) sh_140 (by decide) rfl (fun q3 => ?_)
      refine xs_if_eq (n := 40) (tgt := 93) dX10_next_37 rfl rfl (fun hc4 => ?_) (fun hc4 => ?_)
      · exact xs_gf (xs_end (kE (l1, q3.2))) trivial
      · refine xs_aload_n (n := 41) dX10_next_40 rfl rfl ?_
        refine ys_geti (n := 44) dX10_next_41 rfl fl_X10_25 (Or.inl rfl) sh_140 ?_
        refine xs_aload_n (n := 45) dX10_next_44 rfl rfl ?_
        refine ys_getr (n := 48) dX10_next_45 rfl fl_X10_9 sh_140 rfl ?_
        refine xs_iconst (n := 49) (v := (0 : Int32)) dX10_next_48 rfl rfl ?_
        refine ys_iaload (n := 50) dX10_next_49 rfl sh_141 ?_
        refine ys_callsi (n := 53) (N := mt_J9_abs_0f7a4) dX10_next_50 rfl ok_J9_abs_0f7a4 tw_638 st_J9_abs_0f7a4 ⟨Nat.le_of_ble_eq_true rfl, Nat.le_of_ble_eq_true rfl⟩ [.int (q3.2.1 141 (Int32.toNatClampNeg (0 : Int32)))] [.int (q3.2.1 140 4)] rfl rfl (Nat.le_of_ble_eq_true rfl) rfl (Nat.le_of_ble_eq_true rfl) (en_J9_abs_0f7a4 m (q3.2.1 141 (Int32.toNatClampNeg (0 : Int32))) q3.2) (fun q5 => ?_)
        refine xs_isub (n := 54) dX10_next_53 rfl ?_
        refine xs_aload_n (n := 55) dX10_next_54 rfl rfl ?_
        refine ys_getr (n := 58) dX10_next_55 rfl fl_X10_9 sh_140 rfl ?_
        refine xs_iconst (n := 59) (v := (1 : Int32)) dX10_next_58 rfl rfl ?_
        refine ys_iaload (n := 60) dX10_next_59 rfl sh_141 ?_
        refine ys_callsi (n := 63) (N := mt_J9_abs_0f7a4) dX10_next_60 rfl ok_J9_abs_0f7a4 tw_638 st_J9_abs_0f7a4 ⟨Nat.le_of_ble_eq_true rfl, Nat.le_of_ble_eq_true rfl⟩ [.int (q5.2.1 141 (Int32.toNatClampNeg (1 : Int32)))] [.int ((q3.2.1 140 4) - q5.1)] rfl rfl (Nat.le_of_ble_eq_true rfl) rfl (Nat.le_of_ble_eq_true rfl) (en_J9_abs_0f7a4 m (q5.2.1 141 (Int32.toNatClampNeg (1 : Int32))) q5.2) (fun q6 => ?_)
        refine xs_isub (n := 64) dX10_next_63 rfl ?_
        refine xs_leti (fun v7 => ?_)
        refine xs_istore_n (n := 65) (lv' := [some (.ref 140), some (.int l1), some (.int v7)]) dX10_next_64 rfl (Nat.le_of_ble_eq_true rfl) rfl ?_
        refine xs_iload_n (n := 66) dX10_next_65 rfl rfl ?_
        refine xs_if_lt (n := 69) (tgt := 87) dX10_next_66 rfl rfl (fun hc8 => ?_) (fun hc8 => ?_)
        · refine xs_iincl (n := 90) (dv := (1 : Int32)) (fun v9 => [some (.ref 140), some (.int v9), some (.int v7)]) dX10_next_87 rfl rfl rfl (Nat.le_of_ble_eq_true rfl) (fun _ => rfl) (fun v9 => ?_)
          refine xs_goto (n := 26) dX10_next_90 rfl ?_
          exact xs_gf (ih v9 q6.2) (And.intro rfl (And.intro rfl trivial))
        · refine xs_iload_n (n := 70) dX10_next_69 rfl rfl ?_
          refine xs_aload_n (n := 71) dX10_next_70 rfl rfl ?_
          refine ys_geti (n := 74) dX10_next_71 rfl fl_X10_22 (Or.inl rfl) sh_140 ?_
          refine xs_icmp_gt (n := 77) (tgt := 87) dX10_next_74 rfl rfl (fun hc10 => ?_) (fun hc10 => ?_)
          · refine xs_iincl (n := 90) (dv := (1 : Int32)) (fun v11 => [some (.ref 140), some (.int v11), some (.int v7)]) dX10_next_87 rfl rfl rfl (Nat.le_of_ble_eq_true rfl) (fun _ => rfl) (fun v11 => ?_)
            refine xs_goto (n := 26) dX10_next_90 rfl ?_
            exact xs_gf (ih v11 q6.2) (And.intro rfl (And.intro rfl trivial))
          · refine xs_aload_n (n := 78) dX10_next_77 rfl rfl ?_
            refine ys_getr (n := 81) dX10_next_78 rfl fl_X10_9 sh_140 rfl ?_
            refine xs_iconst (n := 82) (v := (2 : Int32)) dX10_next_81 rfl rfl ?_
            refine xs_iload_n (n := 83) dX10_next_82 rfl rfl ?_
            refine xs_ineg (n := 84) dX10_next_83 rfl ?_
            refine ys_iastore (n := 85) dX10_next_84 rfl sh_141 (fun u12 => ?_)
            refine xs_iconst (n := 86) (v := (1 : Int32)) dX10_next_85 rfl rfl ?_
            exact xs_zretc dX10_next_86 rfl (Or.inr rfl) (hK _)
theorem en_X10_next (m : Nat) (u0 : xm_Y) : xs_ (fun x : Int32 => some (.int x)) sg_0 mt_X10_next 0 [some (.ref 140), none, none] [] u0 0 0 (fn_X10_next m u0) := by
  refine xs_top ?_
  rw [fn_X10_next]
  refine xs_aload_n (n := 1) dX10_next_0 rfl rfl ?_
  refine ys_getr (n := 4) dX10_next_1 rfl fl_X10_9 sh_140 rfl ?_
  refine xs_iconst (n := 5) (v := (2 : Int32)) dX10_next_4 rfl rfl ?_
  refine ys_iaload (n := 6) dX10_next_5 rfl sh_141 ?_
  refine xs_if_ge (n := 9) (tgt := 24) dX10_next_6 rfl rfl (fun hc1 => ?_) (fun hc1 => ?_)
  · refine xs_iconst (n := 25) (v := (0 : Int32)) dX10_next_24 rfl rfl ?_
    refine xs_istore_n (n := 26) (lv' := [some (.ref 140), some (.int (0 : Int32)), none]) dX10_next_25 rfl (Nat.le_of_ble_eq_true rfl) rfl ?_
    refine xs_reg ?_
    refine xs_fg (lv' := [some (.ref 140), some (.int (0 : Int32)), none]) (And.intro rfl (And.intro rfl trivial)) ?_
    refine el_X10_next_26 m _ (fun _ => rfl) (fun q13 => ?_) m (0 : Int32) u0
    refine xs_inr ?_
    refine xs_iconst (n := 94) (v := (0 : Int32)) dX10_next_93 rfl rfl ?_
    exact xs_zretc dX10_next_94 rfl (Or.inl rfl) rfl
  · refine xs_aload_n (n := 10) dX10_next_9 rfl rfl ?_
    refine ys_getr (n := 13) dX10_next_10 rfl fl_X10_9 sh_140 rfl ?_
    refine xs_iconst (n := 14) (v := (2 : Int32)) dX10_next_13 rfl rfl ?_
    refine xs_aload_n (n := 15) dX10_next_14 rfl rfl ?_
    refine ys_getr (n := 18) dX10_next_15 rfl fl_X10_9 sh_140 rfl ?_
    refine xs_iconst (n := 19) (v := (2 : Int32)) dX10_next_18 rfl rfl ?_
    refine ys_iaload (n := 20) dX10_next_19 rfl sh_141 ?_
    refine xs_ineg (n := 21) dX10_next_20 rfl ?_
    refine ys_iastore (n := 22) dX10_next_21 rfl sh_141 (fun u14 => ?_)
    refine xs_iconst (n := 23) (v := (1 : Int32)) dX10_next_22 rfl rfl ?_
    exact xs_zretc dX10_next_23 rfl (Or.inr rfl) rfl
def fn_X7_startAnew (m : Nat) (x0 : Int32) (u0 : xm_Y) : Option (Unit × xm_Y) :=
  xm_let (w_I u0 1 1 x0) fun u1 =>
  xm_let (w_I u1 1 2 (0 : Int32)) fun u2 =>
  some ((), u2)
theorem en_X7_startAnew (m : Nat) (x0 : Int32) (u0 : xm_Y) : xs_ (fun _ : Unit => none) sg_0 mt_X7_startAnew 0 [some (.ref 1), some (.int x0)] [] u0 0 0 (fn_X7_startAnew m x0 u0) := by
  refine xs_top ?_
  rw [fn_X7_startAnew]
  refine xs_aload_n (n := 1) dX7_startAnew_0 rfl rfl ?_
  refine xs_iload_n (n := 2) dX7_startAnew_1 rfl rfl ?_
  refine ys_puti (n := 5) dX7_startAnew_2 rfl fl_X7_17 rfl sh_1 (fun u1 => ?_)
  refine xs_aload_n (n := 6) dX7_startAnew_5 rfl rfl ?_
  refine xs_iconst (n := 7) (v := (0 : Int32)) dX7_startAnew_6 rfl rfl ?_
  refine ys_puti (n := 10) dX7_startAnew_7 rfl fl_X7_22 rfl sh_1 (fun u2 => ?_)
  exact xs_vret dX7_startAnew_10 rfl rfl
def fn_X2_zeroAll (m : Nat) (o : Nat) (u0 : xm_Y) : Option (Unit × xm_Y) :=
  ((fn_J7_fill_d0a16 m (o + 1) 6 (0 : Int64) u0).bind fun q1 =>
  some ((), q1.2))
theorem en_X2_zeroAll (m : Nat) (o : Nat) (ho : bx_ok o) (u0 : xm_Y) : xs_ (fun _ : Unit => none) sg_0 mt_X2_zeroAll 0 [some (.ref o)] [] u0 0 0 (fn_X2_zeroAll m o u0) := by
  refine xs_top ?_
  rw [fn_X2_zeroAll]
  refine xs_aload_n (n := 1) dX2_zeroAll_0 rfl rfl ?_
  refine ys_getr (n := 4) dX2_zeroAll_1 rfl fl_X2_9 ho.1 ho.2.1 ?_
  refine xs_lconst (n := 5) (v := (0 : Int64)) dX2_zeroAll_4 rfl rfl ?_
  refine ys_callsv (n := 8) (N := mt_J7_fill_d0a16) dX2_zeroAll_5 rfl ok_J7_fill_d0a16 tw_330 st_J7_fill_d0a16 ⟨Nat.le_of_ble_eq_true rfl, Nat.le_of_ble_eq_true rfl⟩ [.ref (o + 1), .long (0 : Int64)] [] rfl rfl (Nat.le_of_ble_eq_true rfl) rfl (Nat.le_of_ble_eq_true rfl) (en_J7_fill_d0a16 m (o + 1) 6 (0 : Int64) ho.2.2 u0) (fun q1 => ?_)
  exact xs_vret dX2_zeroAll_8 rfl rfl
def fn_X4_forgetRing (m : Nat) (u0 : xm_Y) : Option (Unit × xm_Y) :=
  xm_let (w_I u0 124 2 (-1 : Int32)) fun u1 =>
  some ((), u1)
theorem en_X4_forgetRing (m : Nat) (u0 : xm_Y) : xs_ (fun _ : Unit => none) sg_0 mt_X4_forgetRing 0 [some (.ref 124)] [] u0 0 0 (fn_X4_forgetRing m u0) := by
  refine xs_top ?_
  rw [fn_X4_forgetRing]
  refine xs_aload_n (n := 1) dX4_forgetRing_0 rfl rfl ?_
  refine xs_iconst (n := 2) (v := (-1 : Int32)) dX4_forgetRing_1 rfl rfl ?_
  refine ys_puti (n := 5) dX4_forgetRing_2 rfl fl_X4_18 rfl sh_124 (fun u1 => ?_)
  exact xs_vret dX4_forgetRing_5 rfl rfl
def fn_X5_forgetAll (m : Nat) (u0 : xm_Y) : Option (Unit × xm_Y) :=
  xm_let (w_I u0 139 2 (0 : Int32)) fun u1 =>
  xm_let (w_I u1 139 6 (0 : Int32)) fun u2 =>
  ((fn_J7_fill_53178 m 143 5 (-1 : Int32) u2).bind fun q3 =>
  some ((), q3.2))
theorem en_X5_forgetAll (m : Nat) (u0 : xm_Y) : xs_ (fun _ : Unit => none) sg_0 mt_X5_forgetAll 0 [some (.ref 139)] [] u0 0 0 (fn_X5_forgetAll m u0) := by
  refine xs_top ?_
  rw [fn_X5_forgetAll]
  refine xs_aload_n (n := 1) dX5_forgetAll_0 rfl rfl ?_
  refine xs_iconst (n := 2) (v := (0 : Int32)) dX5_forgetAll_1 rfl rfl ?_
  refine ys_puti (n := 5) dX5_forgetAll_2 rfl fl_X5_34 rfl sh_139 (fun u1 => ?_)
  refine xs_aload_n (n := 6) dX5_forgetAll_5 rfl rfl ?_
  refine xs_iconst (n := 7) (v := (0 : Int32)) dX5_forgetAll_6 rfl rfl ?_
  refine ys_putzc (n := 10) dX5_forgetAll_7 rfl fl_X5_38 rfl sh_139 (Or.inl rfl) (fun u2 => ?_)
  refine xs_aload_n (n := 11) dX5_forgetAll_10 rfl rfl ?_
  refine ys_getr (n := 14) dX5_forgetAll_11 rfl fl_X5_22 sh_139 rfl ?_
  refine xs_iconst (n := 15) (v := (-1 : Int32)) dX5_forgetAll_14 rfl rfl ?_
  refine ys_callsv (n := 18) (N := mt_J7_fill_53178) dX5_forgetAll_15 rfl ok_J7_fill_53178 tw_216 st_J7_fill_53178 ⟨Nat.le_of_ble_eq_true rfl, Nat.le_of_ble_eq_true rfl⟩ [.ref 143, .int (-1 : Int32)] [] rfl rfl (Nat.le_of_ble_eq_true rfl) rfl (Nat.le_of_ble_eq_true rfl) (en_J7_fill_53178 m 143 5 (-1 : Int32) sh_143 u2) (fun q3 => ?_)
  exact xs_vret dX5_forgetAll_18 rfl rfl
def lp_X2_openAll_2 (m : Nat) (a0 : Nat) (c1 : Int32) : Nat → Int32 → xm_Y → Option (Int32 × xm_Y)
  | 0, _, _ => none
  | n + 1, l2, u0 =>
  if (6 : Int32) ≤ l2 then (
  some (l2, u0)) else (
  ((if ((2 : Int32) * c1) ≤ l2 then (
  some ((0 : Int64))) else (
  some ((-3000000000000 : Int64))) : Option (Int64)).bind fun q2 =>
  xm_chk (xm_in l2 6) (xm_let (w_J u0 (a0 + 1) (Int32.toNatClampNeg l2) q2) fun u5 =>
  xm_let (α := Int32) (l2 + (1 : Int32)) fun v6 =>
  lp_X2_openAll_2 m a0 c1 n v6 u5)))
def fn_X2_openAll (m : Nat) (o : Nat) (x0 : Int32) (u0 : xm_Y) : Option (Unit × xm_Y) :=
  ((lp_X2_openAll_2 m o x0 m (0 : Int32) u0).bind fun q7 =>
  some ((), q7.2))
theorem el_X2_openAll_2 (m : Nat) (a0 : Nat) (c1 : Int32) (ha0 : bx_ok a0) (K : Int32 × xm_Y → Option (Unit × xm_Y)) (kE : ∀ q : Int32 × xm_Y, xs_ (fun _ : Unit => none) sg_0 mt_X2_openAll 34 [none, none, none] [] q.2 0 0 (K q)) : ∀ (n : Nat) (l2 : Int32) (u0 : xm_Y), xs_ (fun _ : Unit => none) sg_0 mt_X2_openAll 2 [some (.ref a0), some (.int c1), some (.int l2)] [] u0 0 0 ((lp_X2_openAll_2 m a0 c1 n l2 u0).bind K) := by
  intro n
  induction n with
  | zero =>
    intro l2 u0
    exact xs_none
  | succ n ih =>
    intro l2 u0
    rw [lp_X2_openAll_2]
    refine xs_iload_n (n := 3) dX2_openAll_2 rfl rfl ?_
    refine xs_bipush (n := 5) (v := (6 : Int32)) dX2_openAll_3 rfl rfl ?_
    refine xs_icmp_ge (n := 8) (tgt := 34) dX2_openAll_5 rfl rfl (fun hc1 => ?_) (fun hc1 => ?_)
    · exact xs_gf (xs_end (kE (l2, u0))) trivial
    · refine xs_aload_n (n := 9) dX2_openAll_8 rfl rfl ?_
      refine ys_getr (n := 12) dX2_openAll_9 rfl fl_X2_9 ha0.1 ha0.2.1 ?_
      refine xs_iload_n (n := 13) dX2_openAll_12 rfl rfl ?_
      refine xs_iload_n (n := 14) dX2_openAll_13 rfl rfl ?_
      refine xs_iconst (n := 15) (v := (2 : Int32)) dX2_openAll_14 rfl rfl ?_
      refine xs_iload_n (n := 16) dX2_openAll_15 rfl rfl ?_
      refine xs_imul (n := 17) dX2_openAll_16 rfl ?_
      refine xs_join 27 (fun q2 => [some (.ref a0), some (.int c1), some (.int l2)]) (fun q2 => [.long q2, .int l2, .ref (a0 + 1)]) (fun q2 => u0) (fun q2 => ?_) (fun kj3 => ?_)
      · refine ys_lastore (n := 28) dX2_openAll_27 rfl ha0.2.2 (fun u5 => ?_)
        refine xs_iincl (n := 31) (dv := (1 : Int32)) (fun v6 => [some (.ref a0), some (.int c1), some (.int v6)]) dX2_openAll_28 rfl rfl rfl (Nat.le_of_ble_eq_true rfl) (fun _ => rfl) (fun v6 => ?_)
        refine xs_goto (n := 2) dX2_openAll_31 rfl ?_
        exact xs_gf (ih v6 u5) (And.intro rfl (And.intro rfl (And.intro rfl trivial)))
      · refine xs_icmp_ge (n := 20) (tgt := 26) dX2_openAll_17 rfl rfl (fun hc4 => ?_) (fun hc4 => ?_)
        · refine xs_lconst (n := 27) (v := (0 : Int64)) dX2_openAll_26 rfl rfl ?_
          exact xs_gf (xs_end (kj3 ((0 : Int64)))) (And.intro rfl (And.intro rfl (And.intro rfl trivial)))
        · refine xs_ldc2 (n := 23) (v := (-3000000000000 : Int64)) dX2_openAll_20 rfl tw_283 ?_
          refine xs_goto (n := 27) dX2_openAll_23 rfl ?_
          exact xs_gf (xs_end (kj3 ((-3000000000000 : Int64)))) (And.intro rfl (And.intro rfl (And.intro rfl trivial)))
theorem en_X2_openAll (m : Nat) (o : Nat) (x0 : Int32) (ho : bx_ok o) (u0 : xm_Y) : xs_ (fun _ : Unit => none) sg_0 mt_X2_openAll 0 [some (.ref o), some (.int x0), none] [] u0 0 0 (fn_X2_openAll m o x0 u0) := by
  refine xs_top ?_
  rw [fn_X2_openAll]
  refine xs_iconst (n := 1) (v := (0 : Int32)) dX2_openAll_0 rfl rfl ?_
  refine xs_istore_n (n := 2) (lv' := [some (.ref o), some (.int x0), some (.int (0 : Int32))]) dX2_openAll_1 rfl (Nat.le_of_ble_eq_true rfl) rfl ?_
  refine xs_reg ?_
  refine xs_fg (lv' := [some (.ref o), some (.int x0), some (.int (0 : Int32))]) (And.intro rfl (And.intro rfl (And.intro rfl trivial))) ?_
  refine el_X2_openAll_2 m o x0 ho _ (fun q7 => ?_) m (0 : Int32) u0
  exact xs_vret dX2_openAll_34 rfl rfl
def lp_X11_forgetPlaces_10 (m : Nat) : Nat → Int32 → xm_Y → Option (Int32 × xm_Y)
  | 0, _, _ => none
  | n + 1, l1, u0 =>
  if (5 : Int32) ≤ l1 then (
  some (l1, u0)) else (
  xm_chk (xm_in l1 5) (
  xm_let (w_I u0 (6 + 24 * (Int32.toNatClampNeg l1)) 3 (0 : Int32)) fun u4 =>
  xm_let (α := Int32) (l1 + (1 : Int32)) fun v5 =>
  lp_X11_forgetPlaces_10 m n v5 u4))
def fn_X11_forgetPlaces (m : Nat) (u0 : xm_Y) : Option (Unit × xm_Y) :=
  xm_let (w_I u0 139 6 (0 : Int32)) fun u1 =>
  ((lp_X11_forgetPlaces_10 m m (0 : Int32) u1).bind fun q6 =>
  some ((), q6.2))
theorem el_X11_forgetPlaces_10 (m : Nat) (K : Int32 × xm_Y → Option (Unit × xm_Y)) (kE : ∀ q : Int32 × xm_Y, xs_ (fun _ : Unit => none) sg_0 mt_X11_forgetPlaces 37 [none, none] [] q.2 0 0 (K q)) : ∀ (n : Nat) (l1 : Int32) (u0 : xm_Y), xs_ (fun _ : Unit => none) sg_0 mt_X11_forgetPlaces 10 [some (.ref 0), some (.int l1)] [] u0 0 0 ((lp_X11_forgetPlaces_10 m n l1 u0).bind K) := by
  intro n
  induction n with
  | zero =>
    intro l1 u0
    exact xs_none
  | succ n ih =>
    intro l1 u0
    rw [lp_X11_forgetPlaces_10]
    refine xs_iload_n (n := 11) dX11_forgetPlaces_10 rfl rfl ?_
    refine xs_iconst (n := 12) (v := (5 : Int32)) dX11_forgetPlaces_11 rfl rfl ?_
    refine xs_icmp_ge (n := 15) (tgt := 37) dX11_forgetPlaces_12 rfl rfl (fun hc2 => ?_) (fun hc2 => ?_)
    · exact xs_gf (xs_end (kE (l1, u0))) trivial
    · refine xs_aload_n (n := 16) dX11_forgetPlaces_15 rfl rfl ?_
      refine ys_getr (n := 19) dX11_forgetPlaces_16 rfl fl_X11_10 sh_0 rfl ?_
      refine ys_getr (n := 22) dX11_forgetPlaces_19 rfl fl_X11_115 sh_1 rfl ?_
      refine xs_iload_n (n := 23) dX11_forgetPlaces_22 rfl rfl ?_
      refine ys_aaload17 (n := 24) dX11_forgetPlaces_23 rfl sh_2 (fun hi3 => pb_r (xin_n hi3)) (fun hi3 => ?_)
      refine ys_getr (n := 27) dX11_forgetPlaces_24 rfl fl_X11_171 (bd_s (xin_n hi3)) (bd_r2 (xin_n hi3)) ?_
      refine xs_iconst (n := 28) (v := (0 : Int32)) dX11_forgetPlaces_27 rfl rfl ?_
      refine ys_putzc (n := 31) dX11_forgetPlaces_28 rfl fl_X11_289 rfl (bp_s (xin_n hi3)) (Or.inl rfl) (fun u4 => ?_)
      refine xs_iincl (n := 34) (dv := (1 : Int32)) (fun v5 => [some (.ref 0), some (.int v5)]) dX11_forgetPlaces_31 rfl rfl rfl (Nat.le_of_ble_eq_true rfl) (fun _ => rfl) (fun v5 => ?_)
      refine xs_goto (n := 10) dX11_forgetPlaces_34 rfl ?_
      exact xs_gf (ih v5 u4) (And.intro rfl (And.intro rfl trivial))
theorem en_X11_forgetPlaces (m : Nat) (u0 : xm_Y) : xs_ (fun _ : Unit => none) sg_0 mt_X11_forgetPlaces 0 [some (.ref 0), none] [] u0 0 0 (fn_X11_forgetPlaces m u0) := by
  refine xs_top ?_
  rw [fn_X11_forgetPlaces]
  refine xs_aload_n (n := 1) dX11_forgetPlaces_0 rfl rfl ?_
  refine ys_getr (n := 4) dX11_forgetPlaces_1 rfl fl_X11_54 sh_0 rfl ?_
  refine xs_iconst (n := 5) (v := (0 : Int32)) dX11_forgetPlaces_4 rfl rfl ?_
  refine ys_putzc (n := 8) dX11_forgetPlaces_5 rfl fl_X11_208 rfl sh_139 (Or.inl rfl) (fun u1 => ?_)
  refine xs_iconst (n := 9) (v := (0 : Int32)) dX11_forgetPlaces_8 rfl rfl ?_
  refine xs_istore_n (n := 10) (lv' := [some (.ref 0), some (.int (0 : Int32))]) dX11_forgetPlaces_9 rfl (Nat.le_of_ble_eq_true rfl) rfl ?_
  refine xs_reg ?_
  refine xs_fg (lv' := [some (.ref 0), some (.int (0 : Int32))]) (And.intro rfl (And.intro rfl trivial)) ?_
  refine el_X11_forgetPlaces_10 m _ (fun q6 => ?_) m (0 : Int32) u1
  exact xs_vret dX11_forgetPlaces_37 rfl rfl
