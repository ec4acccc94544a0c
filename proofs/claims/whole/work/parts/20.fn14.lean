def fn_X12_isLeastAtLeast (m : Nat) (x0 : Int64) (u0 : xm_Y) : Option (Int32 × xm_Y) :=
  ((if (u0.1 150 16) = 0 then (
  some ((0), u0)) else (
  ((fn_J9_floorDiv_f86c9 m (x0 * (u0.2 150 15)) (1000000) u0).bind fun q4 =>
  ((fn_J9_floorMod_f86c9 m (x0 * (q4.2.2 150 15)) (1000000) q4.2).bind fun q5 =>
  ((fn_X12_isAbove m (0) (0) (1) ((u0.2 150 13) - q4.1) ((q4.2.2 150 14) - q5.1) (1) q5.2).bind fun q6 =>
  if q6.1 = 0 then (
  some ((1), q6.2)) else (
  some ((0), q6.2)))))) : Option (Int32 × xm_Y)).bind fun q1 =>
  xm_chk (q1.1 = 0 ∨ q1.1 = 1) (some (q1.1, q1.2)))
theorem en_X12_isLeastAtLeast (m : Nat) (x0 : Int64) (u0 : xm_Y) : xs_ (fun x : Int32 => some (.int x)) sg_0 mt_X12_isLeastAtLeast 0 [some (.ref 150), some (.long x0), none] [] u0 0 0 (fn_X12_isLeastAtLeast m x0 u0) := by
  refine xs_top ?_
  rw [fn_X12_isLeastAtLeast]
  refine xs_aload_n (n := 1) dX12_isLeastAtLeast_0 rfl rfl ?_
  refine ys_geti (n := 4) dX12_isLeastAtLeast_1 rfl fl_X12_240 (Or.inr rfl) sh_150 ?_
  refine xs_join 56 (fun q1 => [none, none, none]) (fun q1 => [.int q1.1]) (fun q1 => q1.2) (fun q1 => ?_) (fun kj2 => ?_)
  · exact xs_zret dX12_isLeastAtLeast_56 rfl rfl
  · refine xs_if_eq (n := 7) (tgt := 55) dX12_isLeastAtLeast_4 rfl rfl (fun hc3 => ?_) (fun hc3 => ?_)
    · refine xs_iconst (n := 56) (v := (0)) dX12_isLeastAtLeast_55 rfl rfl ?_
      exact xs_gf (kj2 ((0), u0)) trivial
    · refine xs_lconst (n := 8) (v := (0)) dX12_isLeastAtLeast_7 rfl rfl ?_
      refine xs_lconst (n := 9) (v := (0)) dX12_isLeastAtLeast_8 rfl rfl ?_
      refine xs_lconst (n := 10) (v := (1)) dX12_isLeastAtLeast_9 rfl rfl ?_
      refine xs_aload_n (n := 11) dX12_isLeastAtLeast_10 rfl rfl ?_
      refine ys_getl (n := 14) dX12_isLeastAtLeast_11 rfl fl_X12_243 sh_150 ?_
      refine xs_lload_n (n := 15) dX12_isLeastAtLeast_14 rfl rfl ?_
      refine xs_aload_n (n := 16) dX12_isLeastAtLeast_15 rfl rfl ?_
      refine ys_getl (n := 19) dX12_isLeastAtLeast_16 rfl fl_X12_250 sh_150 ?_
      refine xs_lmul (n := 20) dX12_isLeastAtLeast_19 rfl ?_
      refine xs_ldc2 (n := 23) (v := (1000000)) dX12_isLeastAtLeast_20 rfl tw_1179 ?_
      refine ys_callsl (n := 26) (N := mt_J9_floorDiv_f86c9) dX12_isLeastAtLeast_23 rfl ok_J9_floorDiv_f86c9 tw_1180 st_J9_floorDiv_f86c9 ⟨Nat.le_of_ble_eq_true rfl, Nat.le_of_ble_eq_true rfl⟩ [.long (x0 * (u0.2 150 15)), .long (1000000)] [.long (u0.2 150 13), .long (1), .long (0), .long (0)] rfl rfl (Nat.le_of_ble_eq_true rfl) rfl (Nat.le_of_ble_eq_true rfl) (en_J9_floorDiv_f86c9 m (x0 * (u0.2 150 15)) (1000000) u0) (fun q4 => ?_)
      refine xs_lsub (n := 27) dX12_isLeastAtLeast_26 rfl ?_
      refine xs_aload_n (n := 28) dX12_isLeastAtLeast_27 rfl rfl ?_
      refine ys_getl (n := 31) dX12_isLeastAtLeast_28 rfl fl_X12_247 sh_150 ?_
      refine xs_lload_n (n := 32) dX12_isLeastAtLeast_31 rfl rfl ?_
      refine xs_aload_n (n := 33) dX12_isLeastAtLeast_32 rfl rfl ?_
      refine ys_getl (n := 36) dX12_isLeastAtLeast_33 rfl fl_X12_250 sh_150 ?_
      refine xs_lmul (n := 37) dX12_isLeastAtLeast_36 rfl ?_
      refine xs_ldc2 (n := 40) (v := (1000000)) dX12_isLeastAtLeast_37 rfl tw_1179 ?_
      refine ys_callsl (n := 43) (N := mt_J9_floorMod_f86c9) dX12_isLeastAtLeast_40 rfl ok_J9_floorMod_f86c9 tw_1181 st_J9_floorMod_f86c9 ⟨Nat.le_of_ble_eq_true rfl, Nat.le_of_ble_eq_true rfl⟩ [.long (x0 * (q4.2.2 150 15)), .long (1000000)] [.long (q4.2.2 150 14), .long ((u0.2 150 13) - q4.1), .long (1), .long (0), .long (0)] rfl rfl (Nat.le_of_ble_eq_true rfl) rfl (Nat.le_of_ble_eq_true rfl) (en_J9_floorMod_f86c9 m (x0 * (q4.2.2 150 15)) (1000000) q4.2) (fun q5 => ?_)
      refine xs_lsub (n := 44) dX12_isLeastAtLeast_43 rfl ?_
      refine xs_lconst (n := 45) (v := (1)) dX12_isLeastAtLeast_44 rfl rfl ?_
      refine ys_callsi (n := 48) (N := mt_X12_isAbove) dX12_isLeastAtLeast_45 rfl ok_X12_isAbove tw_1184 st_X12_isAbove ⟨Nat.le_of_ble_eq_true rfl, Nat.le_of_ble_eq_true rfl⟩ [.long (0), .long (0), .long (1), .long ((u0.2 150 13) - q4.1), .long ((q4.2.2 150 14) - q5.1), .long (1)] [] rfl rfl (Nat.le_of_ble_eq_true rfl) rfl (Nat.le_of_ble_eq_true rfl) (en_X12_isAbove m (0) (0) (1) ((u0.2 150 13) - q4.1) ((q4.2.2 150 14) - q5.1) (1) q5.2) (fun q6 => ?_)
      refine xs_if_ne (n := 51) (tgt := 55) dX12_isLeastAtLeast_48 rfl rfl (fun hc7 => ?_) (fun hc7 => ?_)
      · refine xs_iconst (n := 52) (v := (1)) dX12_isLeastAtLeast_51 rfl rfl ?_
        refine xs_goto (n := 56) dX12_isLeastAtLeast_52 rfl ?_
        exact xs_gf (kj2 ((1), q6.2)) trivial
      · refine xs_iconst (n := 56) (v := (0)) dX12_isLeastAtLeast_55 rfl rfl ?_
        exact xs_gf (kj2 ((0), q6.2)) trivial
def lp_X12_isSum_6 (m : Nat) (c1 : Int32) (c2 : Int32) (c3 : Int32) (u0 : xm_Y) : Nat → Int32 → Int32 → Option (Int32 × Int32)
  | 0, _, _ => none
  | n + 1, l4, l5 =>
  if (3) ≤ l5 then (
  some (l4, l5)) else (
  ((if l5 = 0 then (
  some (c1)) else (
  if l5 = (1) then (
  some (c2)) else (
  some (c3))) : Option (Int32)).bind fun q2 =>
  ((if l4 = 0 then (
  some ((0))) else (
  if q2 < (-100) then (
  some ((0))) else (
  if (100) < q2 then (
  some ((0))) else (
  if l5 < (u0.1 150 0) then (
  some ((1))) else (
  if q2 = 0 then (
  some ((1))) else (
  some ((0))))))) : Option (Int32)).bind fun q6 =>
  xm_let (α := Int32) (l5 + (1)) fun v13 =>
  lp_X12_isSum_6 m c1 c2 c3 u0 n q6 v13)))
def fn_X12_isSum (m : Nat) (x0 : Int32) (x1 : Int32) (x2 : Int32) (u0 : xm_Y) : Option (Int32 × xm_Y) :=
  ((lp_X12_isSum_6 m x0 x1 x2 u0 m (1) (0)).bind fun q14 =>
  xm_chk (q14.1 = 0 ∨ q14.1 = 1) (some (q14.1, u0)))
theorem el_X12_isSum_6 (m : Nat) (c1 : Int32) (c2 : Int32) (c3 : Int32) (u0 : xm_Y) (K : Int32 × Int32 → Option (Int32 × xm_Y)) (kE : ∀ q : Int32 × Int32, xs_ (fun x : Int32 => some (.int x)) sg_0 mt_X12_isSum 80 [none, none, none, none, some (.int q.1), none, none] [] u0 0 0 (K q)) : ∀ (n : Nat) (l4 : Int32) (l5 : Int32), xs_ (fun x : Int32 => some (.int x)) sg_0 mt_X12_isSum 6 [some (.ref 150), some (.int c1), some (.int c2), some (.int c3), some (.int l4), some (.int l5), none] [] u0 0 0 ((lp_X12_isSum_6 m c1 c2 c3 u0 n l4 l5).bind K) := by
  intro n
  induction n with
  | zero =>
    intro l4 l5
    exact xs_none
  | succ n ih =>
    intro l4 l5
    rw [lp_X12_isSum_6]
    refine xs_iload (n := 8) dX12_isSum_6 rfl rfl ?_
    refine xs_iconst (n := 9) (v := (3)) dX12_isSum_8 rfl rfl ?_
    refine xs_icmp_ge (n := 12) (tgt := 80) dX12_isSum_9 rfl rfl (fun hc1 => ?_) (fun hc1 => ?_)
    · exact xs_gf (kE (l4, l5)) (And.intro rfl trivial)
    · refine xs_iload (n := 14) dX12_isSum_12 rfl rfl ?_
      refine xs_join 32 (fun q2 => [some (.ref 150), some (.int c1), some (.int c2), some (.int c3), some (.int l4), some (.int l5), none]) (fun q2 => [.int q2]) (fun q2 => u0) (fun q2 => ?_) (fun kj3 => ?_)
      · refine xs_istore (n := 34) (lv' := [some (.ref 150), some (.int c1), some (.int c2), some (.int c3), some (.int l4), some (.int l5), some (.int q2)]) dX12_isSum_32 rfl (Nat.le_of_ble_eq_true rfl) rfl ?_
        refine xs_iload (n := 36) dX12_isSum_34 rfl rfl ?_
        refine xs_join 72 (fun q6 => [some (.ref 150), some (.int c1), some (.int c2), some (.int c3), none, some (.int l5), none]) (fun q6 => [.int q6]) (fun q6 => u0) (fun q6 => ?_) (fun kj7 => ?_)
        · refine xs_istore (n := 74) (lv' := [some (.ref 150), some (.int c1), some (.int c2), some (.int c3), some (.int q6), some (.int l5), none]) dX12_isSum_72 rfl (Nat.le_of_ble_eq_true rfl) rfl ?_
          refine xs_iincl (n := 77) (dv := (1)) (fun v13 => [some (.ref 150), some (.int c1), some (.int c2), some (.int c3), some (.int q6), some (.int v13), none]) dX12_isSum_74 rfl rfl rfl (Nat.le_of_ble_eq_true rfl) (fun _ => rfl) (fun v13 => ?_)
          refine xs_goto (n := 6) dX12_isSum_77 rfl ?_
          exact xs_gf (ih q6 v13) (And.intro rfl (And.intro rfl (And.intro rfl (And.intro rfl (And.intro rfl (And.intro rfl trivial))))))
        · refine xs_if_eq (n := 39) (tgt := 71) dX12_isSum_36 rfl rfl (fun hc8 => ?_) (fun hc8 => ?_)
          · refine xs_iconst (n := 72) (v := (0)) dX12_isSum_71 rfl rfl ?_
            exact xs_gf (kj7 ((0))) (And.intro rfl (And.intro rfl (And.intro rfl (And.intro rfl (And.intro rfl trivial)))))
          · refine xs_iload (n := 41) dX12_isSum_39 rfl rfl ?_
            refine xs_bipush (n := 43) (v := (-100)) dX12_isSum_41 rfl rfl ?_
            refine xs_icmp_lt (n := 46) (tgt := 71) dX12_isSum_43 rfl rfl (fun hc9 => ?_) (fun hc9 => ?_)
            · refine xs_iconst (n := 72) (v := (0)) dX12_isSum_71 rfl rfl ?_
              exact xs_gf (kj7 ((0))) (And.intro rfl (And.intro rfl (And.intro rfl (And.intro rfl (And.intro rfl trivial)))))
            · refine xs_iload (n := 48) dX12_isSum_46 rfl rfl ?_
              refine xs_bipush (n := 50) (v := (100)) dX12_isSum_48 rfl rfl ?_
              refine xs_icmp_gt (n := 53) (tgt := 71) dX12_isSum_50 rfl rfl (fun hc10 => ?_) (fun hc10 => ?_)
              · refine xs_iconst (n := 72) (v := (0)) dX12_isSum_71 rfl rfl ?_
                exact xs_gf (kj7 ((0))) (And.intro rfl (And.intro rfl (And.intro rfl (And.intro rfl (And.intro rfl trivial)))))
              · refine xs_iload (n := 55) dX12_isSum_53 rfl rfl ?_
                refine xs_aload_n (n := 56) dX12_isSum_55 rfl rfl ?_
                refine ys_geti (n := 59) dX12_isSum_56 rfl fl_X12_7 (Or.inl rfl) sh_150 ?_
                refine xs_icmp_lt (n := 62) (tgt := 67) dX12_isSum_59 rfl rfl (fun hc11 => ?_) (fun hc11 => ?_)
                · refine xs_iconst (n := 68) (v := (1)) dX12_isSum_67 rfl rfl ?_
                  refine xs_goto (n := 72) dX12_isSum_68 rfl ?_
                  exact xs_gf (kj7 ((1))) (And.intro rfl (And.intro rfl (And.intro rfl (And.intro rfl (And.intro rfl trivial)))))
                · refine xs_iload (n := 64) dX12_isSum_62 rfl rfl ?_
                  refine xs_if_ne (n := 67) (tgt := 71) dX12_isSum_64 rfl rfl (fun hc12 => ?_) (fun hc12 => ?_)
                  · refine xs_iconst (n := 68) (v := (1)) dX12_isSum_67 rfl rfl ?_
                    refine xs_goto (n := 72) dX12_isSum_68 rfl ?_
                    exact xs_gf (kj7 ((1))) (And.intro rfl (And.intro rfl (And.intro rfl (And.intro rfl (And.intro rfl trivial)))))
                  · refine xs_iconst (n := 72) (v := (0)) dX12_isSum_71 rfl rfl ?_
                    exact xs_gf (kj7 ((0))) (And.intro rfl (And.intro rfl (And.intro rfl (And.intro rfl (And.intro rfl trivial)))))
      · refine xs_if_ne (n := 17) (tgt := 21) dX12_isSum_14 rfl rfl (fun hc4 => ?_) (fun hc4 => ?_)
        · refine xs_iload_n (n := 18) dX12_isSum_17 rfl rfl ?_
          refine xs_goto (n := 32) dX12_isSum_18 rfl ?_
          exact xs_gf (kj3 (c1)) (And.intro rfl (And.intro rfl (And.intro rfl (And.intro rfl (And.intro rfl (And.intro rfl trivial))))))
        · refine xs_iload (n := 23) dX12_isSum_21 rfl rfl ?_
          refine xs_iconst (n := 24) (v := (1)) dX12_isSum_23 rfl rfl ?_
          refine xs_icmp_ne (n := 27) (tgt := 31) dX12_isSum_24 rfl rfl (fun hc5 => ?_) (fun hc5 => ?_)
          · refine xs_iload_n (n := 28) dX12_isSum_27 rfl rfl ?_
            refine xs_goto (n := 32) dX12_isSum_28 rfl ?_
            exact xs_gf (kj3 (c2)) (And.intro rfl (And.intro rfl (And.intro rfl (And.intro rfl (And.intro rfl (And.intro rfl trivial))))))
          · refine xs_iload_n (n := 32) dX12_isSum_31 rfl rfl ?_
            exact xs_gf (kj3 (c3)) (And.intro rfl (And.intro rfl (And.intro rfl (And.intro rfl (And.intro rfl (And.intro rfl trivial))))))
theorem en_X12_isSum (m : Nat) (x0 : Int32) (x1 : Int32) (x2 : Int32) (u0 : xm_Y) : xs_ (fun x : Int32 => some (.int x)) sg_0 mt_X12_isSum 0 [some (.ref 150), some (.int x0), some (.int x1), some (.int x2), none, none, none] [] u0 0 0 (fn_X12_isSum m x0 x1 x2 u0) := by
  refine xs_top ?_
  rw [fn_X12_isSum]
  refine xs_iconst (n := 1) (v := (1)) dX12_isSum_0 rfl rfl ?_
  refine xs_istore (n := 3) (lv' := [some (.ref 150), some (.int x0), some (.int x1), some (.int x2), some (.int (1)), none, none]) dX12_isSum_1 rfl (Nat.le_of_ble_eq_true rfl) rfl ?_
  refine xs_iconst (n := 4) (v := (0)) dX12_isSum_3 rfl rfl ?_
  refine xs_istore (n := 6) (lv' := [some (.ref 150), some (.int x0), some (.int x1), some (.int x2), some (.int (1)), some (.int (0)), none]) dX12_isSum_4 rfl (Nat.le_of_ble_eq_true rfl) rfl ?_
  refine xs_reg ?_
  refine xs_fg (lv' := [some (.ref 150), some (.int x0), some (.int x1), some (.int x2), some (.int (1)), some (.int (0)), none]) (And.intro rfl (And.intro rfl (And.intro rfl (And.intro rfl (And.intro rfl (And.intro rfl trivial)))))) ?_
  refine el_X12_isSum_6 m x0 x1 x2 u0 _ (fun q14 => ?_) m (1) (0)
  refine xs_iload (n := 82) dX12_isSum_80 rfl rfl ?_
  exact xs_zret dX12_isSum_82 rfl rfl
def lp_X12_tellsOf_109 (m : Nat) (c9 : Int32) (c10 : Int32) : Nat → Int32 → xm_Y → Option (Int32 × xm_Y)
  | 0, _, _ => none
  | n + 1, l11, u0 =>
  if (3) ≤ l11 then (
  some (l11, u0)) else (
  xm_chk (xm_in l11 3) (
  xm_chk (xm_in (c10 + l11) 60) (
  xm_chk (xm_in l11 3) (xm_let (w_J u0 181 (Int32.toNatClampNeg l11) ((u0.2 181 (Int32.toNatClampNeg l11)) - ((Int32.toInt64 c9) * (Int32.toInt64 (u0.1 153 (Int32.toNatClampNeg (c10 + l11))))))) fun u17 =>
  xm_let (α := Int32) (l11 + (1)) fun v18 =>
  lp_X12_tellsOf_109 m c9 c10 n v18 u17))))
def lp_X12_tellsOf_64 (m : Nat) (c1 : Int32) (c2 : Int32) (c3 : Int32) (c4 : Int32) : Nat → Int64 → Int32 → xm_Y → Option (Int64 × Int32 × xm_Y)
  | 0, _, _, _ => none
  | n + 1, l6, l8, u0 =>
  if (u0.1 150 0) ≤ l8 then (
  some (l6, l8, u0)) else (
  ((if l8 = 0 then (
  some (c2)) else (
  if l8 = (1) then (
  some (c3)) else (
  some (c4))) : Option (Int32)).bind fun q11 =>
  xm_let (α := Int32) (((((3) * c1) + l8) * (4))) fun v15 =>
  ((lp_X12_tellsOf_109 m q11 v15 m (0) u0).bind fun q19 =>
  xm_chk (xm_in (v15 + (3)) 60) (
  xm_let (α := Int64) ((l6 + ((Int32.toInt64 q11) * (Int32.toInt64 (q19.2.1 153 (Int32.toNatClampNeg (v15 + (3)))))))) fun v20 =>
  xm_let (α := Int32) (l8 + (1)) fun v21 =>
  lp_X12_tellsOf_64 m c1 c2 c3 c4 n v20 v21 q19.2))))
def fn_X12_tellsOf (m : Nat) (x0 : Int32) (x1 : Int32) (x2 : Int32) (x3 : Int32) (u0 : xm_Y) : Option (Int32 × xm_Y) :=
  ((fn_X12_laySides m x0 u0).bind fun q1 =>
  if (q1.2.1 150 17) = 0 then (
  xm_chk (xm_in (0) 3) (xm_let (w_J q1.2 181 (Int32.toNatClampNeg (0)) (Int32.toInt64 x1)) fun u3 =>
  xm_chk (xm_in (1) 3) (xm_let (w_J u3 181 (Int32.toNatClampNeg (1)) (Int32.toInt64 x2)) fun u4 =>
  xm_chk (xm_in (2) 3) (xm_let (w_J u4 181 (Int32.toNatClampNeg (2)) (Int32.toInt64 x3)) fun u5 =>
  ((fn_X12_findLeast m u5).bind fun q6 =>
  ((if (q6.2.1 150 16) = 0 then (
  some ((0))) else (
  some ((4))) : Option (Int32)).bind fun q7 =>
  ((lp_X12_tellsOf_64 m x0 x1 x2 x3 m (0) (0) q6.2).bind fun q22 =>
  ((fn_X12_findLeast m q22.2.2).bind fun q23 =>
  ((fn_X12_isLeastAtLeast m ((1) + q22.1) q23.2).bind fun q24 =>
  ((if q24.1 = 0 then (
  some ((0))) else (
  some ((2))) : Option (Int32)).bind fun q25 =>
  xm_let (α := Int32) ((q7 + q25)) fun v28 =>
  ((fn_X12_isLeastAtLeast m q22.1 q24.2).bind fun q29 =>
  ((if q29.1 = 0 then (
  some ((0))) else (
  some ((1))) : Option (Int32)).bind fun q30 =>
  some ((v28 + q30), q29.2))))))))))))) else (
  some ((7), q1.2)))
theorem el_X12_tellsOf_109 (m : Nat) (c9 : Int32) (c10 : Int32) (c1 : Int32) (c2 : Int32) (c3 : Int32) (c4 : Int32) (c5 : Int32) (c6 : Int64) (c8 : Int32) (K : Int32 × xm_Y → Option (Int32 × xm_Y)) (kE : ∀ q : Int32 × xm_Y, xs_ (fun x : Int32 => some (.int x)) sg_0 mt_X12_tellsOf 146 [some (.ref 150), some (.int c1), some (.int c2), some (.int c3), some (.int c4), some (.int c5), some (.long c6), none, some (.int c8), some (.int c9), some (.int c10), none] [] q.2 0 0 (K q)) : ∀ (n : Nat) (l11 : Int32) (u0 : xm_Y), xs_ (fun x : Int32 => some (.int x)) sg_0 mt_X12_tellsOf 109 [some (.ref 150), some (.int c1), some (.int c2), some (.int c3), some (.int c4), some (.int c5), some (.long c6), none, some (.int c8), some (.int c9), some (.int c10), some (.int l11)] [] u0 0 0 ((lp_X12_tellsOf_109 m c9 c10 n l11 u0).bind K) := by
  intro n
  induction n with
  | zero =>
    intro l11 u0
    exact xs_none
  | succ n ih =>
    intro l11 u0
    rw [lp_X12_tellsOf_109]
    refine xs_iload (n := 111) dX12_tellsOf_109 rfl rfl ?_
    refine xs_iconst (n := 112) (v := (3)) dX12_tellsOf_111 rfl rfl ?_
    refine xs_icmp_ge (n := 115) (tgt := 146) dX12_tellsOf_112 rfl rfl (fun hc16 => ?_) (fun hc16 => ?_)
    · exact xs_gf (kE (l11, u0)) (And.intro rfl (And.intro rfl (And.intro rfl (And.intro rfl (And.intro rfl (And.intro rfl (And.intro rfl (And.intro rfl (And.intro rfl (And.intro rfl trivial))))))))))
    · refine xs_aload_n (n := 116) dX12_tellsOf_115 rfl rfl ?_
      refine ys_getr (n := 119) dX12_tellsOf_116 rfl fl_X12_122 sh_150 rfl ?_
      refine xs_iload (n := 121) dX12_tellsOf_119 rfl rfl ?_
      refine xs_dup2_11 (n := 122) dX12_tellsOf_121 rfl rfl rfl ?_
      refine ys_laload (n := 123) dX12_tellsOf_122 rfl sh_181 ?_
      refine xs_iload (n := 125) dX12_tellsOf_123 rfl rfl ?_
      refine xs_i2l (n := 126) dX12_tellsOf_125 rfl ?_
      refine xs_aload_n (n := 127) dX12_tellsOf_126 rfl rfl ?_
      refine ys_getr (n := 130) dX12_tellsOf_127 rfl fl_X12_20 sh_150 rfl ?_
      refine xs_iload (n := 132) dX12_tellsOf_130 rfl rfl ?_
      refine xs_iload (n := 134) dX12_tellsOf_132 rfl rfl ?_
      refine xs_iadd (n := 135) dX12_tellsOf_134 rfl ?_
      refine ys_iaload (n := 136) dX12_tellsOf_135 rfl sh_153 ?_
      refine xs_i2l (n := 137) dX12_tellsOf_136 rfl ?_
      refine xs_lmul (n := 138) dX12_tellsOf_137 rfl ?_
      refine xs_lsub (n := 139) dX12_tellsOf_138 rfl ?_
      refine ys_lastore (n := 140) dX12_tellsOf_139 rfl sh_181 (fun u17 => ?_)
      refine xs_iincl (n := 143) (dv := (1)) (fun v18 => [some (.ref 150), some (.int c1), some (.int c2), some (.int c3), some (.int c4), some (.int c5), some (.long c6), none, some (.int c8), some (.int c9), some (.int c10), some (.int v18)]) dX12_tellsOf_140 rfl rfl rfl (Nat.le_of_ble_eq_true rfl) (fun _ => rfl) (fun v18 => ?_)
      refine xs_goto (n := 109) dX12_tellsOf_143 rfl ?_
      exact xs_gf (ih v18 u17) (And.intro rfl (And.intro rfl (And.intro rfl (And.intro rfl (And.intro rfl (And.intro rfl (And.intro rfl (And.intro rfl (And.intro rfl (And.intro rfl (And.intro rfl trivial)))))))))))
theorem el_X12_tellsOf_64 (m : Nat) (c1 : Int32) (c2 : Int32) (c3 : Int32) (c4 : Int32) (c5 : Int32) (K : Int64 × Int32 × xm_Y → Option (Int32 × xm_Y)) (kE : ∀ q : Int64 × Int32 × xm_Y, xs_ (fun x : Int32 => some (.int x)) sg_0 mt_X12_tellsOf 171 [some (.ref 150), none, none, none, none, some (.int c5), some (.long q.1), none, none, none, none, none] [] q.2.2 0 0 (K q)) : ∀ (n : Nat) (l6 : Int64) (l8 : Int32) (u0 : xm_Y), xs_ (fun x : Int32 => some (.int x)) sg_0 mt_X12_tellsOf 64 [some (.ref 150), some (.int c1), some (.int c2), some (.int c3), some (.int c4), some (.int c5), some (.long l6), none, some (.int l8), none, none, none] [] u0 0 0 ((lp_X12_tellsOf_64 m c1 c2 c3 c4 n l6 l8 u0).bind K) := by
  intro n
  induction n with
  | zero =>
    intro l6 l8 u0
    exact xs_none
  | succ n ih =>
    intro l6 l8 u0
    rw [lp_X12_tellsOf_64]
    refine xs_iload (n := 66) dX12_tellsOf_64 rfl rfl ?_
    refine xs_aload_n (n := 67) dX12_tellsOf_66 rfl rfl ?_
    refine ys_geti (n := 70) dX12_tellsOf_67 rfl fl_X12_7 (Or.inl rfl) sh_150 ?_
    refine xs_icmp_ge (n := 73) (tgt := 171) dX12_tellsOf_70 rfl rfl (fun hc10 => ?_) (fun hc10 => ?_)
    · exact xs_gf (kE (l6, l8, u0)) (And.intro rfl (And.intro rfl (And.intro rfl trivial)))
    · refine xs_iload (n := 75) dX12_tellsOf_73 rfl rfl ?_
      refine xs_join 94 (fun q11 => [some (.ref 150), some (.int c1), some (.int c2), some (.int c3), some (.int c4), some (.int c5), some (.long l6), none, some (.int l8), none, none, none]) (fun q11 => [.int q11]) (fun q11 => u0) (fun q11 => ?_) (fun kj12 => ?_)
      · refine xs_istore (n := 96) (lv' := [some (.ref 150), some (.int c1), some (.int c2), some (.int c3), some (.int c4), some (.int c5), some (.long l6), none, some (.int l8), some (.int q11), none, none]) dX12_tellsOf_94 rfl (Nat.le_of_ble_eq_true rfl) rfl ?_
        refine xs_iconst (n := 97) (v := (3)) dX12_tellsOf_96 rfl rfl ?_
        refine xs_iload_n (n := 98) dX12_tellsOf_97 rfl rfl ?_
        refine xs_imul (n := 99) dX12_tellsOf_98 rfl ?_
        refine xs_iload (n := 101) dX12_tellsOf_99 rfl rfl ?_
        refine xs_iadd (n := 102) dX12_tellsOf_101 rfl ?_
        refine xs_iconst (n := 103) (v := (4)) dX12_tellsOf_102 rfl rfl ?_
        refine xs_imul (n := 104) dX12_tellsOf_103 rfl ?_
        refine xs_leti (fun v15 => ?_)
        refine xs_istore (n := 106) (lv' := [some (.ref 150), some (.int c1), some (.int c2), some (.int c3), some (.int c4), some (.int c5), some (.long l6), none, some (.int l8), some (.int q11), some (.int v15), none]) dX12_tellsOf_104 rfl (Nat.le_of_ble_eq_true rfl) rfl ?_
        refine xs_iconst (n := 107) (v := (0)) dX12_tellsOf_106 rfl rfl ?_
        refine xs_istore (n := 109) (lv' := [some (.ref 150), some (.int c1), some (.int c2), some (.int c3), some (.int c4), some (.int c5), some (.long l6), none, some (.int l8), some (.int q11), some (.int v15), some (.int (0))]) dX12_tellsOf_107 rfl (Nat.le_of_ble_eq_true rfl) rfl ?_
        refine xs_reg ?_
        refine xs_fg (lv' := [some (.ref 150), some (.int c1), some (.int c2), some (.int c3), some (.int c4), some (.int c5), some (.long l6), none, some (.int l8), some (.int q11), some (.int v15), some (.int (0))]) (And.intro rfl (And.intro rfl (And.intro rfl (And.intro rfl (And.intro rfl (And.intro rfl (And.intro rfl (And.intro rfl (And.intro rfl (And.intro rfl (And.intro rfl trivial))))))))))) ?_
        refine el_X12_tellsOf_109 m q11 v15 c1 c2 c3 c4 c5 l6 l8 _ (fun q19 => ?_) m (0) u0
        refine xs_lload (n := 148) dX12_tellsOf_146 rfl rfl ?_
        refine xs_iload (n := 150) dX12_tellsOf_148 rfl rfl ?_
        refine xs_i2l (n := 151) dX12_tellsOf_150 rfl ?_
        refine xs_aload_n (n := 152) dX12_tellsOf_151 rfl rfl ?_
        refine ys_getr (n := 155) dX12_tellsOf_152 rfl fl_X12_20 sh_150 rfl ?_
        refine xs_iload (n := 157) dX12_tellsOf_155 rfl rfl ?_
        refine xs_iconst (n := 158) (v := (3)) dX12_tellsOf_157 rfl rfl ?_
        refine xs_iadd (n := 159) dX12_tellsOf_158 rfl ?_
        refine ys_iaload (n := 160) dX12_tellsOf_159 rfl sh_153 ?_
        refine xs_i2l (n := 161) dX12_tellsOf_160 rfl ?_
        refine xs_lmul (n := 162) dX12_tellsOf_161 rfl ?_
        refine xs_ladd (n := 163) dX12_tellsOf_162 rfl ?_
        refine xs_letl (fun v20 => ?_)
        refine xs_lstore (n := 165) (lv' := [some (.ref 150), some (.int c1), some (.int c2), some (.int c3), some (.int c4), some (.int c5), some (.long v20), none, some (.int l8), some (.int q11), some (.int v15), none]) dX12_tellsOf_163 rfl (Nat.le_of_ble_eq_true rfl) rfl ?_
        refine xs_iincl (n := 168) (dv := (1)) (fun v21 => [some (.ref 150), some (.int c1), some (.int c2), some (.int c3), some (.int c4), some (.int c5), some (.long v20), none, some (.int v21), some (.int q11), some (.int v15), none]) dX12_tellsOf_165 rfl rfl rfl (Nat.le_of_ble_eq_true rfl) (fun _ => rfl) (fun v21 => ?_)
        refine xs_goto (n := 64) dX12_tellsOf_168 rfl ?_
        exact xs_gf (ih v20 v21 q19.2) (And.intro rfl (And.intro rfl (And.intro rfl (And.intro rfl (And.intro rfl (And.intro rfl (And.intro rfl (And.intro rfl trivial))))))))
      · refine xs_if_ne (n := 78) (tgt := 82) dX12_tellsOf_75 rfl rfl (fun hc13 => ?_) (fun hc13 => ?_)
        · refine xs_iload_n (n := 79) dX12_tellsOf_78 rfl rfl ?_
          refine xs_goto (n := 94) dX12_tellsOf_79 rfl ?_
          exact xs_gf (kj12 (c2)) (And.intro rfl (And.intro rfl (And.intro rfl (And.intro rfl (And.intro rfl (And.intro rfl (And.intro rfl (And.intro rfl trivial))))))))
        · refine xs_iload (n := 84) dX12_tellsOf_82 rfl rfl ?_
          refine xs_iconst (n := 85) (v := (1)) dX12_tellsOf_84 rfl rfl ?_
          refine xs_icmp_ne (n := 88) (tgt := 92) dX12_tellsOf_85 rfl rfl (fun hc14 => ?_) (fun hc14 => ?_)
          · refine xs_iload_n (n := 89) dX12_tellsOf_88 rfl rfl ?_
            refine xs_goto (n := 94) dX12_tellsOf_89 rfl ?_
            exact xs_gf (kj12 (c3)) (And.intro rfl (And.intro rfl (And.intro rfl (And.intro rfl (And.intro rfl (And.intro rfl (And.intro rfl (And.intro rfl trivial))))))))
          · refine xs_iload (n := 94) dX12_tellsOf_92 rfl rfl ?_
            exact xs_gf (kj12 (c4)) (And.intro rfl (And.intro rfl (And.intro rfl (And.intro rfl (And.intro rfl (And.intro rfl (And.intro rfl (And.intro rfl trivial))))))))
theorem en_X12_tellsOf (m : Nat) (x0 : Int32) (x1 : Int32) (x2 : Int32) (x3 : Int32) (u0 : xm_Y) : xs_ (fun x : Int32 => some (.int x)) sg_0 mt_X12_tellsOf 0 [some (.ref 150), some (.int x0), some (.int x1), some (.int x2), some (.int x3), none, none, none, none, none, none, none] [] u0 0 0 (fn_X12_tellsOf m x0 x1 x2 x3 u0) := by
  refine xs_top ?_
  rw [fn_X12_tellsOf]
  refine xs_aload_n (n := 1) dX12_tellsOf_0 rfl rfl ?_
  refine xs_iload_n (n := 2) dX12_tellsOf_1 rfl rfl ?_
  refine ys_callvv (n := 5) (N := mt_X12_laySides) dX12_tellsOf_2 rfl ok_X12_laySides tw_1121 im_X12_laySides se_X12_laySides ⟨Nat.le_of_ble_eq_true rfl, Nat.le_of_ble_eq_true rfl⟩ [.int x0] [] rfl rfl (Nat.le_of_ble_eq_true rfl) rfl (Nat.le_of_ble_eq_true rfl) (en_X12_laySides m x0 u0) sh_150 (by decide) rfl (fun q1 => ?_)
  refine xs_aload_n (n := 6) dX12_tellsOf_5 rfl rfl ?_
  refine ys_geti (n := 9) dX12_tellsOf_6 rfl fl_X12_194 (Or.inr rfl) sh_150 ?_
  refine xs_if_eq (n := 12) (tgt := 15) dX12_tellsOf_9 rfl rfl (fun hc2 => ?_) (fun hc2 => ?_)
  · refine xs_aload_n (n := 16) dX12_tellsOf_15 rfl rfl ?_
    refine ys_getr (n := 19) dX12_tellsOf_16 rfl fl_X12_122 sh_150 rfl ?_
    refine xs_iconst (n := 20) (v := (0)) dX12_tellsOf_19 rfl rfl ?_
    refine xs_iload_n (n := 21) dX12_tellsOf_20 rfl rfl ?_
    refine xs_i2l (n := 22) dX12_tellsOf_21 rfl ?_
    refine ys_lastore (n := 23) dX12_tellsOf_22 rfl sh_181 (fun u3 => ?_)
    refine xs_aload_n (n := 24) dX12_tellsOf_23 rfl rfl ?_
    refine ys_getr (n := 27) dX12_tellsOf_24 rfl fl_X12_122 sh_150 rfl ?_
    refine xs_iconst (n := 28) (v := (1)) dX12_tellsOf_27 rfl rfl ?_
    refine xs_iload_n (n := 29) dX12_tellsOf_28 rfl rfl ?_
    refine xs_i2l (n := 30) dX12_tellsOf_29 rfl ?_
    refine ys_lastore (n := 31) dX12_tellsOf_30 rfl sh_181 (fun u4 => ?_)
    refine xs_aload_n (n := 32) dX12_tellsOf_31 rfl rfl ?_
    refine ys_getr (n := 35) dX12_tellsOf_32 rfl fl_X12_122 sh_150 rfl ?_
    refine xs_iconst (n := 36) (v := (2)) dX12_tellsOf_35 rfl rfl ?_
    refine xs_iload (n := 38) dX12_tellsOf_36 rfl rfl ?_
    refine xs_i2l (n := 39) dX12_tellsOf_38 rfl ?_
    refine ys_lastore (n := 40) dX12_tellsOf_39 rfl sh_181 (fun u5 => ?_)
    refine xs_aload_n (n := 41) dX12_tellsOf_40 rfl rfl ?_
    refine ys_callvv (n := 44) (N := mt_X12_findLeast) dX12_tellsOf_41 rfl ok_X12_findLeast tw_1163 im_X12_findLeast se_X12_findLeast ⟨Nat.le_of_ble_eq_true rfl, Nat.le_of_ble_eq_true rfl⟩ [] [] rfl rfl (Nat.le_of_ble_eq_true rfl) rfl (Nat.le_of_ble_eq_true rfl) (en_X12_findLeast m u5) sh_150 (by decide) rfl (fun q6 => ?_)
    refine xs_aload_n (n := 45) dX12_tellsOf_44 rfl rfl ?_
    refine ys_geti (n := 48) dX12_tellsOf_45 rfl fl_X12_240 (Or.inr rfl) sh_150 ?_
    refine xs_join 56 (fun q7 => [some (.ref 150), some (.int x0), some (.int x1), some (.int x2), some (.int x3), none, none, none, none, none, none, none]) (fun q7 => [.int q7]) (fun q7 => q6.2) (fun q7 => ?_) (fun kj8 => ?_)
    · refine xs_istore (n := 58) (lv' := [some (.ref 150), some (.int x0), some (.int x1), some (.int x2), some (.int x3), some (.int q7), none, none, none, none, none, none]) dX12_tellsOf_56 rfl (Nat.le_of_ble_eq_true rfl) rfl ?_
      refine xs_lconst (n := 59) (v := (0)) dX12_tellsOf_58 rfl rfl ?_
      refine xs_lstore (n := 61) (lv' := [some (.ref 150), some (.int x0), some (.int x1), some (.int x2), some (.int x3), some (.int q7), some (.long (0)), none, none, none, none, none]) dX12_tellsOf_59 rfl (Nat.le_of_ble_eq_true rfl) rfl ?_
      refine xs_iconst (n := 62) (v := (0)) dX12_tellsOf_61 rfl rfl ?_
      refine xs_istore (n := 64) (lv' := [some (.ref 150), some (.int x0), some (.int x1), some (.int x2), some (.int x3), some (.int q7), some (.long (0)), none, some (.int (0)), none, none, none]) dX12_tellsOf_62 rfl (Nat.le_of_ble_eq_true rfl) rfl ?_
      refine xs_reg ?_
      refine xs_fg (lv' := [some (.ref 150), some (.int x0), some (.int x1), some (.int x2), some (.int x3), some (.int q7), some (.long (0)), none, some (.int (0)), none, none, none]) (And.intro rfl (And.intro rfl (And.intro rfl (And.intro rfl (And.intro rfl (And.intro rfl (And.intro rfl (And.intro rfl trivial)))))))) ?_
      refine el_X12_tellsOf_64 m x0 x1 x2 x3 q7 _ (fun q22 => ?_) m (0) (0) q6.2
      refine xs_aload_n (n := 172) dX12_tellsOf_171 rfl rfl ?_
      refine ys_callvv (n := 175) (N := mt_X12_findLeast) dX12_tellsOf_172 rfl ok_X12_findLeast tw_1163 im_X12_findLeast se_X12_findLeast ⟨Nat.le_of_ble_eq_true rfl, Nat.le_of_ble_eq_true rfl⟩ [] [] rfl rfl (Nat.le_of_ble_eq_true rfl) rfl (Nat.le_of_ble_eq_true rfl) (en_X12_findLeast m q22.2.2) sh_150 (by decide) rfl (fun q23 => ?_)
      refine xs_iload (n := 177) dX12_tellsOf_175 rfl rfl ?_
      refine xs_aload_n (n := 178) dX12_tellsOf_177 rfl rfl ?_
      refine xs_lconst (n := 179) (v := (1)) dX12_tellsOf_178 rfl rfl ?_
      refine xs_lload (n := 181) dX12_tellsOf_179 rfl rfl ?_
      refine xs_ladd (n := 182) dX12_tellsOf_181 rfl ?_
      refine ys_callvi (n := 185) (N := mt_X12_isLeastAtLeast) dX12_tellsOf_182 rfl ok_X12_isLeastAtLeast tw_1195 im_X12_isLeastAtLeast se_X12_isLeastAtLeast ⟨Nat.le_of_ble_eq_true rfl, Nat.le_of_ble_eq_true rfl⟩ [.long ((1) + q22.1)] [.int q7] rfl rfl (Nat.le_of_ble_eq_true rfl) rfl (Nat.le_of_ble_eq_true rfl) (en_X12_isLeastAtLeast m ((1) + q22.1) q23.2) sh_150 (by decide) rfl (fun q24 => ?_)
      refine xs_join 193 (fun q25 => [some (.ref 150), none, none, none, none, none, some (.long q22.1), none, none, none, none, none]) (fun q25 => [.int q25, .int q7]) (fun q25 => q24.2) (fun q25 => ?_) (fun kj26 => ?_)
      · refine xs_iadd (n := 194) dX12_tellsOf_193 rfl ?_
        refine xs_leti (fun v28 => ?_)
        refine xs_istore (n := 196) (lv' := [some (.ref 150), none, none, none, none, some (.int v28), some (.long q22.1), none, none, none, none, none]) dX12_tellsOf_194 rfl (Nat.le_of_ble_eq_true rfl) rfl ?_
        refine xs_iload (n := 198) dX12_tellsOf_196 rfl rfl ?_
        refine xs_aload_n (n := 199) dX12_tellsOf_198 rfl rfl ?_
        refine xs_lload (n := 201) dX12_tellsOf_199 rfl rfl ?_
        refine ys_callvi (n := 204) (N := mt_X12_isLeastAtLeast) dX12_tellsOf_201 rfl ok_X12_isLeastAtLeast tw_1195 im_X12_isLeastAtLeast se_X12_isLeastAtLeast ⟨Nat.le_of_ble_eq_true rfl, Nat.le_of_ble_eq_true rfl⟩ [.long q22.1] [.int v28] rfl rfl (Nat.le_of_ble_eq_true rfl) rfl (Nat.le_of_ble_eq_true rfl) (en_X12_isLeastAtLeast m q22.1 q24.2) sh_150 (by decide) rfl (fun q29 => ?_)
        refine xs_join 212 (fun q30 => [none, none, none, none, none, none, none, none, none, none, none, none]) (fun q30 => [.int q30, .int v28]) (fun q30 => q29.2) (fun q30 => ?_) (fun kj31 => ?_)
        · refine xs_iadd (n := 213) dX12_tellsOf_212 rfl ?_
          exact xs_iret dX12_tellsOf_213 rfl rfl
        · refine xs_if_eq (n := 207) (tgt := 211) dX12_tellsOf_204 rfl rfl (fun hc32 => ?_) (fun hc32 => ?_)
          · refine xs_iconst (n := 212) (v := (0)) dX12_tellsOf_211 rfl rfl ?_
            exact xs_gf (kj31 ((0))) trivial
          · refine xs_iconst (n := 208) (v := (1)) dX12_tellsOf_207 rfl rfl ?_
            refine xs_goto (n := 212) dX12_tellsOf_208 rfl ?_
            exact xs_gf (kj31 ((1))) trivial
      · refine xs_if_eq (n := 188) (tgt := 192) dX12_tellsOf_185 rfl rfl (fun hc27 => ?_) (fun hc27 => ?_)
        · refine xs_iconst (n := 193) (v := (0)) dX12_tellsOf_192 rfl rfl ?_
          exact xs_gf (kj26 ((0))) (And.intro rfl (And.intro rfl trivial))
        · refine xs_iconst (n := 189) (v := (2)) dX12_tellsOf_188 rfl rfl ?_
          refine xs_goto (n := 193) dX12_tellsOf_189 rfl ?_
          exact xs_gf (kj26 ((2))) (And.intro rfl (And.intro rfl trivial))
    · refine xs_if_eq (n := 51) (tgt := 55) dX12_tellsOf_48 rfl rfl (fun hc9 => ?_) (fun hc9 => ?_)
      · refine xs_iconst (n := 56) (v := (0)) dX12_tellsOf_55 rfl rfl ?_
        exact xs_gf (kj8 ((0))) (And.intro rfl (And.intro rfl (And.intro rfl (And.intro rfl (And.intro rfl trivial)))))
      · refine xs_iconst (n := 52) (v := (4)) dX12_tellsOf_51 rfl rfl ?_
        refine xs_goto (n := 56) dX12_tellsOf_52 rfl ?_
        exact xs_gf (kj8 ((4))) (And.intro rfl (And.intro rfl (And.intro rfl (And.intro rfl (And.intro rfl trivial)))))
  · refine xs_bipush (n := 14) (v := (7)) dX12_tellsOf_12 rfl rfl ?_
    exact xs_iret dX12_tellsOf_14 rfl rfl
def lp_X12_doesRank_6 (m : Nat) (c1 : Int32) (c2 : Int32) (c3 : Int32) : Nat → Int32 → Int32 → xm_Y → Option (Int32 × Int32 × xm_Y)
  | 0, _, _, _ => none
  | n + 1, l4, l5, u0 =>
  if (u0.1 150 1) ≤ l5 then (
  some (l4, l5, u0)) else (
  if l4 = 0 then (
  some (l4, l5, u0)) else (
  ((fn_X12_tellsOf m l5 c1 c2 c3 u0).bind fun q3 =>
  ((if q3.1 < (6) then (
  some ((0))) else (
  some ((1))) : Option (Int32)).bind fun q4 =>
  xm_let (α := Int32) (l5 + (1)) fun v7 =>
  lp_X12_doesRank_6 m c1 c2 c3 n q4 v7 q3.2))))
def fn_X12_doesRank (m : Nat) (x0 : Int32) (x1 : Int32) (x2 : Int32) (u0 : xm_Y) : Option (Int32 × xm_Y) :=
  ((lp_X12_doesRank_6 m x0 x1 x2 m (1) (0) u0).bind fun q8 =>
  xm_chk (q8.1 = 0 ∨ q8.1 = 1) (some (q8.1, q8.2.2)))
theorem el_X12_doesRank_6 (m : Nat) (c1 : Int32) (c2 : Int32) (c3 : Int32) (K : Int32 × Int32 × xm_Y → Option (Int32 × xm_Y)) (kE : ∀ q : Int32 × Int32 × xm_Y, xs_ (fun x : Int32 => some (.int x)) sg_0 mt_X12_doesRank 47 [none, none, none, none, some (.int q.1), none] [] q.2.2 0 0 (K q)) : ∀ (n : Nat) (l4 : Int32) (l5 : Int32) (u0 : xm_Y), xs_ (fun x : Int32 => some (.int x)) sg_0 mt_X12_doesRank 6 [some (.ref 150), some (.int c1), some (.int c2), some (.int c3), some (.int l4), some (.int l5)] [] u0 0 0 ((lp_X12_doesRank_6 m c1 c2 c3 n l4 l5 u0).bind K) := by
  intro n
  induction n with
  | zero =>
    intro l4 l5 u0
    exact xs_none
  | succ n ih =>
    intro l4 l5 u0
    rw [lp_X12_doesRank_6]
    refine xs_iload (n := 8) dX12_doesRank_6 rfl rfl ?_
    refine xs_aload_n (n := 9) dX12_doesRank_8 rfl rfl ?_
    refine ys_geti (n := 12) dX12_doesRank_9 rfl fl_X12_135 (Or.inl rfl) sh_150 ?_
    refine xs_icmp_ge (n := 15) (tgt := 47) dX12_doesRank_12 rfl rfl (fun hc1 => ?_) (fun hc1 => ?_)
    · exact xs_gf (kE (l4, l5, u0)) (And.intro rfl trivial)
    · refine xs_iload (n := 17) dX12_doesRank_15 rfl rfl ?_
      refine xs_if_eq (n := 20) (tgt := 47) dX12_doesRank_17 rfl rfl (fun hc2 => ?_) (fun hc2 => ?_)
      · exact xs_gf (kE (l4, l5, u0)) (And.intro rfl trivial)
      · refine xs_aload_n (n := 21) dX12_doesRank_20 rfl rfl ?_
        refine xs_iload (n := 23) dX12_doesRank_21 rfl rfl ?_
        refine xs_iload_n (n := 24) dX12_doesRank_23 rfl rfl ?_
        refine xs_iload_n (n := 25) dX12_doesRank_24 rfl rfl ?_
        refine xs_iload_n (n := 26) dX12_doesRank_25 rfl rfl ?_
        refine ys_callvi (n := 29) (N := mt_X12_tellsOf) dX12_doesRank_26 rfl ok_X12_tellsOf tw_1117 im_X12_tellsOf se_X12_tellsOf ⟨Nat.le_of_ble_eq_true rfl, Nat.le_of_ble_eq_true rfl⟩ [.int l5, .int c1, .int c2, .int c3] [] rfl rfl (Nat.le_of_ble_eq_true rfl) rfl (Nat.le_of_ble_eq_true rfl) (en_X12_tellsOf m l5 c1 c2 c3 u0) sh_150 (by decide) rfl (fun q3 => ?_)
        refine xs_bipush (n := 31) (v := (6)) dX12_doesRank_29 rfl rfl ?_
        refine xs_join 39 (fun q4 => [some (.ref 150), some (.int c1), some (.int c2), some (.int c3), none, some (.int l5)]) (fun q4 => [.int q4]) (fun q4 => q3.2) (fun q4 => ?_) (fun kj5 => ?_)
        · refine xs_istore (n := 41) (lv' := [some (.ref 150), some (.int c1), some (.int c2), some (.int c3), some (.int q4), some (.int l5)]) dX12_doesRank_39 rfl (Nat.le_of_ble_eq_true rfl) rfl ?_
          refine xs_iincl (n := 44) (dv := (1)) (fun v7 => [some (.ref 150), some (.int c1), some (.int c2), some (.int c3), some (.int q4), some (.int v7)]) dX12_doesRank_41 rfl rfl rfl (Nat.le_of_ble_eq_true rfl) (fun _ => rfl) (fun v7 => ?_)
          refine xs_goto (n := 6) dX12_doesRank_44 rfl ?_
          exact xs_gf (ih q4 v7 q3.2) (And.intro rfl (And.intro rfl (And.intro rfl (And.intro rfl (And.intro rfl (And.intro rfl trivial))))))
        · refine xs_icmp_lt (n := 34) (tgt := 38) dX12_doesRank_31 rfl rfl (fun hc6 => ?_) (fun hc6 => ?_)
          · refine xs_iconst (n := 39) (v := (0)) dX12_doesRank_38 rfl rfl ?_
            exact xs_gf (kj5 ((0))) (And.intro rfl (And.intro rfl (And.intro rfl (And.intro rfl (And.intro rfl trivial)))))
          · refine xs_iconst (n := 35) (v := (1)) dX12_doesRank_34 rfl rfl ?_
            refine xs_goto (n := 39) dX12_doesRank_35 rfl ?_
            exact xs_gf (kj5 ((1))) (And.intro rfl (And.intro rfl (And.intro rfl (And.intro rfl (And.intro rfl trivial)))))
theorem en_X12_doesRank (m : Nat) (x0 : Int32) (x1 : Int32) (x2 : Int32) (u0 : xm_Y) : xs_ (fun x : Int32 => some (.int x)) sg_0 mt_X12_doesRank 0 [some (.ref 150), some (.int x0), some (.int x1), some (.int x2), none, none] [] u0 0 0 (fn_X12_doesRank m x0 x1 x2 u0) := by
  refine xs_top ?_
  rw [fn_X12_doesRank]
  refine xs_iconst (n := 1) (v := (1)) dX12_doesRank_0 rfl rfl ?_
  refine xs_istore (n := 3) (lv' := [some (.ref 150), some (.int x0), some (.int x1), some (.int x2), some (.int (1)), none]) dX12_doesRank_1 rfl (Nat.le_of_ble_eq_true rfl) rfl ?_
  refine xs_iconst (n := 4) (v := (0)) dX12_doesRank_3 rfl rfl ?_
  refine xs_istore (n := 6) (lv' := [some (.ref 150), some (.int x0), some (.int x1), some (.int x2), some (.int (1)), some (.int (0))]) dX12_doesRank_4 rfl (Nat.le_of_ble_eq_true rfl) rfl ?_
  refine xs_reg ?_
  refine xs_fg (lv' := [some (.ref 150), some (.int x0), some (.int x1), some (.int x2), some (.int (1)), some (.int (0))]) (And.intro rfl (And.intro rfl (And.intro rfl (And.intro rfl (And.intro rfl (And.intro rfl trivial)))))) ?_
  refine el_X12_doesRank_6 m x0 x1 x2 _ (fun q8 => ?_) m (1) (0) u0
  refine xs_iload (n := 49) dX12_doesRank_47 rfl rfl ?_
  exact xs_zret dX12_doesRank_49 rfl rfl
def fn_X12_ranks (m : Nat) (x0 : Int32) (x1 : Int32) (x2 : Int32) (u0 : xm_Y) : Option (Int32 × xm_Y) :=
  ((fn_X12_isSum m x0 x1 x2 u0).bind fun q1 =>
  ((if q1.1 = 0 then (
  some ((-1), q1.2)) else (
  ((fn_X12_doesRank m x0 x1 x2 q1.2).bind fun q5 =>
  if q5.1 = 0 then (
  some ((0), q5.2)) else (
  some ((1), q5.2)))) : Option (Int32 × xm_Y)).bind fun q2 =>
  some (q2.1, q2.2)))
theorem en_X12_ranks (m : Nat) (x0 : Int32) (x1 : Int32) (x2 : Int32) (u0 : xm_Y) : xs_ (fun x : Int32 => some (.int x)) sg_0 mt_X12_ranks 0 [some (.ref 150), some (.int x0), some (.int x1), some (.int x2)] [] u0 0 0 (fn_X12_ranks m x0 x1 x2 u0) := by
  refine xs_top ?_
  rw [fn_X12_ranks]
  refine xs_aload_n (n := 1) dX12_ranks_0 rfl rfl ?_
  refine xs_iload_n (n := 2) dX12_ranks_1 rfl rfl ?_
  refine xs_iload_n (n := 3) dX12_ranks_2 rfl rfl ?_
  refine xs_iload_n (n := 4) dX12_ranks_3 rfl rfl ?_
  refine ys_callvi (n := 7) (N := mt_X12_isSum) dX12_ranks_4 rfl ok_X12_isSum tw_1109 im_X12_isSum se_X12_isSum ⟨Nat.le_of_ble_eq_true rfl, Nat.le_of_ble_eq_true rfl⟩ [.int x0, .int x1, .int x2] [] rfl rfl (Nat.le_of_ble_eq_true rfl) rfl (Nat.le_of_ble_eq_true rfl) (en_X12_isSum m x0 x1 x2 u0) sh_150 (by decide) rfl (fun q1 => ?_)
  refine xs_join 29 (fun q2 => [none, none, none, none]) (fun q2 => [.int q2.1]) (fun q2 => q2.2) (fun q2 => ?_) (fun kj3 => ?_)
  · exact xs_iret dX12_ranks_29 rfl rfl
  · refine xs_if_eq (n := 10) (tgt := 28) dX12_ranks_7 rfl rfl (fun hc4 => ?_) (fun hc4 => ?_)
    · refine xs_iconst (n := 29) (v := (-1)) dX12_ranks_28 rfl rfl ?_
      exact xs_gf (kj3 ((-1), q1.2)) trivial
    · refine xs_aload_n (n := 11) dX12_ranks_10 rfl rfl ?_
      refine xs_iload_n (n := 12) dX12_ranks_11 rfl rfl ?_
      refine xs_iload_n (n := 13) dX12_ranks_12 rfl rfl ?_
      refine xs_iload_n (n := 14) dX12_ranks_13 rfl rfl ?_
      refine ys_callvi (n := 17) (N := mt_X12_doesRank) dX12_ranks_14 rfl ok_X12_doesRank tw_1113 im_X12_doesRank se_X12_doesRank ⟨Nat.le_of_ble_eq_true rfl, Nat.le_of_ble_eq_true rfl⟩ [.int x0, .int x1, .int x2] [] rfl rfl (Nat.le_of_ble_eq_true rfl) rfl (Nat.le_of_ble_eq_true rfl) (en_X12_doesRank m x0 x1 x2 q1.2) sh_150 (by decide) rfl (fun q5 => ?_)
      refine xs_if_eq (n := 20) (tgt := 24) dX12_ranks_17 rfl rfl (fun hc6 => ?_) (fun hc6 => ?_)
      · refine xs_iconst (n := 25) (v := (0)) dX12_ranks_24 rfl rfl ?_
        refine xs_goto (n := 29) dX12_ranks_25 rfl ?_
        exact xs_gf (kj3 ((0), q5.2)) trivial
      · refine xs_iconst (n := 21) (v := (1)) dX12_ranks_20 rfl rfl ?_
        refine xs_goto (n := 29) dX12_ranks_21 rfl ?_
        exact xs_gf (kj3 ((1), q5.2)) trivial
def fn_X12_tells (m : Nat) (x0 : Int32) (x1 : Int32) (x2 : Int32) (x3 : Int32) (u0 : xm_Y) : Option (Int32 × xm_Y) :=
  ((fn_X12_isBody m x0 u0).bind fun q1 =>
  ((if q1.1 = 0 then (
  some ((-1), q1.2)) else (
  ((fn_X12_isSum m x1 x2 x3 q1.2).bind fun q5 =>
  if q5.1 = 0 then (
  some ((-1), q5.2)) else (
  ((fn_X12_tellsOf m x0 x1 x2 x3 q5.2).bind fun q7 =>
  some (q7.1, q7.2))))) : Option (Int32 × xm_Y)).bind fun q2 =>
  some (q2.1, q2.2)))
theorem en_X12_tells (m : Nat) (x0 : Int32) (x1 : Int32) (x2 : Int32) (x3 : Int32) (u0 : xm_Y) : xs_ (fun x : Int32 => some (.int x)) sg_0 mt_X12_tells 0 [some (.ref 150), some (.int x0), some (.int x1), some (.int x2), some (.int x3)] [] u0 0 0 (fn_X12_tells m x0 x1 x2 x3 u0) := by
  refine xs_top ?_
  rw [fn_X12_tells]
  refine xs_aload_n (n := 1) dX12_tells_0 rfl rfl ?_
  refine xs_iload_n (n := 2) dX12_tells_1 rfl rfl ?_
  refine ys_callvi (n := 5) (N := mt_X12_isBody) dX12_tells_2 rfl ok_X12_isBody tw_1036 im_X12_isBody se_X12_isBody ⟨Nat.le_of_ble_eq_true rfl, Nat.le_of_ble_eq_true rfl⟩ [.int x0] [] rfl rfl (Nat.le_of_ble_eq_true rfl) rfl (Nat.le_of_ble_eq_true rfl) (en_X12_isBody m x0 u0) sh_150 (by decide) rfl (fun q1 => ?_)
  refine xs_join 32 (fun q2 => [none, none, none, none, none]) (fun q2 => [.int q2.1]) (fun q2 => q2.2) (fun q2 => ?_) (fun kj3 => ?_)
  · exact xs_iret dX12_tells_32 rfl rfl
  · refine xs_if_eq (n := 8) (tgt := 31) dX12_tells_5 rfl rfl (fun hc4 => ?_) (fun hc4 => ?_)
    · refine xs_iconst (n := 32) (v := (-1)) dX12_tells_31 rfl rfl ?_
      exact xs_gf (kj3 ((-1), q1.2)) trivial
    · refine xs_aload_n (n := 9) dX12_tells_8 rfl rfl ?_
      refine xs_iload_n (n := 10) dX12_tells_9 rfl rfl ?_
      refine xs_iload_n (n := 11) dX12_tells_10 rfl rfl ?_
      refine xs_iload (n := 13) dX12_tells_11 rfl rfl ?_
      refine ys_callvi (n := 16) (N := mt_X12_isSum) dX12_tells_13 rfl ok_X12_isSum tw_1109 im_X12_isSum se_X12_isSum ⟨Nat.le_of_ble_eq_true rfl, Nat.le_of_ble_eq_true rfl⟩ [.int x1, .int x2, .int x3] [] rfl rfl (Nat.le_of_ble_eq_true rfl) rfl (Nat.le_of_ble_eq_true rfl) (en_X12_isSum m x1 x2 x3 q1.2) sh_150 (by decide) rfl (fun q5 => ?_)
      refine xs_if_eq (n := 19) (tgt := 31) dX12_tells_16 rfl rfl (fun hc6 => ?_) (fun hc6 => ?_)
      · refine xs_iconst (n := 32) (v := (-1)) dX12_tells_31 rfl rfl ?_
        exact xs_gf (kj3 ((-1), q5.2)) trivial
      · refine xs_aload_n (n := 20) dX12_tells_19 rfl rfl ?_
        refine xs_iload_n (n := 21) dX12_tells_20 rfl rfl ?_
        refine xs_iload_n (n := 22) dX12_tells_21 rfl rfl ?_
        refine xs_iload_n (n := 23) dX12_tells_22 rfl rfl ?_
        refine xs_iload (n := 25) dX12_tells_23 rfl rfl ?_
        refine ys_callvi (n := 28) (N := mt_X12_tellsOf) dX12_tells_25 rfl ok_X12_tellsOf tw_1117 im_X12_tellsOf se_X12_tellsOf ⟨Nat.le_of_ble_eq_true rfl, Nat.le_of_ble_eq_true rfl⟩ [.int x0, .int x1, .int x2, .int x3] [] rfl rfl (Nat.le_of_ble_eq_true rfl) rfl (Nat.le_of_ble_eq_true rfl) (en_X12_tellsOf m x0 x1 x2 x3 q5.2) sh_150 (by decide) rfl (fun q7 => ?_)
        refine xs_goto (n := 32) dX12_tells_28 rfl ?_
        exact xs_gf (kj3 (q7.1, q7.2)) trivial
def lp_X12_floorOf_9 (m : Nat) (c1 : Int32) (c2 : Int32) (c3 : Int32) : Nat → Int64 → Int32 → Int32 → xm_Y → Option (Int64 × Int32 × Int32 × xm_Y)
  | 0, _, _, _, _ => none
  | n + 1, l4, l6, l7, u0 =>
  if (u0.1 150 1) ≤ l7 then (
  some (l4, l6, l7, u0)) else (
  ((fn_X12_laySides m l7 u0).bind fun q2 =>
  ((if (q2.2.1 150 17) = 0 then (
  xm_chk (xm_in (0) 3) (xm_let (w_J q2.2 181 (Int32.toNatClampNeg (0)) (Int32.toInt64 c1)) fun u6 =>
  xm_chk (xm_in (1) 3) (xm_let (w_J u6 181 (Int32.toNatClampNeg (1)) (Int32.toInt64 c2)) fun u7 =>
  xm_chk (xm_in (2) 3) (xm_let (w_J u7 181 (Int32.toNatClampNeg (2)) (Int32.toInt64 c3)) fun u8 =>
  ((fn_X12_findLeast m u8).bind fun q9 =>
  ((fn_J9_floorDiv_f86c9 m (((q9.2.2 150 13) * (1000000)) + (q9.2.2 150 14)) (q9.2.2 150 15) q9.2).bind fun q10 =>
  ((if l6 = 0 then (
  some (q10.1)) else (
  if l4 ≤ q10.1 then (
  some (l4)) else (
  some (q10.1))) : Option (Int64)).bind fun q11 =>
  some (q11, (1), q10.2)))))))) else (
  some (l4, l6, q2.2)) : Option (Int64 × Int32 × xm_Y)).bind fun q3 =>
  xm_let (α := Int32) (l7 + (1)) fun v15 =>
  lp_X12_floorOf_9 m c1 c2 c3 n q3.1 q3.2.1 v15 q3.2.2)))
def fn_X12_floorOf (m : Nat) (x0 : Int32) (x1 : Int32) (x2 : Int32) (u0 : xm_Y) : Option (Int64 × xm_Y) :=
  ((lp_X12_floorOf_9 m x0 x1 x2 m (0) (0) (0) u0).bind fun q16 =>
  some (q16.1, q16.2.2.2))
theorem el_X12_floorOf_9 (m : Nat) (c1 : Int32) (c2 : Int32) (c3 : Int32) (K : Int64 × Int32 × Int32 × xm_Y → Option (Int64 × xm_Y)) (kE : ∀ q : Int64 × Int32 × Int32 × xm_Y, xs_ (fun x : Int64 => some (.long x)) sg_0 mt_X12_floorOf 115 [none, none, none, none, some (.long q.1), none, none, none, none, none] [] q.2.2.2 0 0 (K q)) : ∀ (n : Nat) (l4 : Int64) (l6 : Int32) (l7 : Int32) (u0 : xm_Y), xs_ (fun x : Int64 => some (.long x)) sg_0 mt_X12_floorOf 9 [some (.ref 150), some (.int c1), some (.int c2), some (.int c3), some (.long l4), none, some (.int l6), some (.int l7), none, none] [] u0 0 0 ((lp_X12_floorOf_9 m c1 c2 c3 n l4 l6 l7 u0).bind K) := by
  intro n
  induction n with
  | zero =>
    intro l4 l6 l7 u0
    exact xs_none
  | succ n ih =>
    intro l4 l6 l7 u0
    rw [lp_X12_floorOf_9]
    refine xs_iload (n := 11) dX12_floorOf_9 rfl rfl ?_
    refine xs_aload_n (n := 12) dX12_floorOf_11 rfl rfl ?_
    refine ys_geti (n := 15) dX12_floorOf_12 rfl fl_X12_135 (Or.inl rfl) sh_150 ?_
    refine xs_icmp_ge (n := 18) (tgt := 115) dX12_floorOf_15 rfl rfl (fun hc1 => ?_) (fun hc1 => ?_)
    · exact xs_gf (kE (l4, l6, l7, u0)) (And.intro rfl trivial)
    · refine xs_aload_n (n := 19) dX12_floorOf_18 rfl rfl ?_
      refine xs_iload (n := 21) dX12_floorOf_19 rfl rfl ?_
      refine ys_callvv (n := 24) (N := mt_X12_laySides) dX12_floorOf_21 rfl ok_X12_laySides tw_1121 im_X12_laySides se_X12_laySides ⟨Nat.le_of_ble_eq_true rfl, Nat.le_of_ble_eq_true rfl⟩ [.int l7] [] rfl rfl (Nat.le_of_ble_eq_true rfl) rfl (Nat.le_of_ble_eq_true rfl) (en_X12_laySides m l7 u0) sh_150 (by decide) rfl (fun q2 => ?_)
      refine xs_aload_n (n := 25) dX12_floorOf_24 rfl rfl ?_
      refine ys_geti (n := 28) dX12_floorOf_25 rfl fl_X12_194 (Or.inr rfl) sh_150 ?_
      refine xs_join 109 (fun q3 => [some (.ref 150), some (.int c1), some (.int c2), some (.int c3), some (.long q3.1), none, some (.int q3.2.1), some (.int l7), none, none]) (fun q3 => []) (fun q3 => q3.2.2) (fun q3 => ?_) (fun kj4 => ?_)
      · refine xs_iincl (n := 112) (dv := (1)) (fun v15 => [some (.ref 150), some (.int c1), some (.int c2), some (.int c3), some (.long q3.1), none, some (.int q3.2.1), some (.int v15), none, none]) dX12_floorOf_109 rfl rfl rfl (Nat.le_of_ble_eq_true rfl) (fun _ => rfl) (fun v15 => ?_)
        refine xs_goto (n := 9) dX12_floorOf_112 rfl ?_
        exact xs_gf (ih q3.1 q3.2.1 v15 q3.2.2) (And.intro rfl (And.intro rfl (And.intro rfl (And.intro rfl (And.intro rfl (And.intro rfl (And.intro rfl trivial)))))))
      · refine xs_if_eq (n := 31) (tgt := 34) dX12_floorOf_28 rfl rfl (fun hc5 => ?_) (fun hc5 => ?_)
        · refine xs_aload_n (n := 35) dX12_floorOf_34 rfl rfl ?_
          refine ys_getr (n := 38) dX12_floorOf_35 rfl fl_X12_122 sh_150 rfl ?_
          refine xs_iconst (n := 39) (v := (0)) dX12_floorOf_38 rfl rfl ?_
          refine xs_iload_n (n := 40) dX12_floorOf_39 rfl rfl ?_
          refine xs_i2l (n := 41) dX12_floorOf_40 rfl ?_
          refine ys_lastore (n := 42) dX12_floorOf_41 rfl sh_181 (fun u6 => ?_)
          refine xs_aload_n (n := 43) dX12_floorOf_42 rfl rfl ?_
          refine ys_getr (n := 46) dX12_floorOf_43 rfl fl_X12_122 sh_150 rfl ?_
          refine xs_iconst (n := 47) (v := (1)) dX12_floorOf_46 rfl rfl ?_
          refine xs_iload_n (n := 48) dX12_floorOf_47 rfl rfl ?_
          refine xs_i2l (n := 49) dX12_floorOf_48 rfl ?_
          refine ys_lastore (n := 50) dX12_floorOf_49 rfl sh_181 (fun u7 => ?_)
          refine xs_aload_n (n := 51) dX12_floorOf_50 rfl rfl ?_
          refine ys_getr (n := 54) dX12_floorOf_51 rfl fl_X12_122 sh_150 rfl ?_
          refine xs_iconst (n := 55) (v := (2)) dX12_floorOf_54 rfl rfl ?_
          refine xs_iload_n (n := 56) dX12_floorOf_55 rfl rfl ?_
          refine xs_i2l (n := 57) dX12_floorOf_56 rfl ?_
          refine ys_lastore (n := 58) dX12_floorOf_57 rfl sh_181 (fun u8 => ?_)
          refine xs_aload_n (n := 59) dX12_floorOf_58 rfl rfl ?_
          refine ys_callvv (n := 62) (N := mt_X12_findLeast) dX12_floorOf_59 rfl ok_X12_findLeast tw_1163 im_X12_findLeast se_X12_findLeast ⟨Nat.le_of_ble_eq_true rfl, Nat.le_of_ble_eq_true rfl⟩ [] [] rfl rfl (Nat.le_of_ble_eq_true rfl) rfl (Nat.le_of_ble_eq_true rfl) (en_X12_findLeast m u8) sh_150 (by decide) rfl (fun q9 => ?_)
          refine xs_aload_n (n := 63) dX12_floorOf_62 rfl rfl ?_
          refine ys_getl (n := 66) dX12_floorOf_63 rfl fl_X12_243 sh_150 ?_
          refine xs_ldc2 (n := 69) (v := (1000000)) dX12_floorOf_66 rfl tw_1179 ?_
          refine xs_lmul (n := 70) dX12_floorOf_69 rfl ?_
          refine xs_aload_n (n := 71) dX12_floorOf_70 rfl rfl ?_
          refine ys_getl (n := 74) dX12_floorOf_71 rfl fl_X12_247 sh_150 ?_
          refine xs_ladd (n := 75) dX12_floorOf_74 rfl ?_
          refine xs_aload_n (n := 76) dX12_floorOf_75 rfl rfl ?_
          refine ys_getl (n := 79) dX12_floorOf_76 rfl fl_X12_250 sh_150 ?_
          refine ys_callsl (n := 82) (N := mt_J9_floorDiv_f86c9) dX12_floorOf_79 rfl ok_J9_floorDiv_f86c9 tw_1180 st_J9_floorDiv_f86c9 ⟨Nat.le_of_ble_eq_true rfl, Nat.le_of_ble_eq_true rfl⟩ [.long (((q9.2.2 150 13) * (1000000)) + (q9.2.2 150 14)), .long (q9.2.2 150 15)] [] rfl rfl (Nat.le_of_ble_eq_true rfl) rfl (Nat.le_of_ble_eq_true rfl) (en_J9_floorDiv_f86c9 m (((q9.2.2 150 13) * (1000000)) + (q9.2.2 150 14)) (q9.2.2 150 15) q9.2) (fun q10 => ?_)
          refine xs_lstore (n := 84) (lv' := [some (.ref 150), some (.int c1), some (.int c2), some (.int c3), some (.long l4), none, some (.int l6), some (.int l7), some (.long q10.1), none]) dX12_floorOf_82 rfl (Nat.le_of_ble_eq_true rfl) rfl ?_
          refine xs_iload (n := 86) dX12_floorOf_84 rfl rfl ?_
          refine xs_join 104 (fun q11 => [some (.ref 150), some (.int c1), some (.int c2), some (.int c3), none, none, none, some (.int l7), none, none]) (fun q11 => [.long q11]) (fun q11 => q10.2) (fun q11 => ?_) (fun kj12 => ?_)
          · refine xs_lstore (n := 106) (lv' := [some (.ref 150), some (.int c1), some (.int c2), some (.int c3), some (.long q11), none, none, some (.int l7), none, none]) dX12_floorOf_104 rfl (Nat.le_of_ble_eq_true rfl) rfl ?_
            refine xs_iconst (n := 107) (v := (1)) dX12_floorOf_106 rfl rfl ?_
            refine xs_istore (n := 109) (lv' := [some (.ref 150), some (.int c1), some (.int c2), some (.int c3), some (.long q11), none, some (.int (1)), some (.int l7), none, none]) dX12_floorOf_107 rfl (Nat.le_of_ble_eq_true rfl) rfl ?_
            exact xs_gf (kj4 (q11, (1), q10.2)) (And.intro rfl (And.intro rfl (And.intro rfl (And.intro rfl (And.intro rfl (And.intro rfl (And.intro rfl trivial)))))))
          · refine xs_if_eq (n := 89) (tgt := 97) dX12_floorOf_86 rfl rfl (fun hc13 => ?_) (fun hc13 => ?_)
            · refine xs_lload (n := 99) dX12_floorOf_97 rfl rfl ?_
              refine xs_goto (n := 104) dX12_floorOf_99 rfl ?_
              exact xs_gf (kj12 (q10.1)) (And.intro rfl (And.intro rfl (And.intro rfl (And.intro rfl (And.intro rfl trivial)))))
            · refine xs_lload (n := 91) dX12_floorOf_89 rfl rfl ?_
              refine xs_lload (n := 93) dX12_floorOf_91 rfl rfl ?_
              refine xs_lif_ge (n := 97) (pc1 := 94) (tgt := 102) dX12_floorOf_93 rfl dX12_floorOf_94 rfl rfl (fun hc14 => ?_) (fun hc14 => ?_)
              · refine xs_lload (n := 104) dX12_floorOf_102 rfl rfl ?_
                exact xs_gf (kj12 (l4)) (And.intro rfl (And.intro rfl (And.intro rfl (And.intro rfl (And.intro rfl trivial)))))
              · refine xs_lload (n := 99) dX12_floorOf_97 rfl rfl ?_
                refine xs_goto (n := 104) dX12_floorOf_99 rfl ?_
                exact xs_gf (kj12 (q10.1)) (And.intro rfl (And.intro rfl (And.intro rfl (And.intro rfl (And.intro rfl trivial)))))
        · refine xs_goto (n := 109) dX12_floorOf_31 rfl ?_
          exact xs_gf (kj4 (l4, l6, q2.2)) (And.intro rfl (And.intro rfl (And.intro rfl (And.intro rfl (And.intro rfl (And.intro rfl (And.intro rfl trivial)))))))
theorem en_X12_floorOf (m : Nat) (x0 : Int32) (x1 : Int32) (x2 : Int32) (u0 : xm_Y) : xs_ (fun x : Int64 => some (.long x)) sg_0 mt_X12_floorOf 0 [some (.ref 150), some (.int x0), some (.int x1), some (.int x2), none, none, none, none, none, none] [] u0 0 0 (fn_X12_floorOf m x0 x1 x2 u0) := by
  refine xs_top ?_
  rw [fn_X12_floorOf]
  refine xs_lconst (n := 1) (v := (0)) dX12_floorOf_0 rfl rfl ?_
  refine xs_lstore (n := 3) (lv' := [some (.ref 150), some (.int x0), some (.int x1), some (.int x2), some (.long (0)), none, none, none, none, none]) dX12_floorOf_1 rfl (Nat.le_of_ble_eq_true rfl) rfl ?_
  refine xs_iconst (n := 4) (v := (0)) dX12_floorOf_3 rfl rfl ?_
  refine xs_istore (n := 6) (lv' := [some (.ref 150), some (.int x0), some (.int x1), some (.int x2), some (.long (0)), none, some (.int (0)), none, none, none]) dX12_floorOf_4 rfl (Nat.le_of_ble_eq_true rfl) rfl ?_
  refine xs_iconst (n := 7) (v := (0)) dX12_floorOf_6 rfl rfl ?_
  refine xs_istore (n := 9) (lv' := [some (.ref 150), some (.int x0), some (.int x1), some (.int x2), some (.long (0)), none, some (.int (0)), some (.int (0)), none, none]) dX12_floorOf_7 rfl (Nat.le_of_ble_eq_true rfl) rfl ?_
  refine xs_reg ?_
  refine xs_fg (lv' := [some (.ref 150), some (.int x0), some (.int x1), some (.int x2), some (.long (0)), none, some (.int (0)), some (.int (0)), none, none]) (And.intro rfl (And.intro rfl (And.intro rfl (And.intro rfl (And.intro rfl (And.intro rfl (And.intro rfl trivial))))))) ?_
  refine el_X12_floorOf_9 m x0 x1 x2 _ (fun q16 => ?_) m (0) (0) (0) u0
  refine xs_lload (n := 117) dX12_floorOf_115 rfl rfl ?_
  exact xs_lret dX12_floorOf_117 rfl rfl
def fn_X12_floor (m : Nat) (x0 : Int32) (x1 : Int32) (x2 : Int32) (u0 : xm_Y) : Option (Int64 × xm_Y) :=
  ((fn_X12_isSum m x0 x1 x2 u0).bind fun q1 =>
  ((if q1.1 = 0 then (
  some ((-9000000000000000), q1.2)) else (
  ((fn_X12_doesRank m x0 x1 x2 q1.2).bind fun q5 =>
  if q5.1 = 0 then (
  some ((-9000000000000000), q5.2)) else (
  ((fn_X12_floorOf m x0 x1 x2 q5.2).bind fun q7 =>
  some (q7.1, q7.2))))) : Option (Int64 × xm_Y)).bind fun q2 =>
  some (q2.1, q2.2)))
theorem en_X12_floor (m : Nat) (x0 : Int32) (x1 : Int32) (x2 : Int32) (u0 : xm_Y) : xs_ (fun x : Int64 => some (.long x)) sg_0 mt_X12_floor 0 [some (.ref 150), some (.int x0), some (.int x1), some (.int x2)] [] u0 0 0 (fn_X12_floor m x0 x1 x2 u0) := by
  refine xs_top ?_
  rw [fn_X12_floor]
  refine xs_aload_n (n := 1) dX12_floor_0 rfl rfl ?_
  refine xs_iload_n (n := 2) dX12_floor_1 rfl rfl ?_
  refine xs_iload_n (n := 3) dX12_floor_2 rfl rfl ?_
  refine xs_iload_n (n := 4) dX12_floor_3 rfl rfl ?_
  refine ys_callvi (n := 7) (N := mt_X12_isSum) dX12_floor_4 rfl ok_X12_isSum tw_1109 im_X12_isSum se_X12_isSum ⟨Nat.le_of_ble_eq_true rfl, Nat.le_of_ble_eq_true rfl⟩ [.int x0, .int x1, .int x2] [] rfl rfl (Nat.le_of_ble_eq_true rfl) rfl (Nat.le_of_ble_eq_true rfl) (en_X12_isSum m x0 x1 x2 u0) sh_150 (by decide) rfl (fun q1 => ?_)
  refine xs_join 33 (fun q2 => [none, none, none, none]) (fun q2 => [.long q2.1]) (fun q2 => q2.2) (fun q2 => ?_) (fun kj3 => ?_)
  · exact xs_lret dX12_floor_33 rfl rfl
  · refine xs_if_eq (n := 10) (tgt := 30) dX12_floor_7 rfl rfl (fun hc4 => ?_) (fun hc4 => ?_)
    · refine xs_ldc2 (n := 33) (v := (-9000000000000000)) dX12_floor_30 rfl tw_1211 ?_
      exact xs_gf (kj3 ((-9000000000000000), q1.2)) trivial
    · refine xs_aload_n (n := 11) dX12_floor_10 rfl rfl ?_
      refine xs_iload_n (n := 12) dX12_floor_11 rfl rfl ?_
      refine xs_iload_n (n := 13) dX12_floor_12 rfl rfl ?_
      refine xs_iload_n (n := 14) dX12_floor_13 rfl rfl ?_
      refine ys_callvi (n := 17) (N := mt_X12_doesRank) dX12_floor_14 rfl ok_X12_doesRank tw_1113 im_X12_doesRank se_X12_doesRank ⟨Nat.le_of_ble_eq_true rfl, Nat.le_of_ble_eq_true rfl⟩ [.int x0, .int x1, .int x2] [] rfl rfl (Nat.le_of_ble_eq_true rfl) rfl (Nat.le_of_ble_eq_true rfl) (en_X12_doesRank m x0 x1 x2 q1.2) sh_150 (by decide) rfl (fun q5 => ?_)
      refine xs_if_eq (n := 20) (tgt := 30) dX12_floor_17 rfl rfl (fun hc6 => ?_) (fun hc6 => ?_)
      · refine xs_ldc2 (n := 33) (v := (-9000000000000000)) dX12_floor_30 rfl tw_1211 ?_
        exact xs_gf (kj3 ((-9000000000000000), q5.2)) trivial
      · refine xs_aload_n (n := 21) dX12_floor_20 rfl rfl ?_
        refine xs_iload_n (n := 22) dX12_floor_21 rfl rfl ?_
        refine xs_iload_n (n := 23) dX12_floor_22 rfl rfl ?_
        refine xs_iload_n (n := 24) dX12_floor_23 rfl rfl ?_
        refine ys_callvl (n := 27) (N := mt_X12_floorOf) dX12_floor_24 rfl ok_X12_floorOf tw_1207 im_X12_floorOf se_X12_floorOf ⟨Nat.le_of_ble_eq_true rfl, Nat.le_of_ble_eq_true rfl⟩ [.int x0, .int x1, .int x2] [] rfl rfl (Nat.le_of_ble_eq_true rfl) rfl (Nat.le_of_ble_eq_true rfl) (en_X12_floorOf m x0 x1 x2 q5.2) sh_150 (by decide) rfl (fun q7 => ?_)
        refine xs_goto (n := 33) dX12_floor_27 rfl ?_
        exact xs_gf (kj3 (q7.1, q7.2)) trivial
def lp_X12_step_7 (m : Nat) (c1 : Int32) : Nat → Int32 → xm_Y → Option ((Int32 × xm_Y) ⊕ (Int32 × xm_Y))
  | 0, _, _ => none
  | n + 1, l2, u0 =>
  if l2 < 0 then (
  some (.inr (l2, u0))) else (
  xm_chk (xm_in l2 3) (
  if c1 ≤ (u0.1 182 (Int32.toNatClampNeg l2)) then (
  xm_chk (xm_in l2 3) (xm_let (w_I u0 182 (Int32.toNatClampNeg l2) (-c1)) fun u4 =>
  xm_let (α := Int32) (l2 + (-1)) fun v5 =>
  lp_X12_step_7 m c1 n v5 u4)) else (
  xm_chk (xm_in l2 3) (
  xm_chk (xm_in l2 3) (xm_let (w_I u0 182 (Int32.toNatClampNeg l2) ((u0.1 182 (Int32.toNatClampNeg l2)) + (1))) fun u6 =>
  some (.inl ((1), u6)))))))
def fn_X12_step (m : Nat) (x0 : Int32) (u0 : xm_Y) : Option (Int32 × xm_Y) :=
  xm_let (α := Int32) (((u0.1 150 0) - (1))) fun v1 =>
  ((lp_X12_step_7 m x0 m v1 u0).bind (Sum.elim (fun r => some r) (fun q7 =>
  some ((0), q7.2))))
theorem el_X12_step_7 (m : Nat) (c1 : Int32) (K : (Int32 × xm_Y) ⊕ (Int32 × xm_Y) → Option (Int32 × xm_Y)) (hK : ∀ r, K (.inl r) = some r) (kE : ∀ q : Int32 × xm_Y, xs_ (fun x : Int32 => some (.int x)) sg_0 mt_X12_step 47 [none, none, none] [] q.2 0 0 (K (.inr q))) : ∀ (n : Nat) (l2 : Int32) (u0 : xm_Y), xs_ (fun x : Int32 => some (.int x)) sg_0 mt_X12_step 7 [some (.ref 150), some (.int c1), some (.int l2)] [] u0 0 0 ((lp_X12_step_7 m c1 n l2 u0).bind K) := by
  intro n
  induction n with
  | zero =>
    intro l2 u0
    exact xs_none
  | succ n ih =>
    intro l2 u0
    rw [lp_X12_step_7]
    refine xs_iload_n (n := 8) dX12_step_7 rfl rfl ?_
    refine xs_if_lt (n := 11) (tgt := 47) dX12_step_8 rfl rfl (fun hc2 => ?_) (fun hc2 => ?_)
    · exact xs_gf (kE (l2, u0)) trivial
    · refine xs_aload_n (n := 12) dX12_step_11 rfl rfl ?_
      refine ys_getr (n := 15) dX12_step_12 rfl fl_X12_125 sh_150 rfl ?_
      refine xs_iload_n (n := 16) dX12_step_15 rfl rfl ?_
      refine ys_iaload (n := 17) dX12_step_16 rfl sh_182 ?_
      refine xs_iload_n (n := 18) dX12_step_17 rfl rfl ?_
      refine xs_icmp_ge (n := 21) (tgt := 33) dX12_step_18 rfl rfl (fun hc3 => ?_) (fun hc3 => ?_)
      · refine xs_aload_n (n := 34) dX12_step_33 rfl rfl ?_
        refine ys_getr (n := 37) dX12_step_34 rfl fl_X12_125 sh_150 rfl ?_
        refine xs_iload_n (n := 38) dX12_step_37 rfl rfl ?_
        refine xs_iload_n (n := 39) dX12_step_38 rfl rfl ?_
        refine xs_ineg (n := 40) dX12_step_39 rfl ?_
        refine ys_iastore (n := 41) dX12_step_40 rfl sh_182 (fun u4 => ?_)
        refine xs_iincl (n := 44) (dv := (-1)) (fun v5 => [some (.ref 150), some (.int c1), some (.int v5)]) dX12_step_41 rfl rfl rfl (Nat.le_of_ble_eq_true rfl) (fun _ => rfl) (fun v5 => ?_)
        refine xs_goto (n := 7) dX12_step_44 rfl ?_
        exact xs_gf (ih v5 u4) (And.intro rfl (And.intro rfl (And.intro rfl trivial)))
      · refine xs_aload_n (n := 22) dX12_step_21 rfl rfl ?_
        refine ys_getr (n := 25) dX12_step_22 rfl fl_X12_125 sh_150 rfl ?_
        refine xs_iload_n (n := 26) dX12_step_25 rfl rfl ?_
        refine xs_dup2_11 (n := 27) dX12_step_26 rfl rfl rfl ?_
        refine ys_iaload (n := 28) dX12_step_27 rfl sh_182 ?_
        refine xs_iconst (n := 29) (v := (1)) dX12_step_28 rfl rfl ?_
        refine xs_iadd (n := 30) dX12_step_29 rfl ?_
        refine ys_iastore (n := 31) dX12_step_30 rfl sh_182 (fun u6 => ?_)
        refine xs_iconst (n := 32) (v := (1)) dX12_step_31 rfl rfl ?_
        exact xs_zretc dX12_step_32 rfl (Or.inr rfl) (hK _)
theorem en_X12_step (m : Nat) (x0 : Int32) (u0 : xm_Y) : xs_ (fun x : Int32 => some (.int x)) sg_0 mt_X12_step 0 [some (.ref 150), some (.int x0), none] [] u0 0 0 (fn_X12_step m x0 u0) := by
  refine xs_top ?_
  rw [fn_X12_step]
  refine xs_aload_n (n := 1) dX12_step_0 rfl rfl ?_
  refine ys_geti (n := 4) dX12_step_1 rfl fl_X12_7 (Or.inl rfl) sh_150 ?_
  refine xs_iconst (n := 5) (v := (1)) dX12_step_4 rfl rfl ?_
  refine xs_isub (n := 6) dX12_step_5 rfl ?_
  refine xs_leti (fun v1 => ?_)
  refine xs_istore_n (n := 7) (lv' := [some (.ref 150), some (.int x0), some (.int v1)]) dX12_step_6 rfl (Nat.le_of_ble_eq_true rfl) rfl ?_
  refine xs_reg ?_
  refine xs_fg (lv' := [some (.ref 150), some (.int x0), some (.int v1)]) (And.intro rfl (And.intro rfl (And.intro rfl trivial))) ?_
  refine el_X12_step_7 m x0 _ (fun _ => rfl) (fun q7 => ?_) m v1 u0
  refine xs_inr ?_
  refine xs_iconst (n := 48) (v := (0)) dX12_step_47 rfl rfl ?_
  exact xs_zretc dX12_step_48 rfl (Or.inl rfl) rfl
