def lp_X12_doesRank_6 (m : Nat) (c1 : Int32) (c2 : Int32) (c3 : Int32) : Nat → Int32 → Int32 → xm_Y → Option (Int32 × Int32 × xm_Y)
  | 0, _, _, _ => none
  | n + 1, l4, l5, u0 =>
  if (u0.1 150 1) ≤ l5 then (
  some (l4, l5, u0)) else (
  if l4 = 0 then (
  some (l4, l5, u0)) else (
  ((fn_X12_tellsOf m l5 c1 c2 c3 u0).bind fun q3 =>
  ((if q3.1 < (6 : Int32) then (
  some ((0 : Int32))) else (
  some ((1 : Int32))) : Option (Int32)).bind fun q4 =>
  xm_let (α := Int32) (l5 + (1 : Int32)) fun v7 =>
  lp_X12_doesRank_6 m c1 c2 c3 n q4 v7 q3.2))))
def fn_X12_doesRank (m : Nat) (x0 : Int32) (x1 : Int32) (x2 : Int32) (u0 : xm_Y) : Option (Int32 × xm_Y) :=
  ((lp_X12_doesRank_6 m x0 x1 x2 m (1 : Int32) (0 : Int32) u0).bind fun q8 =>
  xm_chk (q8.1 = 0 ∨ q8.1 = 1) (some (q8.1, q8.2.2)))
theorem el_X12_doesRank_6 (m : Nat) (c1 : Int32) (c2 : Int32) (c3 : Int32) (K : Int32 × Int32 × xm_Y → Option (Int32 × xm_Y)) (kE : ∀ q : Int32 × Int32 × xm_Y, xs_ (fun x : Int32 => some (.int x)) sg_0 mt_X12_doesRank 47 [none, none, none, none, some (.int q.1), none] [] q.2.2 0 0 (K q)) : ∀ (n : Nat) (l4 : Int32) (l5 : Int32) (u0 : xm_Y), xs_ (fun x : Int32 => some (.int x)) sg_0 mt_X12_doesRank 6 [some (.ref 150), some (.int c1), some (.int c2), some (.int c3), some (.int l4), some (.int l5)] [] u0 0 0 ((lp_X12_doesRank_6 m c1 c2 c3 n l4 l5 u0).bind K) := by
  intro n
  induction n with
  | zero =>
    intro l4 l5 u0
    exact xs_none
  | succ n ih =>
    intro l4 l5 u0
    rw [lp_X12_doesRank_6]
    refine xs_iload (n := 8) dX12_doesRank_6 rfl rfl ?_
    refine xs_aload_n (n := 9) dX12_doesRank_8 rfl rfl ?_
    refine ys_geti (n := 12) dX12_doesRank_9 rfl fl_X12_135 (Or.inl rfl) sh_150 ?_
    refine xs_icmp_ge (n := 15) (tgt := 47) dX12_doesRank_12 rfl rfl (fun hc1 => ?_) (fun hc1 => ?_)
    · exact xs_gf (xs_end (kE (l4, l5, u0))) (And.intro rfl trivial)
    · refine xs_iload (n := 17) dX12_doesRank_15 rfl rfl ?_
      refine xs_if_eq (n := 20) (tgt := 47) dX12_doesRank_17 rfl rfl (fun hc2 => ?_) (fun hc2 => ?_)
      · exact xs_gf (xs_end (kE (l4, l5, u0))) (And.intro rfl trivial)
      · refine xs_aload_n (n := 21) dX12_doesRank_20 rfl rfl ?_
        refine xs_iload (n := 23) dX12_doesRank_21 rfl rfl ?_
        refine xs_iload_n (n := 24) dX12_doesRank_23 rfl rfl ?_
        refine xs_iload_n (n := 25) dX12_doesRank_24 rfl rfl ?_
        refine xs_iload_n (n := 26) dX12_doesRank_25 rfl rfl ?_
        refine ys_callvi (n := 29) (N := mt_X12_tellsOf) dX12_doesRank_26 rfl ok_X12_tellsOf tw_1112 im_X12_tellsOf se_X12_tellsOf ⟨Nat.le_of_ble_eq_true rfl, Nat.le_of_ble_eq_true rfl⟩ [.int l5, .int c1, .int c2, .int c3] [] rfl rfl (Nat.le_of_ble_eq_true rfl) rfl (Nat.le_of_ble_eq_true rfl) (en_X12_tellsOf m l5 c1 c2 c3 u0) sh_150 (by decide) rfl (fun q3 => ?_)
        refine xs_bipush (n := 31) (v := (6 : Int32)) dX12_doesRank_29 rfl rfl ?_
        refine xs_join 39 (fun q4 => [some (.ref 150), some (.int c1), some (.int c2), some (.int c3), none, some (.int l5)]) (fun q4 => [.int q4]) (fun q4 => q3.2) (fun q4 => ?_) (fun kj5 => ?_)
        · refine xs_istore (n := 41) (lv' := [some (.ref 150), some (.int c1), some (.int c2), some (.int c3), some (.int q4), some (.int l5)]) dX12_doesRank_39 rfl (Nat.le_of_ble_eq_true rfl) rfl ?_
          refine xs_iincl (n := 44) (dv := (1 : Int32)) (fun v7 => [some (.ref 150), some (.int c1), some (.int c2), some (.int c3), some (.int q4), some (.int v7)]) dX12_doesRank_41 rfl rfl rfl (Nat.le_of_ble_eq_true rfl) (fun _ => rfl) (fun v7 => ?_)
          refine xs_goto (n := 6) dX12_doesRank_44 rfl ?_
          exact xs_gf (ih q4 v7 q3.2) (And.intro rfl (And.intro rfl (And.intro rfl (And.intro rfl (And.intro rfl (And.intro rfl trivial))))))
        · refine xs_icmp_lt (n := 34) (tgt := 38) dX12_doesRank_31 rfl rfl (fun hc6 => ?_) (fun hc6 => ?_)
          · refine xs_iconst (n := 39) (v := (0 : Int32)) dX12_doesRank_38 rfl rfl ?_
            exact xs_gf (xs_end (kj5 ((0 : Int32)))) (And.intro rfl (And.intro rfl (And.intro rfl (And.intro rfl (And.intro rfl trivial)))))
          · refine xs_iconst (n := 35) (v := (1 : Int32)) dX12_doesRank_34 rfl rfl ?_
            refine xs_goto (n := 39) dX12_doesRank_35 rfl ?_
            exact xs_gf (xs_end (kj5 ((1 : Int32)))) (And.intro rfl (And.intro rfl (And.intro rfl (And.intro rfl (And.intro rfl trivial)))))
theorem en_X12_doesRank (m : Nat) (x0 : Int32) (x1 : Int32) (x2 : Int32) (u0 : xm_Y) : xs_ (fun x : Int32 => some (.int x)) sg_0 mt_X12_doesRank 0 [some (.ref 150), some (.int x0), some (.int x1), some (.int x2), none, none] [] u0 0 0 (fn_X12_doesRank m x0 x1 x2 u0) := by
  refine xs_top ?_
  rw [fn_X12_doesRank]
  refine xs_iconst (n := 1) (v := (1 : Int32)) dX12_doesRank_0 rfl rfl ?_
  refine xs_istore (n := 3) (lv' := [some (.ref 150), some (.int x0), some (.int x1), some (.int x2), some (.int (1 : Int32)), none]) dX12_doesRank_1 rfl (Nat.le_of_ble_eq_true rfl) rfl ?_
  refine xs_iconst (n := 4) (v := (0 : Int32)) dX12_doesRank_3 rfl rfl ?_
  refine xs_istore (n := 6) (lv' := [some (.ref 150), some (.int x0), some (.int x1), some (.int x2), some (.int (1 : Int32)), some (.int (0 : Int32))]) dX12_doesRank_4 rfl (Nat.le_of_ble_eq_true rfl) rfl ?_
  refine xs_reg ?_
  refine xs_fg (lv' := [some (.ref 150), some (.int x0), some (.int x1), some (.int x2), some (.int (1 : Int32)), some (.int (0 : Int32))]) (And.intro rfl (And.intro rfl (And.intro rfl (And.intro rfl (And.intro rfl (And.intro rfl trivial)))))) ?_
  refine el_X12_doesRank_6 m x0 x1 x2 _ (fun q8 => ?_) m (1 : Int32) (0 : Int32) u0
  refine xs_iload (n := 49) dX12_doesRank_47 rfl rfl ?_
  exact xs_zret dX12_doesRank_49 rfl rfl
def fn_X12_ranks (m : Nat) (x0 : Int32) (x1 : Int32) (x2 : Int32) (u0 : xm_Y) : Option (Int32 × xm_Y) :=
  ((fn_X12_isSum m x0 x1 x2 u0).bind fun q1 =>
  ((if q1.1 = 0 then (
  some ((-1 : Int32), q1.2)) else (
  ((fn_X12_doesRank m x0 x1 x2 q1.2).bind fun q5 =>
  if q5.1 = 0 then (
  some ((0 : Int32), q5.2)) else (
  some ((1 : Int32), q5.2)))) : Option (Int32 × xm_Y)).bind fun q2 =>
  some (q2.1, q2.2)))
theorem en_X12_ranks (m : Nat) (x0 : Int32) (x1 : Int32) (x2 : Int32) (u0 : xm_Y) : xs_ (fun x : Int32 => some (.int x)) sg_0 mt_X12_ranks 0 [some (.ref 150), some (.int x0), some (.int x1), some (.int x2)] [] u0 0 0 (fn_X12_ranks m x0 x1 x2 u0) := by
  refine xs_top ?_
  rw [fn_X12_ranks]
  refine xs_aload_n (n := 1) dX12_ranks_0 rfl rfl ?_
  refine xs_iload_n (n := 2) dX12_ranks_1 rfl rfl ?_
  refine xs_iload_n (n := 3) dX12_ranks_2 rfl rfl ?_
  refine xs_iload_n (n := 4) dX12_ranks_3 rfl rfl ?_
  refine ys_callvi (n := 7) (N := mt_X12_isSum) dX12_ranks_4 rfl ok_X12_isSum tw_1104 im_X12_isSum se_X12_isSum ⟨Nat.le_of_ble_eq_true rfl, Nat.le_of_ble_eq_true rfl⟩ [.int x0, .int x1, .int x2] [] rfl rfl (Nat.le_of_ble_eq_true rfl) rfl (Nat.le_of_ble_eq_true rfl) (en_X12_isSum m x0 x1 x2 u0) sh_150 (by decide) rfl (fun q1 => ?_)
  refine xs_join 29 (fun q2 => [none, none, none, none]) (fun q2 => [.int q2.1]) (fun q2 => q2.2) (fun q2 => ?_) (fun kj3 => ?_)
  · exact xs_iret dX12_ranks_29 rfl rfl
  · refine xs_if_eq (n := 10) (tgt := 28) dX12_ranks_7 rfl rfl (fun hc4 => ?_) (fun hc4 => ?_)
    · refine xs_iconst (n := 29) (v := (-1 : Int32)) dX12_ranks_28 rfl rfl ?_
      exact xs_gf (xs_end (kj3 ((-1 : Int32), q1.2))) trivial
    · refine xs_aload_n (n := 11) dX12_ranks_10 rfl rfl ?_
      refine xs_iload_n (n := 12) dX12_ranks_11 rfl rfl ?_
      refine xs_iload_n (n := 13) dX12_ranks_12 rfl rfl ?_
      refine xs_iload_n (n := 14) dX12_ranks_13 rfl rfl ?_
      refine ys_callvi (n := 17) (N := mt_X12_doesRank) dX12_ranks_14 rfl ok_X12_doesRank tw_1108 im_X12_doesRank se_X12_doesRank ⟨Nat.le_of_ble_eq_true rfl, Nat.le_of_ble_eq_true rfl⟩ [.int x0, .int x1, .int x2] [] rfl rfl (Nat.le_of_ble_eq_true rfl) rfl (Nat.le_of_ble_eq_true rfl) (en_X12_doesRank m x0 x1 x2 q1.2) sh_150 (by decide) rfl (fun q5 => ?_)
      refine xs_if_eq (n := 20) (tgt := 24) dX12_ranks_17 rfl rfl (fun hc6 => ?_) (fun hc6 => ?_)
      · refine xs_iconst (n := 25) (v := (0 : Int32)) dX12_ranks_24 rfl rfl ?_
        refine xs_goto (n := 29) dX12_ranks_25 rfl ?_
        exact xs_gf (xs_end (kj3 ((0 : Int32), q5.2))) trivial
      · refine xs_iconst (n := 21) (v := (1 : Int32)) dX12_ranks_20 rfl rfl ?_
        refine xs_goto (n := 29) dX12_ranks_21 rfl ?_
        exact xs_gf (xs_end (kj3 ((1 : Int32), q5.2))) trivial
def fn_X12_tells (m : Nat) (x0 : Int32) (x1 : Int32) (x2 : Int32) (x3 : Int32) (u0 : xm_Y) : Option (Int32 × xm_Y) :=
  ((fn_X12_isBody m x0 u0).bind fun q1 =>
  ((if q1.1 = 0 then (
  some ((-1 : Int32), q1.2)) else (
  ((fn_X12_isSum m x1 x2 x3 q1.2).bind fun q5 =>
  if q5.1 = 0 then (
  some ((-1 : Int32), q5.2)) else (
  ((fn_X12_tellsOf m x0 x1 x2 x3 q5.2).bind fun q7 =>
  some (q7.1, q7.2))))) : Option (Int32 × xm_Y)).bind fun q2 =>
  some (q2.1, q2.2)))
theorem en_X12_tells (m : Nat) (x0 : Int32) (x1 : Int32) (x2 : Int32) (x3 : Int32) (u0 : xm_Y) : xs_ (fun x : Int32 => some (.int x)) sg_0 mt_X12_tells 0 [some (.ref 150), some (.int x0), some (.int x1), some (.int x2), some (.int x3)] [] u0 0 0 (fn_X12_tells m x0 x1 x2 x3 u0) := by
  refine xs_top ?_
  rw [fn_X12_tells]
  refine xs_aload_n (n := 1) dX12_tells_0 rfl rfl ?_
  refine xs_iload_n (n := 2) dX12_tells_1 rfl rfl ?_
  refine ys_callvi (n := 5) (N := mt_X12_isBody) dX12_tells_2 rfl ok_X12_isBody tw_1031 im_X12_isBody se_X12_isBody ⟨Nat.le_of_ble_eq_true rfl, Nat.le_of_ble_eq_true rfl⟩ [.int x0] [] rfl rfl (Nat.le_of_ble_eq_true rfl) rfl (Nat.le_of_ble_eq_true rfl) (en_X12_isBody m x0 u0) sh_150 (by decide) rfl (fun q1 => ?_)
  refine xs_join 32 (fun q2 => [none, none, none, none, none]) (fun q2 => [.int q2.1]) (fun q2 => q2.2) (fun q2 => ?_) (fun kj3 => ?_)
  · exact xs_iret dX12_tells_32 rfl rfl
  · refine xs_if_eq (n := 8) (tgt := 31) dX12_tells_5 rfl rfl (fun hc4 => ?_) (fun hc4 => ?_)
    · refine xs_iconst (n := 32) (v := (-1 : Int32)) dX12_tells_31 rfl rfl ?_
      exact xs_gf (xs_end (kj3 ((-1 : Int32), q1.2))) trivial
    · refine xs_aload_n (n := 9) dX12_tells_8 rfl rfl ?_
      refine xs_iload_n (n := 10) dX12_tells_9 rfl rfl ?_
      refine xs_iload_n (n := 11) dX12_tells_10 rfl rfl ?_
      refine xs_iload (n := 13) dX12_tells_11 rfl rfl ?_
      refine ys_callvi (n := 16) (N := mt_X12_isSum) dX12_tells_13 rfl ok_X12_isSum tw_1104 im_X12_isSum se_X12_isSum ⟨Nat.le_of_ble_eq_true rfl, Nat.le_of_ble_eq_true rfl⟩ [.int x1, .int x2, .int x3] [] rfl rfl (Nat.le_of_ble_eq_true rfl) rfl (Nat.le_of_ble_eq_true rfl) (en_X12_isSum m x1 x2 x3 q1.2) sh_150 (by decide) rfl (fun q5 => ?_)
      refine xs_if_eq (n := 19) (tgt := 31) dX12_tells_16 rfl rfl (fun hc6 => ?_) (fun hc6 => ?_)
      · refine xs_iconst (n := 32) (v := (-1 : Int32)) dX12_tells_31 rfl rfl ?_
        exact xs_gf (xs_end (kj3 ((-1 : Int32), q5.2))) trivial
      · refine xs_aload_n (n := 20) dX12_tells_19 rfl rfl ?_
        refine xs_iload_n (n := 21) dX12_tells_20 rfl rfl ?_
        refine xs_iload_n (n := 22) dX12_tells_21 rfl rfl ?_
        refine xs_iload_n (n := 23) dX12_tells_22 rfl rfl ?_
        refine xs_iload (n := 25) dX12_tells_23 rfl rfl ?_
        refine ys_callvi (n := 28) (N := mt_X12_tellsOf) dX12_tells_25 rfl ok_X12_tellsOf tw_1112 im_X12_tellsOf se_X12_tellsOf ⟨Nat.le_of_ble_eq_true rfl, Nat.le_of_ble_eq_true rfl⟩ [.int x0, .int x1, .int x2, .int x3] [] rfl rfl (Nat.le_of_ble_eq_true rfl) rfl (Nat.le_of_ble_eq_true rfl) (en_X12_tellsOf m x0 x1 x2 x3 q5.2) sh_150 (by decide) rfl (fun q7 => ?_)
        refine xs_goto (n := 32) dX12_tells_28 rfl ?_
        exact xs_gf (xs_end (kj3 (q7.1, q7.2))) trivial
def lp_X12_floorOf_9 (m : Nat) (c1 : Int32) (c2 : Int32) (c3 : Int32) : Nat → Int64 → Int32 → Int32 → xm_Y → Option (Int64 × Int32 × Int32 × xm_Y)
  | 0, _, _, _, _ => none
  | n + 1, l4, l6, l7, u0 =>
  if (u0.1 150 1) ≤ l7 then (
  some (l4, l6, l7, u0)) else (
  ((fn_X12_laySides m l7 u0).bind fun q2 =>
  ((if (q2.2.1 150 17) = 0 then (
  xm_chk (xm_in (0 : Int32) 3) (xm_let (w_J q2.2 181 (Int32.toNatClampNeg (0 : Int32)) (Int32.toInt64 c1)) fun u6 =>
  xm_chk (xm_in (1 : Int32) 3) (xm_let (w_J u6 181 (Int32.toNatClampNeg (1 : Int32)) (Int32.toInt64 c2)) fun u7 =>
  xm_chk (xm_in (2 : Int32) 3) (xm_let (w_J u7 181 (Int32.toNatClampNeg (2 : Int32)) (Int32.toInt64 c3)) fun u8 =>
  ((fn_X12_findLeast m u8).bind fun q9 =>
  ((fn_J9_floorDiv_f86c9 m (((q9.2.2 150 13) * (1000000 : Int64)) + (q9.2.2 150 14)) (q9.2.2 150 15) q9.2).bind fun q10 =>
  ((if l6 = 0 then (
  some (q10.1)) else (
  if l4 ≤ q10.1 then (
  some (l4)) else (
  some (q10.1))) : Option (Int64)).bind fun q11 =>
  some (q11, (1 : Int32), q10.2)))))))) else (
  some (l4, l6, q2.2)) : Option (Int64 × Int32 × xm_Y)).bind fun q3 =>
  xm_let (α := Int32) (l7 + (1 : Int32)) fun v15 =>
  lp_X12_floorOf_9 m c1 c2 c3 n q3.1 q3.2.1 v15 q3.2.2)))
def fn_X12_floorOf (m : Nat) (x0 : Int32) (x1 : Int32) (x2 : Int32) (u0 : xm_Y) : Option (Int64 × xm_Y) :=
  ((lp_X12_floorOf_9 m x0 x1 x2 m (0 : Int64) (0 : Int32) (0 : Int32) u0).bind fun q16 =>
  some (q16.1, q16.2.2.2))
theorem el_X12_floorOf_9 (m : Nat) (c1 : Int32) (c2 : Int32) (c3 : Int32) (K : Int64 × Int32 × Int32 × xm_Y → Option (Int64 × xm_Y)) (kE : ∀ q : Int64 × Int32 × Int32 × xm_Y, xs_ (fun x : Int64 => some (.long x)) sg_0 mt_X12_floorOf 115 [none, none, none, none, some (.long q.1), none, none, none, none, none] [] q.2.2.2 0 0 (K q)) : ∀ (n : Nat) (l4 : Int64) (l6 : Int32) (l7 : Int32) (u0 : xm_Y), xs_ (fun x : Int64 => some (.long x)) sg_0 mt_X12_floorOf 9 [some (.ref 150), some (.int c1), some (.int c2), some (.int c3), some (.long l4), none, some (.int l6), some (.int l7), none, none] [] u0 0 0 ((lp_X12_floorOf_9 m c1 c2 c3 n l4 l6 l7 u0).bind K) := by
  intro n
  induction n with
  | zero =>
    intro l4 l6 l7 u0
    exact xs_none
  | succ n ih =>
    intro l4 l6 l7 u0
    rw [lp_X12_floorOf_9]
    refine xs_iload (n := 11) dX12_floorOf_9 rfl rfl ?_
    refine xs_aload_n (n := 12) dX12_floorOf_11 rfl rfl ?_
    refine ys_geti (n := 15) dX12_floorOf_12 rfl fl_X12_135 (Or.inl rfl) sh_150 ?_
    refine xs_icmp_ge (n := 18) (tgt := 115) dX12_floorOf_15 rfl rfl (fun hc1 => ?_) (fun hc1 => ?_)
    · exact xs_gf (xs_end (kE (l4, l6, l7, u0))) (And.intro rfl trivial)
    · refine xs_aload_n (n := 19) dX12_floorOf_18 rfl rfl ?_
      refine xs_iload (n := 21) dX12_floorOf_19 rfl rfl ?_
      refine ys_callvv (n := 24) (N := mt_X12_laySides) dX12_floorOf_21 rfl ok_X12_laySides tw_1116 im_X12_laySides se_X12_laySides ⟨Nat.le_of_ble_eq_true rfl, Nat.le_of_ble_eq_true rfl⟩ [.int l7] [] rfl rfl (Nat.le_of_ble_eq_true rfl) rfl (Nat.le_of_ble_eq_true rfl) (en_X12_laySides m l7 u0) sh_150 (by decide) rfl (fun q2 => ?_)
      refine xs_aload_n (n := 25) dX12_floorOf_24 rfl rfl ?_
      refine ys_geti (n := 28) dX12_floorOf_25 rfl fl_X12_194 (Or.inr rfl) sh_150 ?_
      refine xs_join 109 (fun q3 => [some (.ref 150), some (.int c1), some (.int c2), some (.int c3), some (.long q3.1), none, some (.int q3.2.1), some (.int l7), none, none]) (fun q3 => []) (fun q3 => q3.2.2) (fun q3 => ?_) (fun kj4 => ?_)
      · refine xs_iincl (n := 112) (dv := (1 : Int32)) (fun v15 => [some (.ref 150), some (.int c1), some (.int c2), some (.int c3), some (.long q3.1), none, some (.int q3.2.1), some (.int v15), none, none]) dX12_floorOf_109 rfl rfl rfl (Nat.le_of_ble_eq_true rfl) (fun _ => rfl) (fun v15 => ?_)
        refine xs_goto (n := 9) dX12_floorOf_112 rfl ?_
        exact xs_gf (ih q3.1 q3.2.1 v15 q3.2.2) (And.intro rfl (And.intro rfl (And.intro rfl (And.intro rfl (And.intro rfl (And.intro rfl (And.intro rfl trivial)))))))
      · refine xs_if_eq (n := 31) (tgt := 34) dX12_floorOf_28 rfl rfl (fun hc5 => ?_) (fun hc5 => ?_)
        · refine xs_aload_n (n := 35) dX12_floorOf_34 rfl rfl ?_
          refine ys_getr (n := 38) dX12_floorOf_35 rfl fl_X12_122 sh_150 rfl ?_
          refine xs_iconst (n := 39) (v := (0 : Int32)) dX12_floorOf_38 rfl rfl ?_
          refine xs_iload_n (n := 40) dX12_floorOf_39 rfl rfl ?_
          refine xs_i2l (n := 41) dX12_floorOf_40 rfl ?_
          refine ys_lastore (n := 42) dX12_floorOf_41 rfl sh_181 (fun u6 => ?_)
          refine xs_aload_n (n := 43) dX12_floorOf_42 rfl rfl ?_
          refine ys_getr (n := 46) dX12_floorOf_43 rfl fl_X12_122 sh_150 rfl ?_
          refine xs_iconst (n := 47) (v := (1 : Int32)) dX12_floorOf_46 rfl rfl ?_
          refine xs_iload_n (n := 48) dX12_floorOf_47 rfl rfl ?_
          refine xs_i2l (n := 49) dX12_floorOf_48 rfl ?_
          refine ys_lastore (n := 50) dX12_floorOf_49 rfl sh_181 (fun u7 => ?_)
          refine xs_aload_n (n := 51) dX12_floorOf_50 rfl rfl ?_
          refine ys_getr (n := 54) dX12_floorOf_51 rfl fl_X12_122 sh_150 rfl ?_
          refine xs_iconst (n := 55) (v := (2 : Int32)) dX12_floorOf_54 rfl rfl ?_
          refine xs_iload_n (n := 56) dX12_floorOf_55 rfl rfl ?_
          refine xs_i2l (n := 57) dX12_floorOf_56 rfl ?_
          refine ys_lastore (n := 58) dX12_floorOf_57 rfl sh_181 (fun u8 => ?_)
          refine xs_aload_n (n := 59) dX12_floorOf_58 rfl rfl ?_
          refine ys_callvv (n := 62) (N := mt_X12_findLeast) dX12_floorOf_59 rfl ok_X12_findLeast tw_1158 im_X12_findLeast se_X12_findLeast ⟨Nat.le_of_ble_eq_true rfl, Nat.le_of_ble_eq_true rfl⟩ [] [] rfl rfl (Nat.le_of_ble_eq_true rfl) rfl (Nat.le_of_ble_eq_true rfl) (en_X12_findLeast m u8) sh_150 (by decide) rfl (fun q9 => ?_)
          refine xs_aload_n (n := 63) dX12_floorOf_62 rfl rfl ?_
          refine ys_getl (n := 66) dX12_floorOf_63 rfl fl_X12_243 sh_150 ?_
          refine xs_ldc2 (n := 69) (v := (1000000 : Int64)) dX12_floorOf_66 rfl tw_1174 ?_
          refine xs_lmul (n := 70) dX12_floorOf_69 rfl ?_
          refine xs_aload_n (n := 71) dX12_floorOf_70 rfl rfl ?_
          refine ys_getl (n := 74) dX12_floorOf_71 rfl fl_X12_247 sh_150 ?_
          refine xs_ladd (n := 75) dX12_floorOf_74 rfl ?_
          refine xs_aload_n (n := 76) dX12_floorOf_75 rfl rfl ?_
          refine ys_getl (n := 79) dX12_floorOf_76 rfl fl_X12_250 sh_150 ?_
          refine ys_callsl (n := 82) (N := mt_J9_floorDiv_f86c9) dX12_floorOf_79 rfl ok_J9_floorDiv_f86c9 tw_1175 st_J9_floorDiv_f86c9 ⟨Nat.le_of_ble_eq_true rfl, Nat.le_of_ble_eq_true rfl⟩ [.long (((q9.2.2 150 13) * (1000000 : Int64)) + (q9.2.2 150 14)), .long (q9.2.2 150 15)] [] rfl rfl (Nat.le_of_ble_eq_true rfl) rfl (Nat.le_of_ble_eq_true rfl) (en_J9_floorDiv_f86c9 m (((q9.2.2 150 13) * (1000000 : Int64)) + (q9.2.2 150 14)) (q9.2.2 150 15) q9.2) (fun q10 => ?_)
          refine xs_lstore (n := 84) (lv' := [some (.ref 150), some (.int c1), some (.int c2), some (.int c3), some (.long l4), none, some (.int l6), some (.int l7), some (.long q10.1), none]) dX12_floorOf_82 rfl (Nat.le_of_ble_eq_true rfl) rfl ?_
          refine xs_iload (n := 86) dX12_floorOf_84 rfl rfl ?_
          refine xs_join 104 (fun q11 => [some (.ref 150), some (.int c1), some (.int c2), some (.int c3), none, none, none, some (.int l7), none, none]) (fun q11 => [.long q11]) (fun q11 => q10.2) (fun q11 => ?_) (fun kj12 => ?_)
          · refine xs_lstore (n := 106) (lv' := [some (.ref 150), some (.int c1), some (.int c2), some (.int c3), some (.long q11), none, none, some (.int l7), none, none]) dX12_floorOf_104 rfl (Nat.le_of_ble_eq_true rfl) rfl ?_
            refine xs_iconst (n := 107) (v := (1 : Int32)) dX12_floorOf_106 rfl rfl ?_
            refine xs_istore (n := 109) (lv' := [some (.ref 150), some (.int c1), some (.int c2), some (.int c3), some (.long q11), none, some (.int (1 : Int32)), some (.int l7), none, none]) dX12_floorOf_107 rfl (Nat.le_of_ble_eq_true rfl) rfl ?_
            exact xs_gf (xs_end (kj4 (q11, (1 : Int32), q10.2))) (And.intro rfl (And.intro rfl (And.intro rfl (And.intro rfl (And.intro rfl (And.intro rfl (And.intro rfl trivial)))))))
          · refine xs_if_eq (n := 89) (tgt := 97) dX12_floorOf_86 rfl rfl (fun hc13 => ?_) (fun hc13 => ?_)
            · refine xs_lload (n := 99) dX12_floorOf_97 rfl rfl ?_
              refine xs_goto (n := 104) dX12_floorOf_99 rfl ?_
              exact xs_gf (xs_end (kj12 (q10.1))) (And.intro rfl (And.intro rfl (And.intro rfl (And.intro rfl (And.intro rfl trivial)))))
            · refine xs_lload (n := 91) dX12_floorOf_89 rfl rfl ?_
              refine xs_lload (n := 93) dX12_floorOf_91 rfl rfl ?_
              refine xs_lif_ge (n := 97) (pc1 := 94) (tgt := 102) dX12_floorOf_93 rfl dX12_floorOf_94 rfl rfl (fun hc14 => ?_) (fun hc14 => ?_)
              · refine xs_lload (n := 104) dX12_floorOf_102 rfl rfl ?_
                exact xs_gf (xs_end (kj12 (l4))) (And.intro rfl (And.intro rfl (And.intro rfl (And.intro rfl (And.intro rfl trivial)))))
              · refine xs_lload (n := 99) dX12_floorOf_97 rfl rfl ?_
                refine xs_goto (n := 104) dX12_floorOf_99 rfl ?_
                exact xs_gf (xs_end (kj12 (q10.1))) (And.intro rfl (And.intro rfl (And.intro rfl (And.intro rfl (And.intro rfl trivial)))))
        · refine xs_goto (n := 109) dX12_floorOf_31 rfl ?_
          exact xs_gf (xs_end (kj4 (l4, l6, q2.2))) (And.intro rfl (And.intro rfl (And.intro rfl (And.intro rfl (And.intro rfl (And.intro rfl (And.intro rfl trivial)))))))
theorem en_X12_floorOf (m : Nat) (x0 : Int32) (x1 : Int32) (x2 : Int32) (u0 : xm_Y) : xs_ (fun x : Int64 => some (.long x)) sg_0 mt_X12_floorOf 0 [some (.ref 150), some (.int x0), some (.int x1), some (.int x2), none, none, none, none, none, none] [] u0 0 0 (fn_X12_floorOf m x0 x1 x2 u0) := by
  refine xs_top ?_
  rw [fn_X12_floorOf]
  refine xs_lconst (n := 1) (v := (0 : Int64)) dX12_floorOf_0 rfl rfl ?_
  refine xs_lstore (n := 3) (lv' := [some (.ref 150), some (.int x0), some (.int x1), some (.int x2), some (.long (0 : Int64)), none, none, none, none, none]) dX12_floorOf_1 rfl (Nat.le_of_ble_eq_true rfl) rfl ?_
  refine xs_iconst (n := 4) (v := (0 : Int32)) dX12_floorOf_3 rfl rfl ?_
  refine xs_istore (n := 6) (lv' := [some (.ref 150), some (.int x0), some (.int x1), some (.int x2), some (.long (0 : Int64)), none, some (.int (0 : Int32)), none, none, none]) dX12_floorOf_4 rfl (Nat.le_of_ble_eq_true rfl) rfl ?_
  refine xs_iconst (n := 7) (v := (0 : Int32)) dX12_floorOf_6 rfl rfl ?_
  refine xs_istore (n := 9) (lv' := [some (.ref 150), some (.int x0), some (.int x1), some (.int x2), some (.long (0 : Int64)), none, some (.int (0 : Int32)), some (.int (0 : Int32)), none, none]) dX12_floorOf_7 rfl (Nat.le_of_ble_eq_true rfl) rfl ?_
  refine xs_reg ?_
  refine xs_fg (lv' := [some (.ref 150), some (.int x0), some (.int x1), some (.int x2), some (.long (0 : Int64)), none, some (.int (0 : Int32)), some (.int (0 : Int32)), none, none]) (And.intro rfl (And.intro rfl (And.intro rfl (And.intro rfl (And.intro rfl (And.intro rfl (And.intro rfl trivial))))))) ?_
  refine el_X12_floorOf_9 m x0 x1 x2 _ (fun q16 => ?_) m (0 : Int64) (0 : Int32) (0 : Int32) u0
  refine xs_lload (n := 117) dX12_floorOf_115 rfl rfl ?_
  exact xs_lret dX12_floorOf_117 rfl rfl
def fn_X12_floor (m : Nat) (x0 : Int32) (x1 : Int32) (x2 : Int32) (u0 : xm_Y) : Option (Int64 × xm_Y) :=
  ((fn_X12_isSum m x0 x1 x2 u0).bind fun q1 =>
  ((if q1.1 = 0 then (
  some ((-9000000000000000 : Int64), q1.2)) else (
  ((fn_X12_doesRank m x0 x1 x2 q1.2).bind fun q5 =>
  if q5.1 = 0 then (
  some ((-9000000000000000 : Int64), q5.2)) else (
  ((fn_X12_floorOf m x0 x1 x2 q5.2).bind fun q7 =>
  some (q7.1, q7.2))))) : Option (Int64 × xm_Y)).bind fun q2 =>
  some (q2.1, q2.2)))
theorem en_X12_floor (m : Nat) (x0 : Int32) (x1 : Int32) (x2 : Int32) (u0 : xm_Y) : xs_ (fun x : Int64 => some (.long x)) sg_0 mt_X12_floor 0 [some (.ref 150), some (.int x0), some (.int x1), some (.int x2)] [] u0 0 0 (fn_X12_floor m x0 x1 x2 u0) := by
  refine xs_top ?_
  rw [fn_X12_floor]
  refine xs_aload_n (n := 1) dX12_floor_0 rfl rfl ?_
  refine xs_iload_n (n := 2) dX12_floor_1 rfl rfl ?_
  refine xs_iload_n (n := 3) dX12_floor_2 rfl rfl ?_
  refine xs_iload_n (n := 4) dX12_floor_3 rfl rfl ?_
  refine ys_callvi (n := 7) (N := mt_X12_isSum) dX12_floor_4 rfl ok_X12_isSum tw_1104 im_X12_isSum se_X12_isSum ⟨Nat.le_of_ble_eq_true rfl, Nat.le_of_ble_eq_true rfl⟩ [.int x0, .int x1, .int x2] [] rfl rfl (Nat.le_of_ble_eq_true rfl) rfl (Nat.le_of_ble_eq_true rfl) (en_X12_isSum m x0 x1 x2 u0) sh_150 (by decide) rfl (fun q1 => ?_)
  refine xs_join 33 (fun q2 => [none, none, none, none]) (fun q2 => [.long q2.1]) (fun q2 => q2.2) (fun q2 => ?_) (fun kj3 => ?_)
  · exact xs_lret dX12_floor_33 rfl rfl
  · refine xs_if_eq (n := 10) (tgt := 30) dX12_floor_7 rfl rfl (fun hc4 => ?_) (fun hc4 => ?_)
    · refine xs_ldc2 (n := 33) (v := (-9000000000000000 : Int64)) dX12_floor_30 rfl tw_1206 ?_
      exact xs_gf (xs_end (kj3 ((-9000000000000000 : Int64), q1.2))) trivial
    · refine xs_aload_n (n := 11) dX12_floor_10 rfl rfl ?_
      refine xs_iload_n (n := 12) dX12_floor_11 rfl rfl ?_
      refine xs_iload_n (n := 13) dX12_floor_12 rfl rfl ?_
      refine xs_iload_n (n := 14) dX12_floor_13 rfl rfl ?_
      refine ys_callvi (n := 17) (N := mt_X12_doesRank) dX12_floor_14 rfl ok_X12_doesRank tw_1108 im_X12_doesRank se_X12_doesRank ⟨Nat.le_of_ble_eq_true rfl, Nat.le_of_ble_eq_true rfl⟩ [.int x0, .int x1, .int x2] [] rfl rfl (Nat.le_of_ble_eq_true rfl) rfl (Nat.le_of_ble_eq_true rfl) (en_X12_doesRank m x0 x1 x2 q1.2) sh_150 (by decide) rfl (fun q5 => ?_)
      refine xs_if_eq (n := 20) (tgt := 30) dX12_floor_17 rfl rfl (fun hc6 => ?_) (fun hc6 => ?_)
      · refine xs_ldc2 (n := 33) (v := (-9000000000000000 : Int64)) dX12_floor_30 rfl tw_1206 ?_
        exact xs_gf (xs_end (kj3 ((-9000000000000000 : Int64), q5.2))) trivial
      · refine xs_aload_n (n := 21) dX12_floor_20 rfl rfl ?_
        refine xs_iload_n (n := 22) dX12_floor_21 rfl rfl ?_
        refine xs_iload_n (n := 23) dX12_floor_22 rfl rfl ?_
        refine xs_iload_n (n := 24) dX12_floor_23 rfl rfl ?_
        refine ys_callvl (n := 27) (N := mt_X12_floorOf) dX12_floor_24 rfl ok_X12_floorOf tw_1202 im_X12_floorOf se_X12_floorOf ⟨Nat.le_of_ble_eq_true rfl, Nat.le_of_ble_eq_true rfl⟩ [.int x0, .int x1, .int x2] [] rfl rfl (Nat.le_of_ble_eq_true rfl) rfl (Nat.le_of_ble_eq_true rfl) (en_X12_floorOf m x0 x1 x2 q5.2) sh_150 (by decide) rfl (fun q7 => ?_)
        refine xs_goto (n := 33) dX12_floor_27 rfl ?_
        exact xs_gf (xs_end (kj3 (q7.1, q7.2))) trivial
def lp_X12_step_7 (m : Nat) (c1 : Int32) : Nat → Int32 → xm_Y → Option ((Int32 × xm_Y) ⊕ (Int32 × xm_Y))
  | 0, _, _ => none
  | n + 1, l2, u0 =>
  if l2 < 0 then (
  some (.inr (l2, u0))) else (
  xm_chk (xm_in l2 3) (
  if c1 ≤ (u0.1 182 (Int32.toNatClampNeg l2)) then (
  xm_chk (xm_in l2 3) (xm_let (w_I u0 182 (Int32.toNatClampNeg l2) (-c1)) fun u4 =>
  xm_let (α := Int32) (l2 + (-1 : Int32)) fun v5 =>
  lp_X12_step_7 m c1 n v5 u4)) else (
  xm_chk (xm_in l2 3) (
  xm_chk (xm_in l2 3) (xm_let (w_I u0 182 (Int32.toNatClampNeg l2) ((u0.1 182 (Int32.toNatClampNeg l2)) + (1 : Int32))) fun u6 =>
  some (.inl ((1 : Int32), u6)))))))
def fn_X12_step (m : Nat) (x0 : Int32) (u0 : xm_Y) : Option (Int32 × xm_Y) :=
  xm_let (α := Int32) (((u0.1 150 0) - (1 : Int32))) fun v1 =>
  ((lp_X12_step_7 m x0 m v1 u0).bind (Sum.elim (fun r => some r) (fun q7 =>
  some ((0 : Int32), q7.2))))
theorem el_X12_step_7 (m : Nat) (c1 : Int32) (K : (Int32 × xm_Y) ⊕ (Int32 × xm_Y) → Option (Int32 × xm_Y)) (hK : ∀ r, K (.inl r) = some r) (kE : ∀ q : Int32 × xm_Y, xs_ (fun x : Int32 => some (.int x)) sg_0 mt_X12_step 47 [none, none, none] [] q.2 0 0 (K (.inr q))) : ∀ (n : Nat) (l2 : Int32) (u0 : xm_Y), xs_ (fun x : Int32 => some (.int x)) sg_0 mt_X12_step 7 [some (.ref 150), some (.int c1), some (.int l2)] [] u0 0 0 ((lp_X12_step_7 m c1 n l2 u0).bind K) := by
  intro n
  induction n with
  | zero =>
    intro l2 u0
    exact xs_none
  | succ n ih =>
    intro l2 u0
    rw [lp_X12_step_7]
    refine xs_iload_n (n := 8) dX12_step_7 rfl rfl ?_
    refine xs_if_lt (n := 11) (tgt := 47) dX12_step_8 rfl rfl (fun hc2 => ?_) (fun hc2 => ?_)
    · exact xs_gf (xs_end (kE (l2, u0))) trivial
    · refine xs_aload_n (n := 12) dX12_step_11 rfl rfl ?_
      refine ys_getr (n := 15) dX12_step_12 rfl fl_X12_125 sh_150 rfl ?_
      refine xs_iload_n (n := 16) dX12_step_15 rfl rfl ?_
      refine ys_iaload (n := 17) dX12_step_16 rfl sh_182 ?_
      refine xs_iload_n (n := 18) dX12_step_17 rfl rfl ?_
      refine xs_icmp_ge (n := 21) (tgt := 33) dX12_step_18 rfl rfl (fun hc3 => ?_) (fun hc3 => ?_)
      · refine xs_aload_n (n := 34) dX12_step_33 rfl rfl ?_
        refine ys_getr (n := 37) dX12_step_34 rfl fl_X12_125 sh_150 rfl ?_
        refine xs_iload_n (n := 38) dX12_step_37 rfl rfl ?_
        refine xs_iload_n (n := 39) dX12_step_38 rfl rfl ?_
        refine xs_ineg (n := 40) dX12_step_39 rfl ?_
        refine ys_iastore (n := 41) dX12_step_40 rfl sh_182 (fun u4 => ?_)
        refine xs_iincl (n := 44) (dv := (-1 : Int32)) (fun v5 => [some (.ref 150), some (.int c1), some (.int v5)]) dX12_step_41 rfl rfl rfl (Nat.le_of_ble_eq_true rfl) (fun _ => rfl) (fun v5 => ?_)
        refine xs_goto (n := 7) dX12_step_44 rfl ?_
        exact xs_gf (ih v5 u4) (And.intro rfl (And.intro rfl (And.intro rfl trivial)))
      · refine xs_aload_n (n := 22) dX12_step_21 rfl rfl ?_
        refine ys_getr (n := 25) dX12_step_22 rfl fl_X12_125 sh_150 rfl ?_
        refine xs_iload_n (n := 26) dX12_step_25 rfl rfl ?_
        refine xs_dup2_11 (n := 27) dX12_step_26 rfl rfl rfl ?_
        refine ys_iaload (n := 28) dX12_step_27 rfl sh_182 ?_
        refine xs_iconst (n := 29) (v := (1 : Int32)) dX12_step_28 rfl rfl ?_
        refine xs_iadd (n := 30) dX12_step_29 rfl ?_
        refine ys_iastore (n := 31) dX12_step_30 rfl sh_182 (fun u6 => ?_)
        refine xs_iconst (n := 32) (v := (1 : Int32)) dX12_step_31 rfl rfl ?_
        exact xs_zretc dX12_step_32 rfl (Or.inr rfl) (hK _)
theorem en_X12_step (m : Nat) (x0 : Int32) (u0 : xm_Y) : xs_ (fun x : Int32 => some (.int x)) sg_0 mt_X12_step 0 [some (.ref 150), some (.int x0), none] [] u0 0 0 (fn_X12_step m x0 u0) := by
  refine xs_top ?_
  rw [fn_X12_step]
  refine xs_aload_n (n := 1) dX12_step_0 rfl rfl ?_
  refine ys_geti (n := 4) dX12_step_1 rfl fl_X12_7 (Or.inl rfl) sh_150 ?_
  refine xs_iconst (n := 5) (v := (1 : Int32)) dX12_step_4 rfl rfl ?_
  refine xs_isub (n := 6) dX12_step_5 rfl ?_
  refine xs_leti (fun v1 => ?_)
  refine xs_istore_n (n := 7) (lv' := [some (.ref 150), some (.int x0), some (.int v1)]) dX12_step_6 rfl (Nat.le_of_ble_eq_true rfl) rfl ?_
  refine xs_reg ?_
  refine xs_fg (lv' := [some (.ref 150), some (.int x0), some (.int v1)]) (And.intro rfl (And.intro rfl (And.intro rfl trivial))) ?_
  refine el_X12_step_7 m x0 _ (fun _ => rfl) (fun q7 => ?_) m v1 u0
  refine xs_inr ?_
  refine xs_iconst (n := 48) (v := (0 : Int32)) dX12_step_47 rfl rfl ?_
  exact xs_zretc dX12_step_48 rfl (Or.inl rfl) rfl
def lp_X12_nextSum_37 (m : Nat) (c1 : Int32) (c2 : Int32) : Nat → xm_Y → Option ((Int32 × xm_Y) ⊕ (xm_Y))
  | 0, _ => none
  | n + 1, u0 =>
  ((fn_X12_step m c1 u0).bind fun q6 =>
  if q6.1 = 0 then (
  some (.inr (q6.2))) else (
  xm_chk (xm_in (0 : Int32) 3) (
  ((fn_J9_abs_0f7a4 m (q6.2.1 182 (Int32.toNatClampNeg (0 : Int32))) q6.2).bind fun q8 =>
  xm_chk (xm_in (1 : Int32) 3) (
  ((fn_J9_abs_0f7a4 m (q8.2.1 182 (Int32.toNatClampNeg (1 : Int32))) q8.2).bind fun q9 =>
  xm_chk (xm_in (2 : Int32) 3) (
  ((fn_J9_abs_0f7a4 m (q9.2.1 182 (Int32.toNatClampNeg (2 : Int32))) q9.2).bind fun q10 =>
  if ((q8.1 + q9.1) + q10.1) = c2 then (
  some (.inl ((1 : Int32), q10.2))) else (
  lp_X12_nextSum_37 m c1 c2 n q10.2)))))))))
def lp_X12_nextSum_85 (m : Nat) (c1 : Int32) : Nat → Int32 → xm_Y → Option (Int32 × xm_Y)
  | 0, _, _ => none
  | n + 1, l3, u0 =>
  if (3 : Int32) ≤ l3 then (
  some (l3, u0)) else (
  ((if (u0.1 150 0) ≤ l3 then (
  some ((0 : Int32))) else (
  some ((-c1))) : Option (Int32)).bind fun q15 =>
  xm_chk (xm_in l3 3) (xm_let (w_I u0 182 (Int32.toNatClampNeg l3) q15) fun u18 =>
  xm_let (α := Int32) (l3 + (1 : Int32)) fun v19 =>
  lp_X12_nextSum_85 m c1 n v19 u18)))
def lp_X12_nextSum_30 (m : Nat) (c1 : Int32) : Nat → Int32 → xm_Y → Option ((Int32 × xm_Y) ⊕ (Int32 × xm_Y))
  | 0, _, _ => none
  | n + 1, l2, u0 =>
  if ((3 : Int32) * c1) < l2 then (
  some (.inr (l2, u0))) else (
  ((lp_X12_nextSum_37 m c1 l2 m u0).bind (Sum.elim (fun r => some (.inl r)) (fun q12 =>
  xm_let (α := Int32) (l2 + (1 : Int32)) fun v13 =>
  ((lp_X12_nextSum_85 m c1 m (0 : Int32) q12).bind fun q20 =>
  xm_chk (xm_in (0 : Int32) 3) (
  ((fn_J9_abs_0f7a4 m (q20.2.1 182 (Int32.toNatClampNeg (0 : Int32))) q20.2).bind fun q21 =>
  xm_chk (xm_in (1 : Int32) 3) (
  ((fn_J9_abs_0f7a4 m (q21.2.1 182 (Int32.toNatClampNeg (1 : Int32))) q21.2).bind fun q22 =>
  xm_chk (xm_in (2 : Int32) 3) (
  ((fn_J9_abs_0f7a4 m (q22.2.1 182 (Int32.toNatClampNeg (2 : Int32))) q22.2).bind fun q23 =>
  if ((q21.1 + q22.1) + q23.1) = v13 then (
  some (.inl ((1 : Int32), q23.2))) else (
  lp_X12_nextSum_30 m c1 n v13 q23.2))))))))))))
def fn_X12_nextSum (m : Nat) (x0 : Int32) (u0 : xm_Y) : Option (Int32 × xm_Y) :=
  xm_chk (xm_in (0 : Int32) 3) (
  ((fn_J9_abs_0f7a4 m (u0.1 182 (Int32.toNatClampNeg (0 : Int32))) u0).bind fun q1 =>
  xm_chk (xm_in (1 : Int32) 3) (
  ((fn_J9_abs_0f7a4 m (q1.2.1 182 (Int32.toNatClampNeg (1 : Int32))) q1.2).bind fun q2 =>
  xm_chk (xm_in (2 : Int32) 3) (
  ((fn_J9_abs_0f7a4 m (q2.2.1 182 (Int32.toNatClampNeg (2 : Int32))) q2.2).bind fun q3 =>
  xm_let (α := Int32) (((q1.1 + q2.1) + q3.1)) fun v4 =>
  ((lp_X12_nextSum_30 m x0 m v4 q3.2).bind (Sum.elim (fun r => some r) (fun q25 =>
  some ((0 : Int32), q25.2))))))))))
theorem el_X12_nextSum_37 (m : Nat) (c1 : Int32) (c2 : Int32) (K : (Int32 × xm_Y) ⊕ (xm_Y) → Option (Int32 × xm_Y)) (hK : ∀ r, K (.inl r) = some r) (kE : ∀ q : xm_Y, xs_ (fun x : Int32 => some (.int x)) sg_0 mt_X12_nextSum 80 [some (.ref 150), some (.int c1), some (.int c2), none] [] q 0 0 (K (.inr q))) : ∀ (n : Nat) (u0 : xm_Y), xs_ (fun x : Int32 => some (.int x)) sg_0 mt_X12_nextSum 37 [some (.ref 150), some (.int c1), some (.int c2), none] [] u0 0 0 ((lp_X12_nextSum_37 m c1 c2 n u0).bind K) := by
  intro n
  induction n with
  | zero =>
    intro u0
    exact xs_none
  | succ n ih =>
    intro u0
    rw [lp_X12_nextSum_37]
    refine xs_aload_n (n := 38) dX12_nextSum_37 rfl rfl ?_
    refine xs_iload_n (n := 39) dX12_nextSum_38 rfl rfl ?_
    refine ys_callvi (n := 42) (N := mt_X12_step) dX12_nextSum_39 rfl ok_X12_step tw_1223 im_X12_step se_X12_step ⟨Nat.le_of_ble_eq_true rfl, Nat.le_of_ble_eq_true rfl⟩ [.int c1] [] rfl rfl (Nat.le_of_ble_eq_true rfl) rfl (Nat.le_of_ble_eq_true rfl) (en_X12_step m c1 u0) sh_150 (by decide) rfl (fun q6 => ?_)
    refine xs_if_eq (n := 45) (tgt := 80) dX12_nextSum_42 rfl rfl (fun hc7 => ?_) (fun hc7 => ?_)
    · exact xs_gf (xs_end (kE (q6.2))) (And.intro rfl (And.intro rfl (And.intro rfl trivial)))
    · refine xs_aload_n (n := 46) dX12_nextSum_45 rfl rfl ?_
      refine ys_getr (n := 49) dX12_nextSum_46 rfl fl_X12_125 sh_150 rfl ?_
      refine xs_iconst (n := 50) (v := (0 : Int32)) dX12_nextSum_49 rfl rfl ?_
      refine ys_iaload (n := 51) dX12_nextSum_50 rfl sh_182 ?_
      refine ys_callsi (n := 54) (N := mt_J9_abs_0f7a4) dX12_nextSum_51 rfl ok_J9_abs_0f7a4 tw_1222 st_J9_abs_0f7a4 ⟨Nat.le_of_ble_eq_true rfl, Nat.le_of_ble_eq_true rfl⟩ [.int (q6.2.1 182 (Int32.toNatClampNeg (0 : Int32)))] [] rfl rfl (Nat.le_of_ble_eq_true rfl) rfl (Nat.le_of_ble_eq_true rfl) (en_J9_abs_0f7a4 m (q6.2.1 182 (Int32.toNatClampNeg (0 : Int32))) q6.2) (fun q8 => ?_)
      refine xs_aload_n (n := 55) dX12_nextSum_54 rfl rfl ?_
      refine ys_getr (n := 58) dX12_nextSum_55 rfl fl_X12_125 sh_150 rfl ?_
      refine xs_iconst (n := 59) (v := (1 : Int32)) dX12_nextSum_58 rfl rfl ?_
      refine ys_iaload (n := 60) dX12_nextSum_59 rfl sh_182 ?_
      refine ys_callsi (n := 63) (N := mt_J9_abs_0f7a4) dX12_nextSum_60 rfl ok_J9_abs_0f7a4 tw_1222 st_J9_abs_0f7a4 ⟨Nat.le_of_ble_eq_true rfl, Nat.le_of_ble_eq_true rfl⟩ [.int (q8.2.1 182 (Int32.toNatClampNeg (1 : Int32)))] [.int q8.1] rfl rfl (Nat.le_of_ble_eq_true rfl) rfl (Nat.le_of_ble_eq_true rfl) (en_J9_abs_0f7a4 m (q8.2.1 182 (Int32.toNatClampNeg (1 : Int32))) q8.2) (fun q9 => ?_)
      refine xs_iadd (n := 64) dX12_nextSum_63 rfl ?_
      refine xs_aload_n (n := 65) dX12_nextSum_64 rfl rfl ?_
      refine ys_getr (n := 68) dX12_nextSum_65 rfl fl_X12_125 sh_150 rfl ?_
      refine xs_iconst (n := 69) (v := (2 : Int32)) dX12_nextSum_68 rfl rfl ?_
      refine ys_iaload (n := 70) dX12_nextSum_69 rfl sh_182 ?_
      refine ys_callsi (n := 73) (N := mt_J9_abs_0f7a4) dX12_nextSum_70 rfl ok_J9_abs_0f7a4 tw_1222 st_J9_abs_0f7a4 ⟨Nat.le_of_ble_eq_true rfl, Nat.le_of_ble_eq_true rfl⟩ [.int (q9.2.1 182 (Int32.toNatClampNeg (2 : Int32)))] [.int (q8.1 + q9.1)] rfl rfl (Nat.le_of_ble_eq_true rfl) rfl (Nat.le_of_ble_eq_true rfl) (en_J9_abs_0f7a4 m (q9.2.1 182 (Int32.toNatClampNeg (2 : Int32))) q9.2) (fun q10 => ?_)
      refine xs_iadd (n := 74) dX12_nextSum_73 rfl ?_
      refine xs_iload_n (n := 75) dX12_nextSum_74 rfl rfl ?_
      refine xs_icmp_ne (n := 78) (tgt := 37) dX12_nextSum_75 rfl rfl (fun hc11 => ?_) (fun hc11 => ?_)
      · refine xs_iconst (n := 79) (v := (1 : Int32)) dX12_nextSum_78 rfl rfl ?_
        exact xs_zretc dX12_nextSum_79 rfl (Or.inr rfl) (hK _)
      · exact xs_gf (ih q10.2) (And.intro rfl (And.intro rfl (And.intro rfl trivial)))
theorem el_X12_nextSum_85 (m : Nat) (c1 : Int32) (c2 : Int32) (K : Int32 × xm_Y → Option (Int32 × xm_Y)) (kE : ∀ q : Int32 × xm_Y, xs_ (fun x : Int32 => some (.int x)) sg_0 mt_X12_nextSum 116 [some (.ref 150), some (.int c1), some (.int c2), none] [] q.2 0 0 (K q)) : ∀ (n : Nat) (l3 : Int32) (u0 : xm_Y), xs_ (fun x : Int32 => some (.int x)) sg_0 mt_X12_nextSum 85 [some (.ref 150), some (.int c1), some (.int c2), some (.int l3)] [] u0 0 0 ((lp_X12_nextSum_85 m c1 n l3 u0).bind K) := by
  intro n
  induction n with
  | zero =>
    intro l3 u0
    exact xs_none
  | succ n ih =>
    intro l3 u0
    rw [lp_X12_nextSum_85]
    refine xs_iload_n (n := 86) dX12_nextSum_85 rfl rfl ?_
    refine xs_iconst (n := 87) (v := (3 : Int32)) dX12_nextSum_86 rfl rfl ?_
    refine xs_icmp_ge (n := 90) (tgt := 116) dX12_nextSum_87 rfl rfl (fun hc14 => ?_) (fun hc14 => ?_)
    · exact xs_gf (xs_end (kE (l3, u0))) (And.intro rfl (And.intro rfl (And.intro rfl trivial)))
    · refine xs_aload_n (n := 91) dX12_nextSum_90 rfl rfl ?_
      refine ys_getr (n := 94) dX12_nextSum_91 rfl fl_X12_125 sh_150 rfl ?_
      refine xs_iload_n (n := 95) dX12_nextSum_94 rfl rfl ?_
      refine xs_iload_n (n := 96) dX12_nextSum_95 rfl rfl ?_
      refine xs_aload_n (n := 97) dX12_nextSum_96 rfl rfl ?_
      refine ys_geti (n := 100) dX12_nextSum_97 rfl fl_X12_7 (Or.inl rfl) sh_150 ?_
      refine xs_join 109 (fun q15 => [some (.ref 150), some (.int c1), some (.int c2), some (.int l3)]) (fun q15 => [.int q15, .int l3, .ref 182]) (fun q15 => u0) (fun q15 => ?_) (fun kj16 => ?_)
      · refine ys_iastore (n := 110) dX12_nextSum_109 rfl sh_182 (fun u18 => ?_)
        refine xs_iincl (n := 113) (dv := (1 : Int32)) (fun v19 => [some (.ref 150), some (.int c1), some (.int c2), some (.int v19)]) dX12_nextSum_110 rfl rfl rfl (Nat.le_of_ble_eq_true rfl) (fun _ => rfl) (fun v19 => ?_)
        refine xs_goto (n := 85) dX12_nextSum_113 rfl ?_
        exact xs_gf (ih v19 u18) (And.intro rfl (And.intro rfl (And.intro rfl (And.intro rfl trivial))))
      · refine xs_icmp_ge (n := 103) (tgt := 108) dX12_nextSum_100 rfl rfl (fun hc17 => ?_) (fun hc17 => ?_)
        · refine xs_iconst (n := 109) (v := (0 : Int32)) dX12_nextSum_108 rfl rfl ?_
          exact xs_gf (xs_end (kj16 ((0 : Int32)))) (And.intro rfl (And.intro rfl (And.intro rfl (And.intro rfl trivial))))
        · refine xs_iload_n (n := 104) dX12_nextSum_103 rfl rfl ?_
          refine xs_ineg (n := 105) dX12_nextSum_104 rfl ?_
          refine xs_goto (n := 109) dX12_nextSum_105 rfl ?_
          exact xs_gf (xs_end (kj16 ((-c1)))) (And.intro rfl (And.intro rfl (And.intro rfl (And.intro rfl trivial))))
theorem el_X12_nextSum_30 (m : Nat) (c1 : Int32) (K : (Int32 × xm_Y) ⊕ (Int32 × xm_Y) → Option (Int32 × xm_Y)) (hK : ∀ r, K (.inl r) = some r) (kE : ∀ q : Int32 × xm_Y, xs_ (fun x : Int32 => some (.int x)) sg_0 mt_X12_nextSum 151 [none, none, none, none] [] q.2 0 0 (K (.inr q))) : ∀ (n : Nat) (l2 : Int32) (u0 : xm_Y), xs_ (fun x : Int32 => some (.int x)) sg_0 mt_X12_nextSum 30 [some (.ref 150), some (.int c1), some (.int l2), none] [] u0 0 0 ((lp_X12_nextSum_30 m c1 n l2 u0).bind K) := by
  intro n
  induction n with
  | zero =>
    intro l2 u0
    exact xs_none
  | succ n ih =>
    intro l2 u0
    rw [lp_X12_nextSum_30]
    refine xs_iload_n (n := 31) dX12_nextSum_30 rfl rfl ?_
    refine xs_iconst (n := 32) (v := (3 : Int32)) dX12_nextSum_31 rfl rfl ?_
    refine xs_iload_n (n := 33) dX12_nextSum_32 rfl rfl ?_
    refine xs_imul (n := 34) dX12_nextSum_33 rfl ?_
    refine xs_icmp_gt (n := 37) (tgt := 151) dX12_nextSum_34 rfl rfl (fun hc5 => ?_) (fun hc5 => ?_)
    · exact xs_gf (xs_end (kE (l2, u0))) trivial
    · refine xs_reg ?_
      refine xs_fg (lv' := [some (.ref 150), some (.int c1), some (.int l2), none]) (And.intro rfl (And.intro rfl (And.intro rfl trivial))) ?_
      refine el_X12_nextSum_37 m c1 l2 _ (by exact fun r => hK r) (fun q12 => ?_) m u0
      refine xs_inr ?_
      refine xs_iincl (n := 83) (dv := (1 : Int32)) (fun v13 => [some (.ref 150), some (.int c1), some (.int v13), none]) dX12_nextSum_80 rfl rfl rfl (Nat.le_of_ble_eq_true rfl) (fun _ => rfl) (fun v13 => ?_)
      refine xs_iconst (n := 84) (v := (0 : Int32)) dX12_nextSum_83 rfl rfl ?_
      refine xs_istore_n (n := 85) (lv' := [some (.ref 150), some (.int c1), some (.int v13), some (.int (0 : Int32))]) dX12_nextSum_84 rfl (Nat.le_of_ble_eq_true rfl) rfl ?_
      refine xs_reg ?_
      refine xs_fg (lv' := [some (.ref 150), some (.int c1), some (.int v13), some (.int (0 : Int32))]) (And.intro rfl (And.intro rfl (And.intro rfl (And.intro rfl trivial)))) ?_
      refine el_X12_nextSum_85 m c1 v13 _ (fun q20 => ?_) m (0 : Int32) q12
      refine xs_aload_n (n := 117) dX12_nextSum_116 rfl rfl ?_
      refine ys_getr (n := 120) dX12_nextSum_117 rfl fl_X12_125 sh_150 rfl ?_
      refine xs_iconst (n := 121) (v := (0 : Int32)) dX12_nextSum_120 rfl rfl ?_
      refine ys_iaload (n := 122) dX12_nextSum_121 rfl sh_182 ?_
      refine ys_callsi (n := 125) (N := mt_J9_abs_0f7a4) dX12_nextSum_122 rfl ok_J9_abs_0f7a4 tw_1222 st_J9_abs_0f7a4 ⟨Nat.le_of_ble_eq_true rfl, Nat.le_of_ble_eq_true rfl⟩ [.int (q20.2.1 182 (Int32.toNatClampNeg (0 : Int32)))] [] rfl rfl (Nat.le_of_ble_eq_true rfl) rfl (Nat.le_of_ble_eq_true rfl) (en_J9_abs_0f7a4 m (q20.2.1 182 (Int32.toNatClampNeg (0 : Int32))) q20.2) (fun q21 => ?_)
      refine xs_aload_n (n := 126) dX12_nextSum_125 rfl rfl ?_
      refine ys_getr (n := 129) dX12_nextSum_126 rfl fl_X12_125 sh_150 rfl ?_
      refine xs_iconst (n := 130) (v := (1 : Int32)) dX12_nextSum_129 rfl rfl ?_
      refine ys_iaload (n := 131) dX12_nextSum_130 rfl sh_182 ?_
      refine ys_callsi (n := 134) (N := mt_J9_abs_0f7a4) dX12_nextSum_131 rfl ok_J9_abs_0f7a4 tw_1222 st_J9_abs_0f7a4 ⟨Nat.le_of_ble_eq_true rfl, Nat.le_of_ble_eq_true rfl⟩ [.int (q21.2.1 182 (Int32.toNatClampNeg (1 : Int32)))] [.int q21.1] rfl rfl (Nat.le_of_ble_eq_true rfl) rfl (Nat.le_of_ble_eq_true rfl) (en_J9_abs_0f7a4 m (q21.2.1 182 (Int32.toNatClampNeg (1 : Int32))) q21.2) (fun q22 => ?_)
      refine xs_iadd (n := 135) dX12_nextSum_134 rfl ?_
      refine xs_aload_n (n := 136) dX12_nextSum_135 rfl rfl ?_
      refine ys_getr (n := 139) dX12_nextSum_136 rfl fl_X12_125 sh_150 rfl ?_
      refine xs_iconst (n := 140) (v := (2 : Int32)) dX12_nextSum_139 rfl rfl ?_
      refine ys_iaload (n := 141) dX12_nextSum_140 rfl sh_182 ?_
      refine ys_callsi (n := 144) (N := mt_J9_abs_0f7a4) dX12_nextSum_141 rfl ok_J9_abs_0f7a4 tw_1222 st_J9_abs_0f7a4 ⟨Nat.le_of_ble_eq_true rfl, Nat.le_of_ble_eq_true rfl⟩ [.int (q22.2.1 182 (Int32.toNatClampNeg (2 : Int32)))] [.int (q21.1 + q22.1)] rfl rfl (Nat.le_of_ble_eq_true rfl) rfl (Nat.le_of_ble_eq_true rfl) (en_J9_abs_0f7a4 m (q22.2.1 182 (Int32.toNatClampNeg (2 : Int32))) q22.2) (fun q23 => ?_)
      refine xs_iadd (n := 145) dX12_nextSum_144 rfl ?_
      refine xs_iload_n (n := 146) dX12_nextSum_145 rfl rfl ?_
      refine xs_icmp_ne (n := 149) (tgt := 30) dX12_nextSum_146 rfl rfl (fun hc24 => ?_) (fun hc24 => ?_)
      · refine xs_iconst (n := 150) (v := (1 : Int32)) dX12_nextSum_149 rfl rfl ?_
        exact xs_zretc dX12_nextSum_150 rfl (Or.inr rfl) (hK _)
      · exact xs_gf (ih v13 q23.2) (And.intro rfl (And.intro rfl (And.intro rfl trivial)))
theorem en_X12_nextSum (m : Nat) (x0 : Int32) (u0 : xm_Y) : xs_ (fun x : Int32 => some (.int x)) sg_0 mt_X12_nextSum 0 [some (.ref 150), some (.int x0), none, none] [] u0 0 0 (fn_X12_nextSum m x0 u0) := by
  refine xs_top ?_
  rw [fn_X12_nextSum]
  refine xs_aload_n (n := 1) dX12_nextSum_0 rfl rfl ?_
  refine ys_getr (n := 4) dX12_nextSum_1 rfl fl_X12_125 sh_150 rfl ?_
  refine xs_iconst (n := 5) (v := (0 : Int32)) dX12_nextSum_4 rfl rfl ?_
  refine ys_iaload (n := 6) dX12_nextSum_5 rfl sh_182 ?_
  refine ys_callsi (n := 9) (N := mt_J9_abs_0f7a4) dX12_nextSum_6 rfl ok_J9_abs_0f7a4 tw_1222 st_J9_abs_0f7a4 ⟨Nat.le_of_ble_eq_true rfl, Nat.le_of_ble_eq_true rfl⟩ [.int (u0.1 182 (Int32.toNatClampNeg (0 : Int32)))] [] rfl rfl (Nat.le_of_ble_eq_true rfl) rfl (Nat.le_of_ble_eq_true rfl) (en_J9_abs_0f7a4 m (u0.1 182 (Int32.toNatClampNeg (0 : Int32))) u0) (fun q1 => ?_)
  refine xs_aload_n (n := 10) dX12_nextSum_9 rfl rfl ?_
  refine ys_getr (n := 13) dX12_nextSum_10 rfl fl_X12_125 sh_150 rfl ?_
  refine xs_iconst (n := 14) (v := (1 : Int32)) dX12_nextSum_13 rfl rfl ?_
  refine ys_iaload (n := 15) dX12_nextSum_14 rfl sh_182 ?_
  refine ys_callsi (n := 18) (N := mt_J9_abs_0f7a4) dX12_nextSum_15 rfl ok_J9_abs_0f7a4 tw_1222 st_J9_abs_0f7a4 ⟨Nat.le_of_ble_eq_true rfl, Nat.le_of_ble_eq_true rfl⟩ [.int (q1.2.1 182 (Int32.toNatClampNeg (1 : Int32)))] [.int q1.1] rfl rfl (Nat.le_of_ble_eq_true rfl) rfl (Nat.le_of_ble_eq_true rfl) (en_J9_abs_0f7a4 m (q1.2.1 182 (Int32.toNatClampNeg (1 : Int32))) q1.2) (fun q2 => ?_)
  refine xs_iadd (n := 19) dX12_nextSum_18 rfl ?_
  refine xs_aload_n (n := 20) dX12_nextSum_19 rfl rfl ?_
  refine ys_getr (n := 23) dX12_nextSum_20 rfl fl_X12_125 sh_150 rfl ?_
  refine xs_iconst (n := 24) (v := (2 : Int32)) dX12_nextSum_23 rfl rfl ?_
  refine ys_iaload (n := 25) dX12_nextSum_24 rfl sh_182 ?_
  refine ys_callsi (n := 28) (N := mt_J9_abs_0f7a4) dX12_nextSum_25 rfl ok_J9_abs_0f7a4 tw_1222 st_J9_abs_0f7a4 ⟨Nat.le_of_ble_eq_true rfl, Nat.le_of_ble_eq_true rfl⟩ [.int (q2.2.1 182 (Int32.toNatClampNeg (2 : Int32)))] [.int (q1.1 + q2.1)] rfl rfl (Nat.le_of_ble_eq_true rfl) rfl (Nat.le_of_ble_eq_true rfl) (en_J9_abs_0f7a4 m (q2.2.1 182 (Int32.toNatClampNeg (2 : Int32))) q2.2) (fun q3 => ?_)
  refine xs_iadd (n := 29) dX12_nextSum_28 rfl ?_
  refine xs_leti (fun v4 => ?_)
  refine xs_istore_n (n := 30) (lv' := [some (.ref 150), some (.int x0), some (.int v4), none]) dX12_nextSum_29 rfl (Nat.le_of_ble_eq_true rfl) rfl ?_
  refine xs_reg ?_
  refine xs_fg (lv' := [some (.ref 150), some (.int x0), some (.int v4), none]) (And.intro rfl (And.intro rfl (And.intro rfl trivial))) ?_
  refine el_X12_nextSum_30 m x0 _ (fun _ => rfl) (fun q25 => ?_) m v4 q3.2
  refine xs_inr ?_
  refine xs_iconst (n := 152) (v := (0 : Int32)) dX12_nextSum_151 rfl rfl ?_
  exact xs_zretc dX12_nextSum_152 rfl (Or.inl rfl) rfl
def lp_X12_firstSum_2 (m : Nat) : Nat → Int32 → xm_Y → Option (Int32 × xm_Y)
  | 0, _, _ => none
  | n + 1, l2, u0 =>
  if (3 : Int32) ≤ l2 then (
  some (l2, u0)) else (
  xm_chk (xm_in l2 3) (xm_let (w_I u0 182 (Int32.toNatClampNeg l2) (0 : Int32)) fun u2 =>
  xm_let (α := Int32) (l2 + (1 : Int32)) fun v3 =>
  lp_X12_firstSum_2 m n v3 u2))
def fn_X12_firstSum (m : Nat) (x0 : Int32) (u0 : xm_Y) : Option (Unit × xm_Y) :=
  ((lp_X12_firstSum_2 m m (0 : Int32) u0).bind fun q4 =>
  ((fn_X12_nextSum m x0 q4.2).bind fun q5 =>
  some ((), q5.2)))
theorem el_X12_firstSum_2 (m : Nat) (c1 : Int32) (K : Int32 × xm_Y → Option (Unit × xm_Y)) (kE : ∀ q : Int32 × xm_Y, xs_ (fun _ : Unit => none) sg_0 mt_X12_firstSum 20 [some (.ref 150), some (.int c1), none] [] q.2 0 0 (K q)) : ∀ (n : Nat) (l2 : Int32) (u0 : xm_Y), xs_ (fun _ : Unit => none) sg_0 mt_X12_firstSum 2 [some (.ref 150), some (.int c1), some (.int l2)] [] u0 0 0 ((lp_X12_firstSum_2 m n l2 u0).bind K) := by
  intro n
  induction n with
  | zero =>
    intro l2 u0
    exact xs_none
  | succ n ih =>
    intro l2 u0
    rw [lp_X12_firstSum_2]
    refine xs_iload_n (n := 3) dX12_firstSum_2 rfl rfl ?_
    refine xs_iconst (n := 4) (v := (3 : Int32)) dX12_firstSum_3 rfl rfl ?_
    refine xs_icmp_ge (n := 7) (tgt := 20) dX12_firstSum_4 rfl rfl (fun hc1 => ?_) (fun hc1 => ?_)
    · exact xs_gf (xs_end (kE (l2, u0))) (And.intro rfl (And.intro rfl trivial))
    · refine xs_aload_n (n := 8) dX12_firstSum_7 rfl rfl ?_
      refine ys_getr (n := 11) dX12_firstSum_8 rfl fl_X12_125 sh_150 rfl ?_
      refine xs_iload_n (n := 12) dX12_firstSum_11 rfl rfl ?_
      refine xs_iconst (n := 13) (v := (0 : Int32)) dX12_firstSum_12 rfl rfl ?_
      refine ys_iastore (n := 14) dX12_firstSum_13 rfl sh_182 (fun u2 => ?_)
      refine xs_iincl (n := 17) (dv := (1 : Int32)) (fun v3 => [some (.ref 150), some (.int c1), some (.int v3)]) dX12_firstSum_14 rfl rfl rfl (Nat.le_of_ble_eq_true rfl) (fun _ => rfl) (fun v3 => ?_)
      refine xs_goto (n := 2) dX12_firstSum_17 rfl ?_
      exact xs_gf (ih v3 u2) (And.intro rfl (And.intro rfl (And.intro rfl trivial)))
theorem en_X12_firstSum (m : Nat) (x0 : Int32) (u0 : xm_Y) : xs_ (fun _ : Unit => none) sg_0 mt_X12_firstSum 0 [some (.ref 150), some (.int x0), none] [] u0 0 0 (fn_X12_firstSum m x0 u0) := by
  refine xs_top ?_
  rw [fn_X12_firstSum]
  refine xs_iconst (n := 1) (v := (0 : Int32)) dX12_firstSum_0 rfl rfl ?_
  refine xs_istore_n (n := 2) (lv' := [some (.ref 150), some (.int x0), some (.int (0 : Int32))]) dX12_firstSum_1 rfl (Nat.le_of_ble_eq_true rfl) rfl ?_
  refine xs_reg ?_
  refine xs_fg (lv' := [some (.ref 150), some (.int x0), some (.int (0 : Int32))]) (And.intro rfl (And.intro rfl (And.intro rfl trivial))) ?_
  refine el_X12_firstSum_2 m x0 _ (fun q4 => ?_) m (0 : Int32) u0
  refine xs_aload_n (n := 21) dX12_firstSum_20 rfl rfl ?_
  refine xs_iload_n (n := 22) dX12_firstSum_21 rfl rfl ?_
  refine ys_callvi (n := 25) (N := mt_X12_nextSum) dX12_firstSum_22 rfl ok_X12_nextSum tw_1218 im_X12_nextSum se_X12_nextSum ⟨Nat.le_of_ble_eq_true rfl, Nat.le_of_ble_eq_true rfl⟩ [.int x0] [] rfl rfl (Nat.le_of_ble_eq_true rfl) rfl (Nat.le_of_ble_eq_true rfl) (en_X12_nextSum m x0 q4.2) sh_150 (by decide) rfl (fun q5 => ?_)
  refine xs_istore_n (n := 26) (lv' := [some (.ref 150), some (.int x0), some (.int q5.1)]) dX12_firstSum_25 rfl (Nat.le_of_ble_eq_true rfl) rfl ?_
  exact xs_vret dX12_firstSum_26 rfl rfl
def fn_X12_isSize (m : Nat) (x0 : Int32) (u0 : xm_Y) : Option (Int32 × xm_Y) :=
  ((if x0 < (1 : Int32) then (
  some ((0 : Int32))) else (
  if (5 : Int32) < x0 then (
  some ((0 : Int32))) else (
  some ((1 : Int32)))) : Option (Int32)).bind fun q1 =>
  xm_chk (q1 = 0 ∨ q1 = 1) (some (q1, u0)))
theorem en_X12_isSize (m : Nat) (x0 : Int32) (u0 : xm_Y) : xs_ (fun x : Int32 => some (.int x)) sg_0 mt_X12_isSize 0 [some (.int x0)] [] u0 0 0 (fn_X12_isSize m x0 u0) := by
  refine xs_top ?_
  rw [fn_X12_isSize]
  refine xs_iload_n (n := 1) dX12_isSize_0 rfl rfl ?_
  refine xs_iconst (n := 2) (v := (1 : Int32)) dX12_isSize_1 rfl rfl ?_
  refine xs_join 15 (fun q1 => [none]) (fun q1 => [.int q1]) (fun q1 => u0) (fun q1 => ?_) (fun kj2 => ?_)
  · exact xs_zret dX12_isSize_15 rfl rfl
  · refine xs_icmp_lt (n := 5) (tgt := 14) dX12_isSize_2 rfl rfl (fun hc3 => ?_) (fun hc3 => ?_)
    · refine xs_iconst (n := 15) (v := (0 : Int32)) dX12_isSize_14 rfl rfl ?_
      exact xs_gf (xs_end (kj2 ((0 : Int32)))) trivial
    · refine xs_iload_n (n := 6) dX12_isSize_5 rfl rfl ?_
      refine xs_iconst (n := 7) (v := (5 : Int32)) dX12_isSize_6 rfl rfl ?_
      refine xs_icmp_gt (n := 10) (tgt := 14) dX12_isSize_7 rfl rfl (fun hc4 => ?_) (fun hc4 => ?_)
      · refine xs_iconst (n := 15) (v := (0 : Int32)) dX12_isSize_14 rfl rfl ?_
        exact xs_gf (xs_end (kj2 ((0 : Int32)))) trivial
      · refine xs_iconst (n := 11) (v := (1 : Int32)) dX12_isSize_10 rfl rfl ?_
        refine xs_goto (n := 15) dX12_isSize_11 rfl ?_
        exact xs_gf (xs_end (kj2 ((1 : Int32)))) trivial
def lp_X12_rank_62 (m : Nat) : Nat → Int32 → xm_Y → Option (Int32 × xm_Y)
  | 0, _, _ => none
  | n + 1, l3, u0 =>
  if (3 : Int32) ≤ l3 then (
  some (l3, u0)) else (
  xm_chk (xm_in l3 3) (
  xm_chk (xm_in l3 3) (xm_let (w_I u0 162 (Int32.toNatClampNeg l3) (u0.1 182 (Int32.toNatClampNeg l3))) fun u12 =>
  xm_chk (xm_in l3 3) (
  xm_chk (xm_in l3 15) (xm_let (w_I u12 161 (Int32.toNatClampNeg l3) (u12.1 182 (Int32.toNatClampNeg l3))) fun u13 =>
  xm_let (α := Int32) (l3 + (1 : Int32)) fun v14 =>
  lp_X12_rank_62 m n v14 u13)))))
def lp_X12_rank_21 (m : Nat) (c1 : Int32) : Nat → Int32 → xm_Y → Option ((Int32 × xm_Y) ⊕ (Int32 × xm_Y))
  | 0, _, _ => none
  | n + 1, l2, u0 =>
  if l2 = 0 then (
  some (.inr (l2, u0))) else (
  xm_chk (xm_in (0 : Int32) 3) (
  xm_chk (xm_in (1 : Int32) 3) (
  xm_chk (xm_in (2 : Int32) 3) (
  ((fn_X12_doesRank m (u0.1 182 (Int32.toNatClampNeg (0 : Int32))) (u0.1 182 (Int32.toNatClampNeg (1 : Int32))) (u0.1 182 (Int32.toNatClampNeg (2 : Int32))) u0).bind fun q6 =>
  if q6.1 = 0 then (
  ((fn_X12_nextSum m c1 q6.2).bind fun q8 =>
  lp_X12_rank_21 m c1 n q8.1 q8.2)) else (
  xm_let (w_I q6.2 150 21 (1 : Int32)) fun u9 =>
  xm_let (w_I u9 150 19 (1 : Int32)) fun u10 =>
  ((lp_X12_rank_62 m m (0 : Int32) u10).bind fun q15 =>
  some (.inl ((1 : Int32), q15.2)))))))))
def fn_X12_rank (m : Nat) (x0 : Int32) (u0 : xm_Y) : Option (Int32 × xm_Y) :=
  ((fn_X12_isSize m x0 u0).bind fun q1 =>
  if q1.1 = 0 then (
  some ((-1 : Int32), q1.2)) else (
  xm_let (w_I q1.2 150 21 (0 : Int32)) fun u3 =>
  ((fn_X12_firstSum m x0 u3).bind fun q4 =>
  ((lp_X12_rank_21 m x0 m (1 : Int32) q4.2).bind (Sum.elim (fun r => some r) (fun q16 =>
  some ((0 : Int32), q16.2)))))))
theorem el_X12_rank_62 (m : Nat) (K : Int32 × xm_Y → Option (Int32 × xm_Y)) (kE : ∀ q : Int32 × xm_Y, xs_ (fun x : Int32 => some (.int x)) sg_0 mt_X12_rank 97 [none, none, none, none] [] q.2 0 0 (K q)) : ∀ (n : Nat) (l3 : Int32) (u0 : xm_Y), xs_ (fun x : Int32 => some (.int x)) sg_0 mt_X12_rank 62 [some (.ref 150), none, none, some (.int l3)] [] u0 0 0 ((lp_X12_rank_62 m n l3 u0).bind K) := by
  intro n
  induction n with
  | zero =>
    intro l3 u0
    exact xs_none
  | succ n ih =>
    intro l3 u0
    rw [lp_X12_rank_62]
    refine xs_iload_n (n := 63) dX12_rank_62 rfl rfl ?_
    refine xs_iconst (n := 64) (v := (3 : Int32)) dX12_rank_63 rfl rfl ?_
    refine xs_icmp_ge (n := 67) (tgt := 97) dX12_rank_64 rfl rfl (fun hc11 => ?_) (fun hc11 => ?_)
    · exact xs_gf (xs_end (kE (l3, u0))) trivial
    · refine xs_aload_n (n := 68) dX12_rank_67 rfl rfl ?_
      refine ys_getr (n := 71) dX12_rank_68 rfl fl_X12_49 sh_150 rfl ?_
      refine xs_iload_n (n := 72) dX12_rank_71 rfl rfl ?_
      refine xs_aload_n (n := 73) dX12_rank_72 rfl rfl ?_
      refine ys_getr (n := 76) dX12_rank_73 rfl fl_X12_125 sh_150 rfl ?_
      refine xs_iload_n (n := 77) dX12_rank_76 rfl rfl ?_
      refine ys_iaload (n := 78) dX12_rank_77 rfl sh_182 ?_
      refine ys_iastore (n := 79) dX12_rank_78 rfl sh_162 (fun u12 => ?_)
      refine xs_aload_n (n := 80) dX12_rank_79 rfl rfl ?_
      refine ys_getr (n := 83) dX12_rank_80 rfl fl_X12_46 sh_150 rfl ?_
      refine xs_iload_n (n := 84) dX12_rank_83 rfl rfl ?_
      refine xs_aload_n (n := 85) dX12_rank_84 rfl rfl ?_
      refine ys_getr (n := 88) dX12_rank_85 rfl fl_X12_125 sh_150 rfl ?_
      refine xs_iload_n (n := 89) dX12_rank_88 rfl rfl ?_
      refine ys_iaload (n := 90) dX12_rank_89 rfl sh_182 ?_
      refine ys_iastore (n := 91) dX12_rank_90 rfl sh_161 (fun u13 => ?_)
      refine xs_iincl (n := 94) (dv := (1 : Int32)) (fun v14 => [some (.ref 150), none, none, some (.int v14)]) dX12_rank_91 rfl rfl rfl (Nat.le_of_ble_eq_true rfl) (fun _ => rfl) (fun v14 => ?_)
      refine xs_goto (n := 62) dX12_rank_94 rfl ?_
      exact xs_gf (ih v14 u13) (And.intro rfl (And.intro rfl trivial))
theorem el_X12_rank_21 (m : Nat) (c1 : Int32) (K : (Int32 × xm_Y) ⊕ (Int32 × xm_Y) → Option (Int32 × xm_Y)) (hK : ∀ r, K (.inl r) = some r) (kE : ∀ q : Int32 × xm_Y, xs_ (fun x : Int32 => some (.int x)) sg_0 mt_X12_rank 108 [none, none, none, none] [] q.2 0 0 (K (.inr q))) : ∀ (n : Nat) (l2 : Int32) (u0 : xm_Y), xs_ (fun x : Int32 => some (.int x)) sg_0 mt_X12_rank 21 [some (.ref 150), some (.int c1), some (.int l2), none] [] u0 0 0 ((lp_X12_rank_21 m c1 n l2 u0).bind K) := by
  intro n
  induction n with
  | zero =>
    intro l2 u0
    exact xs_none
  | succ n ih =>
    intro l2 u0
    rw [lp_X12_rank_21]
    refine xs_iload_n (n := 22) dX12_rank_21 rfl rfl ?_
    refine xs_if_eq (n := 25) (tgt := 108) dX12_rank_22 rfl rfl (fun hc5 => ?_) (fun hc5 => ?_)
    · exact xs_gf (xs_end (kE (l2, u0))) trivial
    · refine xs_aload_n (n := 26) dX12_rank_25 rfl rfl ?_
      refine xs_aload_n (n := 27) dX12_rank_26 rfl rfl ?_
      refine ys_getr (n := 30) dX12_rank_27 rfl fl_X12_125 sh_150 rfl ?_
      refine xs_iconst (n := 31) (v := (0 : Int32)) dX12_rank_30 rfl rfl ?_
      refine ys_iaload (n := 32) dX12_rank_31 rfl sh_182 ?_
      refine xs_aload_n (n := 33) dX12_rank_32 rfl rfl ?_
      refine ys_getr (n := 36) dX12_rank_33 rfl fl_X12_125 sh_150 rfl ?_
      refine xs_iconst (n := 37) (v := (1 : Int32)) dX12_rank_36 rfl rfl ?_
      refine ys_iaload (n := 38) dX12_rank_37 rfl sh_182 ?_
      refine xs_aload_n (n := 39) dX12_rank_38 rfl rfl ?_
      refine ys_getr (n := 42) dX12_rank_39 rfl fl_X12_125 sh_150 rfl ?_
      refine xs_iconst (n := 43) (v := (2 : Int32)) dX12_rank_42 rfl rfl ?_
      refine ys_iaload (n := 44) dX12_rank_43 rfl sh_182 ?_
      refine ys_callvi (n := 47) (N := mt_X12_doesRank) dX12_rank_44 rfl ok_X12_doesRank tw_1108 im_X12_doesRank se_X12_doesRank ⟨Nat.le_of_ble_eq_true rfl, Nat.le_of_ble_eq_true rfl⟩ [.int (u0.1 182 (Int32.toNatClampNeg (0 : Int32))), .int (u0.1 182 (Int32.toNatClampNeg (1 : Int32))), .int (u0.1 182 (Int32.toNatClampNeg (2 : Int32)))] [] rfl rfl (Nat.le_of_ble_eq_true rfl) rfl (Nat.le_of_ble_eq_true rfl) (en_X12_doesRank m (u0.1 182 (Int32.toNatClampNeg (0 : Int32))) (u0.1 182 (Int32.toNatClampNeg (1 : Int32))) (u0.1 182 (Int32.toNatClampNeg (2 : Int32))) u0) sh_150 (by decide) rfl (fun q6 => ?_)
      refine xs_if_eq (n := 50) (tgt := 99) dX12_rank_47 rfl rfl (fun hc7 => ?_) (fun hc7 => ?_)
      · refine xs_aload_n (n := 100) dX12_rank_99 rfl rfl ?_
        refine xs_iload_n (n := 101) dX12_rank_100 rfl rfl ?_
        refine ys_callvi (n := 104) (N := mt_X12_nextSum) dX12_rank_101 rfl ok_X12_nextSum tw_1218 im_X12_nextSum se_X12_nextSum ⟨Nat.le_of_ble_eq_true rfl, Nat.le_of_ble_eq_true rfl⟩ [.int c1] [] rfl rfl (Nat.le_of_ble_eq_true rfl) rfl (Nat.le_of_ble_eq_true rfl) (en_X12_nextSum m c1 q6.2) sh_150 (by decide) rfl (fun q8 => ?_)
        refine xs_istore_n (n := 105) (lv' := [some (.ref 150), some (.int c1), some (.int q8.1), none]) dX12_rank_104 rfl (Nat.le_of_ble_eq_true rfl) rfl ?_
        refine xs_goto (n := 21) dX12_rank_105 rfl ?_
        exact xs_gf (ih q8.1 q8.2) (And.intro rfl (And.intro rfl (And.intro rfl trivial)))
      · refine xs_aload_n (n := 51) dX12_rank_50 rfl rfl ?_
        refine xs_iconst (n := 52) (v := (1 : Int32)) dX12_rank_51 rfl rfl ?_
        refine ys_putzc (n := 55) dX12_rank_52 rfl fl_X12_131 rfl sh_150 (Or.inr rfl) (fun u9 => ?_)
        refine xs_aload_n (n := 56) dX12_rank_55 rfl rfl ?_
        refine xs_iconst (n := 57) (v := (1 : Int32)) dX12_rank_56 rfl rfl ?_
        refine ys_puti (n := 60) dX12_rank_57 rfl fl_X12_138 rfl sh_150 (fun u10 => ?_)
        refine xs_iconst (n := 61) (v := (0 : Int32)) dX12_rank_60 rfl rfl ?_
        refine xs_istore_n (n := 62) (lv' := [some (.ref 150), some (.int c1), some (.int l2), some (.int (0 : Int32))]) dX12_rank_61 rfl (Nat.le_of_ble_eq_true rfl) rfl ?_
        refine xs_reg ?_
        refine xs_fg (lv' := [some (.ref 150), none, none, some (.int (0 : Int32))]) (And.intro rfl (And.intro rfl trivial)) ?_
        refine el_X12_rank_62 m _ (fun q15 => ?_) m (0 : Int32) u10
        refine xs_iconst (n := 98) (v := (1 : Int32)) dX12_rank_97 rfl rfl ?_
        exact xs_iret dX12_rank_98 rfl (hK _)
theorem en_X12_rank (m : Nat) (x0 : Int32) (u0 : xm_Y) : xs_ (fun x : Int32 => some (.int x)) sg_0 mt_X12_rank 0 [some (.ref 150), some (.int x0), none, none] [] u0 0 0 (fn_X12_rank m x0 u0) := by
  refine xs_top ?_
  rw [fn_X12_rank]
  refine xs_iload_n (n := 1) dX12_rank_0 rfl rfl ?_
  refine ys_callsi (n := 4) (N := mt_X12_isSize) dX12_rank_1 rfl ok_X12_isSize tw_1211 st_X12_isSize ⟨Nat.le_of_ble_eq_true rfl, Nat.le_of_ble_eq_true rfl⟩ [.int x0] [] rfl rfl (Nat.le_of_ble_eq_true rfl) rfl (Nat.le_of_ble_eq_true rfl) (en_X12_isSize m x0 u0) (fun q1 => ?_)
  refine xs_if_ne (n := 7) (tgt := 9) dX12_rank_4 rfl rfl (fun hc2 => ?_) (fun hc2 => ?_)
  · refine xs_iconst (n := 8) (v := (-1 : Int32)) dX12_rank_7 rfl rfl ?_
    exact xs_iret dX12_rank_8 rfl rfl
  · refine xs_aload_n (n := 10) dX12_rank_9 rfl rfl ?_
    refine xs_iconst (n := 11) (v := (0 : Int32)) dX12_rank_10 rfl rfl ?_
    refine ys_putzc (n := 14) dX12_rank_11 rfl fl_X12_131 rfl sh_150 (Or.inl rfl) (fun u3 => ?_)
    refine xs_aload_n (n := 15) dX12_rank_14 rfl rfl ?_
    refine xs_iload_n (n := 16) dX12_rank_15 rfl rfl ?_
    refine ys_callvv (n := 19) (N := mt_X12_firstSum) dX12_rank_16 rfl ok_X12_firstSum tw_1214 im_X12_firstSum se_X12_firstSum ⟨Nat.le_of_ble_eq_true rfl, Nat.le_of_ble_eq_true rfl⟩ [.int x0] [] rfl rfl (Nat.le_of_ble_eq_true rfl) rfl (Nat.le_of_ble_eq_true rfl) (en_X12_firstSum m x0 u3) sh_150 (by decide) rfl (fun q4 => ?_)
    refine xs_iconst (n := 20) (v := (1 : Int32)) dX12_rank_19 rfl rfl ?_
    refine xs_istore_n (n := 21) (lv' := [some (.ref 150), some (.int x0), some (.int (1 : Int32)), none]) dX12_rank_20 rfl (Nat.le_of_ble_eq_true rfl) rfl ?_
    refine xs_reg ?_
    refine xs_fg (lv' := [some (.ref 150), some (.int x0), some (.int (1 : Int32)), none]) (And.intro rfl (And.intro rfl (And.intro rfl trivial))) ?_
    refine el_X12_rank_21 m x0 _ (fun _ => rfl) (fun q16 => ?_) m (1 : Int32) q4.2
    refine xs_inr ?_
    refine xs_iconst (n := 109) (v := (0 : Int32)) dX12_rank_108 rfl rfl ?_
    exact xs_iret dX12_rank_109 rfl rfl
