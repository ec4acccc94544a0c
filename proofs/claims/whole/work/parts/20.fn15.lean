def lp_X12_nextSum_37 (m : Nat) (c1 : Int32) (c2 : Int32) : Nat → xm_Y → Option ((Int32 × xm_Y) ⊕ (xm_Y))
  | 0, _ => none
  | n + 1, u0 =>
  ((fn_X12_step m c1 u0).bind fun q6 =>
  if q6.1 = 0 then (
  some (.inr (q6.2))) else (
  xm_chk (xm_in (0) 3) (
  ((fn_J9_abs_0f7a4 m (q6.2.1 182 (Int32.toNatClampNeg (0))) q6.2).bind fun q8 =>
  xm_chk (xm_in (1) 3) (
  ((fn_J9_abs_0f7a4 m (q8.2.1 182 (Int32.toNatClampNeg (1))) q8.2).bind fun q9 =>
  xm_chk (xm_in (2) 3) (
  ((fn_J9_abs_0f7a4 m (q9.2.1 182 (Int32.toNatClampNeg (2))) q9.2).bind fun q10 =>
  if ((q8.1 + q9.1) + q10.1) = c2 then (
  some (.inl ((1), q10.2))) else (
  lp_X12_nextSum_37 m c1 c2 n q10.2)))))))))
def lp_X12_nextSum_85 (m : Nat) (c1 : Int32) : Nat → Int32 → xm_Y → Option (Int32 × xm_Y)
  | 0, _, _ => none
  | n + 1, l3, u0 =>
  if (3) ≤ l3 then (
  some (l3, u0)) else (
  ((if (u0.1 150 0) ≤ l3 then (
  some ((0))) else (
  some ((-c1))) : Option (Int32)).bind fun q15 =>
  xm_chk (xm_in l3 3) (xm_let (w_I u0 182 (Int32.toNatClampNeg l3) q15) fun u18 =>
  xm_let (α := Int32) (l3 + (1)) fun v19 =>
  lp_X12_nextSum_85 m c1 n v19 u18)))
def lp_X12_nextSum_30 (m : Nat) (c1 : Int32) : Nat → Int32 → xm_Y → Option ((Int32 × xm_Y) ⊕ (Int32 × xm_Y))
  | 0, _, _ => none
  | n + 1, l2, u0 =>
  if ((3) * c1) < l2 then (
  some (.inr (l2, u0))) else (
  ((lp_X12_nextSum_37 m c1 l2 m u0).bind (Sum.elim (fun r => some (.inl r)) (fun q12 =>
  xm_let (α := Int32) (l2 + (1)) fun v13 =>
  ((lp_X12_nextSum_85 m c1 m (0) q12).bind fun q20 =>
  xm_chk (xm_in (0) 3) (
  ((fn_J9_abs_0f7a4 m (q20.2.1 182 (Int32.toNatClampNeg (0))) q20.2).bind fun q21 =>
  xm_chk (xm_in (1) 3) (
  ((fn_J9_abs_0f7a4 m (q21.2.1 182 (Int32.toNatClampNeg (1))) q21.2).bind fun q22 =>
  xm_chk (xm_in (2) 3) (
  ((fn_J9_abs_0f7a4 m (q22.2.1 182 (Int32.toNatClampNeg (2))) q22.2).bind fun q23 =>
  if ((q21.1 + q22.1) + q23.1) = v13 then (
  some (.inl ((1), q23.2))) else (
  lp_X12_nextSum_30 m c1 n v13 q23.2))))))))))))
def fn_X12_nextSum (m : Nat) (x0 : Int32) (u0 : xm_Y) : Option (Int32 × xm_Y) :=
  xm_chk (xm_in (0) 3) (
  ((fn_J9_abs_0f7a4 m (u0.1 182 (Int32.toNatClampNeg (0))) u0).bind fun q1 =>
  xm_chk (xm_in (1) 3) (
  ((fn_J9_abs_0f7a4 m (q1.2.1 182 (Int32.toNatClampNeg (1))) q1.2).bind fun q2 =>
  xm_chk (xm_in (2) 3) (
  ((fn_J9_abs_0f7a4 m (q2.2.1 182 (Int32.toNatClampNeg (2))) q2.2).bind fun q3 =>
  xm_let (α := Int32) (((q1.1 + q2.1) + q3.1)) fun v4 =>
  ((lp_X12_nextSum_30 m x0 m v4 q3.2).bind (Sum.elim (fun r => some r) (fun q25 =>
  some ((0), q25.2))))))))))
theorem el_X12_nextSum_37 (m : Nat) (c1 : Int32) (c2 : Int32) (K : (Int32 × xm_Y) ⊕ (xm_Y) → Option (Int32 × xm_Y)) (hK : ∀ r, K (.inl r) = some r) (kE : ∀ q : xm_Y, xs_ (fun x : Int32 => some (.int x)) sg_0 mt_X12_nextSum 80 [some (.ref 150), some (.int c1), some (.int c2), none] [] q 0 0 (K (.inr q))) : ∀ (n : Nat) (u0 : xm_Y), xs_ (fun x : Int32 => some (.int x)) sg_0 mt_X12_nextSum 37 [some (.ref 150), some (.int c1), some (.int c2), none] [] u0 0 0 ((lp_X12_nextSum_37 m c1 c2 n u0).bind K) := by
  intro n
  induction n with
  | zero =>
    intro u0
    exact xs_none
  | succ n ih =>
    intro u0
    rw [lp_X12_nextSum_37]
    refine xs_aload_n (n := 38) dX12_nextSum_37 rfl rfl ?_
    refine xs_iload_n (n := 39) dX12_nextSum_38 rfl rfl ?_
    refine ys_callvi (n := 42) (N := mt_X12_step) dX12_nextSum_39 rfl ok_X12_step tw_1228 im_X12_step se_X12_step ⟨Nat.le_of_ble_eq_true rfl, Nat.le_of_ble_eq_true rfl⟩ [.int c1] [] rfl rfl (Nat.le_of_ble_eq_true rfl) rfl (Nat.le_of_ble_eq_true rfl) (en_X12_step m c1 u0) sh_150 (by decide) rfl (fun q6 => ?_)
    refine xs_if_eq (n := 45) (tgt := 80) dX12_nextSum_42 rfl rfl (fun hc7 => ?_) (fun hc7 => ?_)
    · exact xs_gf (kE (q6.2)) (And.intro rfl (And.intro rfl (And.intro rfl trivial)))
    · refine xs_aload_n (n := 46) dX12_nextSum_45 rfl rfl ?_
      refine ys_getr (n := 49) dX12_nextSum_46 rfl fl_X12_125 sh_150 rfl ?_
      refine xs_iconst (n := 50) (v := (0)) dX12_nextSum_49 rfl rfl ?_
      refine ys_iaload (n := 51) dX12_nextSum_50 rfl sh_182 ?_
      refine ys_callsi (n := 54) (N := mt_J9_abs_0f7a4) dX12_nextSum_51 rfl ok_J9_abs_0f7a4 tw_1227 st_J9_abs_0f7a4 ⟨Nat.le_of_ble_eq_true rfl, Nat.le_of_ble_eq_true rfl⟩ [.int (q6.2.1 182 (Int32.toNatClampNeg (0)))] [] rfl rfl (Nat.le_of_ble_eq_true rfl) rfl (Nat.le_of_ble_eq_true rfl) (en_J9_abs_0f7a4 m (q6.2.1 182 (Int32.toNatClampNeg (0))) q6.2) (fun q8 => ?_)
      refine xs_aload_n (n := 55) dX12_nextSum_54 rfl rfl ?_
      refine ys_getr (n := 58) dX12_nextSum_55 rfl fl_X12_125 sh_150 rfl ?_
      refine xs_iconst (n := 59) (v := (1)) dX12_nextSum_58 rfl rfl ?_
      refine ys_iaload (n := 60) dX12_nextSum_59 rfl sh_182 ?_
      refine ys_callsi (n := 63) (N := mt_J9_abs_0f7a4) dX12_nextSum_60 rfl ok_J9_abs_0f7a4 tw_1227 st_J9_abs_0f7a4 ⟨Nat.le_of_ble_eq_true rfl, Nat.le_of_ble_eq_true rfl⟩ [.int (q8.2.1 182 (Int32.toNatClampNeg (1)))] [.int q8.1] rfl rfl (Nat.le_of_ble_eq_true rfl) rfl (Nat.le_of_ble_eq_true rfl) (en_J9_abs_0f7a4 m (q8.2.1 182 (Int32.toNatClampNeg (1))) q8.2) (fun q9 => ?_)
      refine xs_iadd (n := 64) dX12_nextSum_63 rfl ?_
      refine xs_aload_n (n := 65) dX12_nextSum_64 rfl rfl ?_
      refine ys_getr (n := 68) dX12_nextSum_65 rfl fl_X12_125 sh_150 rfl ?_
      refine xs_iconst (n := 69) (v := (2)) dX12_nextSum_68 rfl rfl ?_
      refine ys_iaload (n := 70) dX12_nextSum_69 rfl sh_182 ?_
      refine ys_callsi (n := 73) (N := mt_J9_abs_0f7a4) dX12_nextSum_70 rfl ok_J9_abs_0f7a4 tw_1227 st_J9_abs_0f7a4 ⟨Nat.le_of_ble_eq_true rfl, Nat.le_of_ble_eq_true rfl⟩ [.int (q9.2.1 182 (Int32.toNatClampNeg (2)))] [.int (q8.1 + q9.1)] rfl rfl (Nat.le_of_ble_eq_true rfl) rfl (Nat.le_of_ble_eq_true rfl) (en_J9_abs_0f7a4 m (q9.2.1 182 (Int32.toNatClampNeg (2))) q9.2) (fun q10 => ?_)
      refine xs_iadd (n := 74) dX12_nextSum_73 rfl ?_
      refine xs_iload_n (n := 75) dX12_nextSum_74 rfl rfl ?_
      refine xs_icmp_ne (n := 78) (tgt := 37) dX12_nextSum_75 rfl rfl (fun hc11 => ?_) (fun hc11 => ?_)
      · refine xs_iconst (n := 79) (v := (1)) dX12_nextSum_78 rfl rfl ?_
        exact xs_zretc dX12_nextSum_79 rfl (Or.inr rfl) (hK _)
      · exact xs_gf (ih q10.2) (And.intro rfl (And.intro rfl (And.intro rfl trivial)))
theorem el_X12_nextSum_85 (m : Nat) (c1 : Int32) (c2 : Int32) (K : Int32 × xm_Y → Option (Int32 × xm_Y)) (kE : ∀ q : Int32 × xm_Y, xs_ (fun x : Int32 => some (.int x)) sg_0 mt_X12_nextSum 116 [some (.ref 150), some (.int c1), some (.int c2), none] [] q.2 0 0 (K q)) : ∀ (n : Nat) (l3 : Int32) (u0 : xm_Y), xs_ (fun x : Int32 => some (.int x)) sg_0 mt_X12_nextSum 85 [some (.ref 150), some (.int c1), some (.int c2), some (.int l3)] [] u0 0 0 ((lp_X12_nextSum_85 m c1 n l3 u0).bind K) := by
  intro n
  induction n with
  | zero =>
    intro l3 u0
    exact xs_none
  | succ n ih =>
    intro l3 u0
    rw [lp_X12_nextSum_85]
    refine xs_iload_n (n := 86) dX12_nextSum_85 rfl rfl ?_
    refine xs_iconst (n := 87) (v := (3)) dX12_nextSum_86 rfl rfl ?_
    refine xs_icmp_ge (n := 90) (tgt := 116) dX12_nextSum_87 rfl rfl (fun hc14 => ?_) (fun hc14 => ?_)
    · exact xs_gf (kE (l3, u0)) (And.intro rfl (And.intro rfl (And.intro rfl trivial)))
    · refine xs_aload_n (n := 91) dX12_nextSum_90 rfl rfl ?_
      refine ys_getr (n := 94) dX12_nextSum_91 rfl fl_X12_125 sh_150 rfl ?_
      refine xs_iload_n (n := 95) dX12_nextSum_94 rfl rfl ?_
      refine xs_iload_n (n := 96) dX12_nextSum_95 rfl rfl ?_
      refine xs_aload_n (n := 97) dX12_nextSum_96 rfl rfl ?_
      refine ys_geti (n := 100) dX12_nextSum_97 rfl fl_X12_7 (Or.inl rfl) sh_150 ?_
      refine xs_join 109 (fun q15 => [some (.ref 150), some (.int c1), some (.int c2), some (.int l3)]) (fun q15 => [.int q15, .int l3, .ref 182]) (fun q15 => u0) (fun q15 => ?_) (fun kj16 => ?_)
      · refine ys_iastore (n := 110) dX12_nextSum_109 rfl sh_182 (fun u18 => ?_)
        refine xs_iincl (n := 113) (dv := (1)) (fun v19 => [some (.ref 150), some (.int c1), some (.int c2), some (.int v19)]) dX12_nextSum_110 rfl rfl rfl (Nat.le_of_ble_eq_true rfl) (fun _ => rfl) (fun v19 => ?_)
        refine xs_goto (n := 85) dX12_nextSum_113 rfl ?_
        exact xs_gf (ih v19 u18) (And.intro rfl (And.intro rfl (And.intro rfl (And.intro rfl trivial))))
      · refine xs_icmp_ge (n := 103) (tgt := 108) dX12_nextSum_100 rfl rfl (fun hc17 => ?_) (fun hc17 => ?_)
        · refine xs_iconst (n := 109) (v := (0)) dX12_nextSum_108 rfl rfl ?_
          exact xs_gf (kj16 ((0))) (And.intro rfl (And.intro rfl (And.intro rfl (And.intro rfl trivial))))
        · refine xs_iload_n (n := 104) dX12_nextSum_103 rfl rfl ?_
          refine xs_ineg (n := 105) dX12_nextSum_104 rfl ?_
          refine xs_goto (n := 109) dX12_nextSum_105 rfl ?_
          exact xs_gf (kj16 ((-c1))) (And.intro rfl (And.intro rfl (And.intro rfl (And.intro rfl trivial))))
theorem el_X12_nextSum_30 (m : Nat) (c1 : Int32) (K : (Int32 × xm_Y) ⊕ (Int32 × xm_Y) → Option (Int32 × xm_Y)) (hK : ∀ r, K (.inl r) = some r) (kE : ∀ q : Int32 × xm_Y, xs_ (fun x : Int32 => some (.int x)) sg_0 mt_X12_nextSum 151 [none, none, none, none] [] q.2 0 0 (K (.inr q))) : ∀ (n : Nat) (l2 : Int32) (u0 : xm_Y), xs_ (fun x : Int32 => some (.int x)) sg_0 mt_X12_nextSum 30 [some (.ref 150), some (.int c1), some (.int l2), none] [] u0 0 0 ((lp_X12_nextSum_30 m c1 n l2 u0).bind K) := by
  intro n
  induction n with
  | zero =>
    intro l2 u0
    exact xs_none
  | succ n ih =>
    intro l2 u0
    rw [lp_X12_nextSum_30]
    refine xs_iload_n (n := 31) dX12_nextSum_30 rfl rfl ?_
    refine xs_iconst (n := 32) (v := (3)) dX12_nextSum_31 rfl rfl ?_
    refine xs_iload_n (n := 33) dX12_nextSum_32 rfl rfl ?_
    refine xs_imul (n := 34) dX12_nextSum_33 rfl ?_
    refine xs_icmp_gt (n := 37) (tgt := 151) dX12_nextSum_34 rfl rfl (fun hc5 => ?_) (fun hc5 => ?_)
    · exact xs_gf (kE (l2, u0)) trivial
    · refine xs_reg ?_
      refine xs_fg (lv' := [some (.ref 150), some (.int c1), some (.int l2), none]) (And.intro rfl (And.intro rfl (And.intro rfl trivial))) ?_
      refine el_X12_nextSum_37 m c1 l2 _ (fun r => hK r) (fun q12 => ?_) m u0
      refine xs_inr ?_
      refine xs_iincl (n := 83) (dv := (1)) (fun v13 => [some (.ref 150), some (.int c1), some (.int v13), none]) dX12_nextSum_80 rfl rfl rfl (Nat.le_of_ble_eq_true rfl) (fun _ => rfl) (fun v13 => ?_)
      refine xs_iconst (n := 84) (v := (0)) dX12_nextSum_83 rfl rfl ?_
      refine xs_istore_n (n := 85) (lv' := [some (.ref 150), some (.int c1), some (.int v13), some (.int (0))]) dX12_nextSum_84 rfl (Nat.le_of_ble_eq_true rfl) rfl ?_
      refine xs_reg ?_
      refine xs_fg (lv' := [some (.ref 150), some (.int c1), some (.int v13), some (.int (0))]) (And.intro rfl (And.intro rfl (And.intro rfl (And.intro rfl trivial)))) ?_
      refine el_X12_nextSum_85 m c1 v13 _ (fun q20 => ?_) m (0) q12
      refine xs_aload_n (n := 117) dX12_nextSum_116 rfl rfl ?_
      refine ys_getr (n := 120) dX12_nextSum_117 rfl fl_X12_125 sh_150 rfl ?_
      refine xs_iconst (n := 121) (v := (0)) dX12_nextSum_120 rfl rfl ?_
      refine ys_iaload (n := 122) dX12_nextSum_121 rfl sh_182 ?_
      refine ys_callsi (n := 125) (N := mt_J9_abs_0f7a4) dX12_nextSum_122 rfl ok_J9_abs_0f7a4 tw_1227 st_J9_abs_0f7a4 ⟨Nat.le_of_ble_eq_true rfl, Nat.le_of_ble_eq_true rfl⟩ [.int (q20.2.1 182 (Int32.toNatClampNeg (0)))] [] rfl rfl (Nat.le_of_ble_eq_true rfl) rfl (Nat.le_of_ble_eq_true rfl) (en_J9_abs_0f7a4 m (q20.2.1 182 (Int32.toNatClampNeg (0))) q20.2) (fun q21 => ?_)
      refine xs_aload_n (n := 126) dX12_nextSum_125 rfl rfl ?_
      refine ys_getr (n := 129) dX12_nextSum_126 rfl fl_X12_125 sh_150 rfl ?_
      refine xs_iconst (n := 130) (v := (1)) dX12_nextSum_129 rfl rfl ?_
      refine ys_iaload (n := 131) dX12_nextSum_130 rfl sh_182 ?_
      refine ys_callsi (n := 134) (N := mt_J9_abs_0f7a4) dX12_nextSum_131 rfl ok_J9_abs_0f7a4 tw_1227 st_J9_abs_0f7a4 ⟨Nat.le_of_ble_eq_true rfl, Nat.le_of_ble_eq_true rfl⟩ [.int (q21.2.1 182 (Int32.toNatClampNeg (1)))] [.int q21.1] rfl rfl (Nat.le_of_ble_eq_true rfl) rfl (Nat.le_of_ble_eq_true rfl) (en_J9_abs_0f7a4 m (q21.2.1 182 (Int32.toNatClampNeg (1))) q21.2) (fun q22 => ?_)
      refine xs_iadd (n := 135) dX12_nextSum_134 rfl ?_
      refine xs_aload_n (n := 136) dX12_nextSum_135 rfl rfl ?_
      refine ys_getr (n := 139) dX12_nextSum_136 rfl fl_X12_125 sh_150 rfl ?_
      refine xs_iconst (n := 140) (v := (2)) dX12_nextSum_139 rfl rfl ?_
      refine ys_iaload (n := 141) dX12_nextSum_140 rfl sh_182 ?_
      refine ys_callsi (n := 144) (N := mt_J9_abs_0f7a4) dX12_nextSum_141 rfl ok_J9_abs_0f7a4 tw_1227 st_J9_abs_0f7a4 ⟨Nat.le_of_ble_eq_true rfl, Nat.le_of_ble_eq_true rfl⟩ [.int (q22.2.1 182 (Int32.toNatClampNeg (2)))] [.int (q21.1 + q22.1)] rfl rfl (Nat.le_of_ble_eq_true rfl) rfl (Nat.le_of_ble_eq_true rfl) (en_J9_abs_0f7a4 m (q22.2.1 182 (Int32.toNatClampNeg (2))) q22.2) (fun q23 => ?_)
      refine xs_iadd (n := 145) dX12_nextSum_144 rfl ?_
      refine xs_iload_n (n := 146) dX12_nextSum_145 rfl rfl ?_
      refine xs_icmp_ne (n := 149) (tgt := 30) dX12_nextSum_146 rfl rfl (fun hc24 => ?_) (fun hc24 => ?_)
      · refine xs_iconst (n := 150) (v := (1)) dX12_nextSum_149 rfl rfl ?_
        exact xs_zretc dX12_nextSum_150 rfl (Or.inr rfl) (hK _)
      · exact xs_gf (ih v13 q23.2) (And.intro rfl (And.intro rfl (And.intro rfl trivial)))
theorem en_X12_nextSum (m : Nat) (x0 : Int32) (u0 : xm_Y) : xs_ (fun x : Int32 => some (.int x)) sg_0 mt_X12_nextSum 0 [some (.ref 150), some (.int x0), none, none] [] u0 0 0 (fn_X12_nextSum m x0 u0) := by
  refine xs_top ?_
  rw [fn_X12_nextSum]
  refine xs_aload_n (n := 1) dX12_nextSum_0 rfl rfl ?_
  refine ys_getr (n := 4) dX12_nextSum_1 rfl fl_X12_125 sh_150 rfl ?_
  refine xs_iconst (n := 5) (v := (0)) dX12_nextSum_4 rfl rfl ?_
  refine ys_iaload (n := 6) dX12_nextSum_5 rfl sh_182 ?_
  refine ys_callsi (n := 9) (N := mt_J9_abs_0f7a4) dX12_nextSum_6 rfl ok_J9_abs_0f7a4 tw_1227 st_J9_abs_0f7a4 ⟨Nat.le_of_ble_eq_true rfl, Nat.le_of_ble_eq_true rfl⟩ [.int (u0.1 182 (Int32.toNatClampNeg (0)))] [] rfl rfl (Nat.le_of_ble_eq_true rfl) rfl (Nat.le_of_ble_eq_true rfl) (en_J9_abs_0f7a4 m (u0.1 182 (Int32.toNatClampNeg (0))) u0) (fun q1 => ?_)
  refine xs_aload_n (n := 10) dX12_nextSum_9 rfl rfl ?_
  refine ys_getr (n := 13) dX12_nextSum_10 rfl fl_X12_125 sh_150 rfl ?_
  refine xs_iconst (n := 14) (v := (1)) dX12_nextSum_13 rfl rfl ?_
  refine ys_iaload (n := 15) dX12_nextSum_14 rfl sh_182 ?_
  refine ys_callsi (n := 18) (N := mt_J9_abs_0f7a4) dX12_nextSum_15 rfl ok_J9_abs_0f7a4 tw_1227 st_J9_abs_0f7a4 ⟨Nat.le_of_ble_eq_true rfl, Nat.le_of_ble_eq_true rfl⟩ [.int (q1.2.1 182 (Int32.toNatClampNeg (1)))] [.int q1.1] rfl rfl (Nat.le_of_ble_eq_true rfl) rfl (Nat.le_of_ble_eq_true rfl) (en_J9_abs_0f7a4 m (q1.2.1 182 (Int32.toNatClampNeg (1))) q1.2) (fun q2 => ?_)
  refine xs_iadd (n := 19) dX12_nextSum_18 rfl ?_
  refine xs_aload_n (n := 20) dX12_nextSum_19 rfl rfl ?_
  refine ys_getr (n := 23) dX12_nextSum_20 rfl fl_X12_125 sh_150 rfl ?_
  refine xs_iconst (n := 24) (v := (2)) dX12_nextSum_23 rfl rfl ?_
  refine ys_iaload (n := 25) dX12_nextSum_24 rfl sh_182 ?_
  refine ys_callsi (n := 28) (N := mt_J9_abs_0f7a4) dX12_nextSum_25 rfl ok_J9_abs_0f7a4 tw_1227 st_J9_abs_0f7a4 ⟨Nat.le_of_ble_eq_true rfl, Nat.le_of_ble_eq_true rfl⟩ [.int (q2.2.1 182 (Int32.toNatClampNeg (2)))] [.int (q1.1 + q2.1)] rfl rfl (Nat.le_of_ble_eq_true rfl) rfl (Nat.le_of_ble_eq_true rfl) (en_J9_abs_0f7a4 m (q2.2.1 182 (Int32.toNatClampNeg (2))) q2.2) (fun q3 => ?_)
  refine xs_iadd (n := 29) dX12_nextSum_28 rfl ?_
  refine xs_leti (fun v4 => ?_)
  refine xs_istore_n (n := 30) (lv' := [some (.ref 150), some (.int x0), some (.int v4), none]) dX12_nextSum_29 rfl (Nat.le_of_ble_eq_true rfl) rfl ?_
  refine xs_reg ?_
  refine xs_fg (lv' := [some (.ref 150), some (.int x0), some (.int v4), none]) (And.intro rfl (And.intro rfl (And.intro rfl trivial))) ?_
  refine el_X12_nextSum_30 m x0 _ (fun _ => rfl) (fun q25 => ?_) m v4 q3.2
  refine xs_inr ?_
  refine xs_iconst (n := 152) (v := (0)) dX12_nextSum_151 rfl rfl ?_
  exact xs_zretc dX12_nextSum_152 rfl (Or.inl rfl) rfl
def lp_X12_firstSum_2 (m : Nat) : Nat → Int32 → xm_Y → Option (Int32 × xm_Y)
  | 0, _, _ => none
  | n + 1, l2, u0 =>
  if (3) ≤ l2 then (
  some (l2, u0)) else (
  xm_chk (xm_in l2 3) (xm_let (w_I u0 182 (Int32.toNatClampNeg l2) (0)) fun u2 =>
  xm_let (α := Int32) (l2 + (1)) fun v3 =>
  lp_X12_firstSum_2 m n v3 u2))
def fn_X12_firstSum (m : Nat) (x0 : Int32) (u0 : xm_Y) : Option (Unit × xm_Y) :=
  ((lp_X12_firstSum_2 m m (0) u0).bind fun q4 =>
  ((fn_X12_nextSum m x0 q4.2).bind fun q5 =>
  some ((), q5.2)))
theorem el_X12_firstSum_2 (m : Nat) (c1 : Int32) (K : Int32 × xm_Y → Option (Unit × xm_Y)) (kE : ∀ q : Int32 × xm_Y, xs_ (fun _ : Unit => none) sg_0 mt_X12_firstSum 20 [some (.ref 150), some (.int c1), none] [] q.2 0 0 (K q)) : ∀ (n : Nat) (l2 : Int32) (u0 : xm_Y), xs_ (fun _ : Unit => none) sg_0 mt_X12_firstSum 2 [some (.ref 150), some (.int c1), some (.int l2)] [] u0 0 0 ((lp_X12_firstSum_2 m n l2 u0).bind K) := by
  intro n
  induction n with
  | zero =>
    intro l2 u0
    exact xs_none
  | succ n ih =>
    intro l2 u0
    rw [lp_X12_firstSum_2]
    refine xs_iload_n (n := 3) dX12_firstSum_2 rfl rfl ?_
    refine xs_iconst (n := 4) (v := (3)) dX12_firstSum_3 rfl rfl ?_
    refine xs_icmp_ge (n := 7) (tgt := 20) dX12_firstSum_4 rfl rfl (fun hc1 => ?_) (fun hc1 => ?_)
    · exact xs_gf (kE (l2, u0)) (And.intro rfl (And.intro rfl trivial))
    · refine xs_aload_n (n := 8) dX12_firstSum_7 rfl rfl ?_
      refine ys_getr (n := 11) dX12_firstSum_8 rfl fl_X12_125 sh_150 rfl ?_
      refine xs_iload_n (n := 12) dX12_firstSum_11 rfl rfl ?_
      refine xs_iconst (n := 13) (v := (0)) dX12_firstSum_12 rfl rfl ?_
      refine ys_iastore (n := 14) dX12_firstSum_13 rfl sh_182 (fun u2 => ?_)
      refine xs_iincl (n := 17) (dv := (1)) (fun v3 => [some (.ref 150), some (.int c1), some (.int v3)]) dX12_firstSum_14 rfl rfl rfl (Nat.le_of_ble_eq_true rfl) (fun _ => rfl) (fun v3 => ?_)
      refine xs_goto (n := 2) dX12_firstSum_17 rfl ?_
      exact xs_gf (ih v3 u2) (And.intro rfl (And.intro rfl (And.intro rfl trivial)))
theorem en_X12_firstSum (m : Nat) (x0 : Int32) (u0 : xm_Y) : xs_ (fun _ : Unit => none) sg_0 mt_X12_firstSum 0 [some (.ref 150), some (.int x0), none] [] u0 0 0 (fn_X12_firstSum m x0 u0) := by
  refine xs_top ?_
  rw [fn_X12_firstSum]
  refine xs_iconst (n := 1) (v := (0)) dX12_firstSum_0 rfl rfl ?_
  refine xs_istore_n (n := 2) (lv' := [some (.ref 150), some (.int x0), some (.int (0))]) dX12_firstSum_1 rfl (Nat.le_of_ble_eq_true rfl) rfl ?_
  refine xs_reg ?_
  refine xs_fg (lv' := [some (.ref 150), some (.int x0), some (.int (0))]) (And.intro rfl (And.intro rfl (And.intro rfl trivial))) ?_
  refine el_X12_firstSum_2 m x0 _ (fun q4 => ?_) m (0) u0
  refine xs_aload_n (n := 21) dX12_firstSum_20 rfl rfl ?_
  refine xs_iload_n (n := 22) dX12_firstSum_21 rfl rfl ?_
  refine ys_callvi (n := 25) (N := mt_X12_nextSum) dX12_firstSum_22 rfl ok_X12_nextSum tw_1223 im_X12_nextSum se_X12_nextSum ⟨Nat.le_of_ble_eq_true rfl, Nat.le_of_ble_eq_true rfl⟩ [.int x0] [] rfl rfl (Nat.le_of_ble_eq_true rfl) rfl (Nat.le_of_ble_eq_true rfl) (en_X12_nextSum m x0 q4.2) sh_150 (by decide) rfl (fun q5 => ?_)
  refine xs_istore_n (n := 26) (lv' := [some (.ref 150), some (.int x0), some (.int q5.1)]) dX12_firstSum_25 rfl (Nat.le_of_ble_eq_true rfl) rfl ?_
  exact xs_vret dX12_firstSum_26 rfl rfl
def fn_X12_isSize (m : Nat) (x0 : Int32) (u0 : xm_Y) : Option (Int32 × xm_Y) :=
  ((if x0 < (1) then (
  some ((0))) else (
  if (5) < x0 then (
  some ((0))) else (
  some ((1)))) : Option (Int32)).bind fun q1 =>
  xm_chk (q1 = 0 ∨ q1 = 1) (some (q1, u0)))
theorem en_X12_isSize (m : Nat) (x0 : Int32) (u0 : xm_Y) : xs_ (fun x : Int32 => some (.int x)) sg_0 mt_X12_isSize 0 [some (.int x0)] [] u0 0 0 (fn_X12_isSize m x0 u0) := by
  refine xs_top ?_
  rw [fn_X12_isSize]
  refine xs_iload_n (n := 1) dX12_isSize_0 rfl rfl ?_
  refine xs_iconst (n := 2) (v := (1)) dX12_isSize_1 rfl rfl ?_
  refine xs_join 15 (fun q1 => [none]) (fun q1 => [.int q1]) (fun q1 => u0) (fun q1 => ?_) (fun kj2 => ?_)
  · exact xs_zret dX12_isSize_15 rfl rfl
  · refine xs_icmp_lt (n := 5) (tgt := 14) dX12_isSize_2 rfl rfl (fun hc3 => ?_) (fun hc3 => ?_)
    · refine xs_iconst (n := 15) (v := (0)) dX12_isSize_14 rfl rfl ?_
      exact xs_gf (kj2 ((0))) trivial
    · refine xs_iload_n (n := 6) dX12_isSize_5 rfl rfl ?_
      refine xs_iconst (n := 7) (v := (5)) dX12_isSize_6 rfl rfl ?_
      refine xs_icmp_gt (n := 10) (tgt := 14) dX12_isSize_7 rfl rfl (fun hc4 => ?_) (fun hc4 => ?_)
      · refine xs_iconst (n := 15) (v := (0)) dX12_isSize_14 rfl rfl ?_
        exact xs_gf (kj2 ((0))) trivial
      · refine xs_iconst (n := 11) (v := (1)) dX12_isSize_10 rfl rfl ?_
        refine xs_goto (n := 15) dX12_isSize_11 rfl ?_
        exact xs_gf (kj2 ((1))) trivial
def lp_X12_rank_62 (m : Nat) : Nat → Int32 → xm_Y → Option (Int32 × xm_Y)
  | 0, _, _ => none
  | n + 1, l3, u0 =>
  if (3) ≤ l3 then (
  some (l3, u0)) else (
  xm_chk (xm_in l3 3) (
  xm_chk (xm_in l3 3) (xm_let (w_I u0 162 (Int32.toNatClampNeg l3) (u0.1 182 (Int32.toNatClampNeg l3))) fun u12 =>
  xm_chk (xm_in l3 3) (
  xm_chk (xm_in l3 15) (xm_let (w_I u12 161 (Int32.toNatClampNeg l3) (u12.1 182 (Int32.toNatClampNeg l3))) fun u13 =>
  xm_let (α := Int32) (l3 + (1)) fun v14 =>
  lp_X12_rank_62 m n v14 u13)))))
def lp_X12_rank_21 (m : Nat) (c1 : Int32) : Nat → Int32 → xm_Y → Option ((Int32 × xm_Y) ⊕ (Int32 × xm_Y))
  | 0, _, _ => none
  | n + 1, l2, u0 =>
  if l2 = 0 then (
  some (.inr (l2, u0))) else (
  xm_chk (xm_in (0) 3) (
  xm_chk (xm_in (1) 3) (
  xm_chk (xm_in (2) 3) (
  ((fn_X12_doesRank m (u0.1 182 (Int32.toNatClampNeg (0))) (u0.1 182 (Int32.toNatClampNeg (1))) (u0.1 182 (Int32.toNatClampNeg (2))) u0).bind fun q6 =>
  if q6.1 = 0 then (
  ((fn_X12_nextSum m c1 q6.2).bind fun q8 =>
  lp_X12_rank_21 m c1 n q8.1 q8.2)) else (
  xm_let (w_I q6.2 150 21 (1)) fun u9 =>
  xm_let (w_I u9 150 19 (1)) fun u10 =>
  ((lp_X12_rank_62 m m (0) u10).bind fun q15 =>
  some (.inl ((1), q15.2)))))))))
def fn_X12_rank (m : Nat) (x0 : Int32) (u0 : xm_Y) : Option (Int32 × xm_Y) :=
  ((fn_X12_isSize m x0 u0).bind fun q1 =>
  if q1.1 = 0 then (
  some ((-1), q1.2)) else (
  xm_let (w_I q1.2 150 21 (0)) fun u3 =>
  ((fn_X12_firstSum m x0 u3).bind fun q4 =>
  ((lp_X12_rank_21 m x0 m (1) q4.2).bind (Sum.elim (fun r => some r) (fun q16 =>
  some ((0), q16.2)))))))
theorem el_X12_rank_62 (m : Nat) (K : Int32 × xm_Y → Option (Int32 × xm_Y)) (kE : ∀ q : Int32 × xm_Y, xs_ (fun x : Int32 => some (.int x)) sg_0 mt_X12_rank 97 [none, none, none, none] [] q.2 0 0 (K q)) : ∀ (n : Nat) (l3 : Int32) (u0 : xm_Y), xs_ (fun x : Int32 => some (.int x)) sg_0 mt_X12_rank 62 [some (.ref 150), none, none, some (.int l3)] [] u0 0 0 ((lp_X12_rank_62 m n l3 u0).bind K) := by
  intro n
  induction n with
  | zero =>
    intro l3 u0
    exact xs_none
  | succ n ih =>
    intro l3 u0
    rw [lp_X12_rank_62]
    refine xs_iload_n (n := 63) dX12_rank_62 rfl rfl ?_
    refine xs_iconst (n := 64) (v := (3)) dX12_rank_63 rfl rfl ?_
    refine xs_icmp_ge (n := 67) (tgt := 97) dX12_rank_64 rfl rfl (fun hc11 => ?_) (fun hc11 => ?_)
    · exact xs_gf (kE (l3, u0)) trivial
    · refine xs_aload_n (n := 68) dX12_rank_67 rfl rfl ?_
      refine ys_getr (n := 71) dX12_rank_68 rfl fl_X12_49 sh_150 rfl ?_
      refine xs_iload_n (n := 72) dX12_rank_71 rfl rfl ?_
      refine xs_aload_n (n := 73) dX12_rank_72 rfl rfl ?_
      refine ys_getr (n := 76) dX12_rank_73 rfl fl_X12_125 sh_150 rfl ?_
      refine xs_iload_n (n := 77) dX12_rank_76 rfl rfl ?_
      refine ys_iaload (n := 78) dX12_rank_77 rfl sh_182 ?_
      refine ys_iastore (n := 79) dX12_rank_78 rfl sh_162 (fun u12 => ?_)
      refine xs_aload_n (n := 80) dX12_rank_79 rfl rfl ?_
      refine ys_getr (n := 83) dX12_rank_80 rfl fl_X12_46 sh_150 rfl ?_
      refine xs_iload_n (n := 84) dX12_rank_83 rfl rfl ?_
      refine xs_aload_n (n := 85) dX12_rank_84 rfl rfl ?_
      refine ys_getr (n := 88) dX12_rank_85 rfl fl_X12_125 sh_150 rfl ?_
      refine xs_iload_n (n := 89) dX12_rank_88 rfl rfl ?_
      refine ys_iaload (n := 90) dX12_rank_89 rfl sh_182 ?_
      refine ys_iastore (n := 91) dX12_rank_90 rfl sh_161 (fun u13 => ?_)
      refine xs_iincl (n := 94) (dv := (1)) (fun v14 => [some (.ref 150), none, none, some (.int v14)]) dX12_rank_91 rfl rfl rfl (Nat.le_of_ble_eq_true rfl) (fun _ => rfl) (fun v14 => ?_)
      refine xs_goto (n := 62) dX12_rank_94 rfl ?_
      exact xs_gf (ih v14 u13) (And.intro rfl (And.intro rfl trivial))
theorem el_X12_rank_21 (m : Nat) (c1 : Int32) (K : (Int32 × xm_Y) ⊕ (Int32 × xm_Y) → Option (Int32 × xm_Y)) (hK : ∀ r, K (.inl r) = some r) (kE : ∀ q : Int32 × xm_Y, xs_ (fun x : Int32 => some (.int x)) sg_0 mt_X12_rank 108 [none, none, none, none] [] q.2 0 0 (K (.inr q))) : ∀ (n : Nat) (l2 : Int32) (u0 : xm_Y), xs_ (fun x : Int32 => some (.int x)) sg_0 mt_X12_rank 21 [some (.ref 150), some (.int c1), some (.int l2), none] [] u0 0 0 ((lp_X12_rank_21 m c1 n l2 u0).bind K) := by
  intro n
  induction n with
  | zero =>
    intro l2 u0
    exact xs_none
  | succ n ih =>
    intro l2 u0
    rw [lp_X12_rank_21]
    refine xs_iload_n (n := 22) dX12_rank_21 rfl rfl ?_
    refine xs_if_eq (n := 25) (tgt := 108) dX12_rank_22 rfl rfl (fun hc5 => ?_) (fun hc5 => ?_)
    · exact xs_gf (kE (l2, u0)) trivial
    · refine xs_aload_n (n := 26) dX12_rank_25 rfl rfl ?_
      refine xs_aload_n (n := 27) dX12_rank_26 rfl rfl ?_
      refine ys_getr (n := 30) dX12_rank_27 rfl fl_X12_125 sh_150 rfl ?_
      refine xs_iconst (n := 31) (v := (0)) dX12_rank_30 rfl rfl ?_
      refine ys_iaload (n := 32) dX12_rank_31 rfl sh_182 ?_
      refine xs_aload_n (n := 33) dX12_rank_32 rfl rfl ?_
      refine ys_getr (n := 36) dX12_rank_33 rfl fl_X12_125 sh_150 rfl ?_
      refine xs_iconst (n := 37) (v := (1)) dX12_rank_36 rfl rfl ?_
      refine ys_iaload (n := 38) dX12_rank_37 rfl sh_182 ?_
      refine xs_aload_n (n := 39) dX12_rank_38 rfl rfl ?_
      refine ys_getr (n := 42) dX12_rank_39 rfl fl_X12_125 sh_150 rfl ?_
      refine xs_iconst (n := 43) (v := (2)) dX12_rank_42 rfl rfl ?_
      refine ys_iaload (n := 44) dX12_rank_43 rfl sh_182 ?_
      refine ys_callvi (n := 47) (N := mt_X12_doesRank) dX12_rank_44 rfl ok_X12_doesRank tw_1113 im_X12_doesRank se_X12_doesRank ⟨Nat.le_of_ble_eq_true rfl, Nat.le_of_ble_eq_true rfl⟩ [.int (u0.1 182 (Int32.toNatClampNeg (0))), .int (u0.1 182 (Int32.toNatClampNeg (1))), .int (u0.1 182 (Int32.toNatClampNeg (2)))] [] rfl rfl (Nat.le_of_ble_eq_true rfl) rfl (Nat.le_of_ble_eq_true rfl) (en_X12_doesRank m (u0.1 182 (Int32.toNatClampNeg (0))) (u0.1 182 (Int32.toNatClampNeg (1))) (u0.1 182 (Int32.toNatClampNeg (2))) u0) sh_150 (by decide) rfl (fun q6 => ?_)
      refine xs_if_eq (n := 50) (tgt := 99) dX12_rank_47 rfl rfl (fun hc7 => ?_) (fun hc7 => ?_)
      · refine xs_aload_n (n := 100) dX12_rank_99 rfl rfl ?_
        refine xs_iload_n (n := 101) dX12_rank_100 rfl rfl ?_
        refine ys_callvi (n := 104) (N := mt_X12_nextSum) dX12_rank_101 rfl ok_X12_nextSum tw_1223 im_X12_nextSum se_X12_nextSum ⟨Nat.le_of_ble_eq_true rfl, Nat.le_of_ble_eq_true rfl⟩ [.int c1] [] rfl rfl (Nat.le_of_ble_eq_true rfl) rfl (Nat.le_of_ble_eq_true rfl) (en_X12_nextSum m c1 q6.2) sh_150 (by decide) rfl (fun q8 => ?_)
        refine xs_istore_n (n := 105) (lv' := [some (.ref 150), some (.int c1), some (.int q8.1), none]) dX12_rank_104 rfl (Nat.le_of_ble_eq_true rfl) rfl ?_
        refine xs_goto (n := 21) dX12_rank_105 rfl ?_
        exact xs_gf (ih q8.1 q8.2) (And.intro rfl (And.intro rfl (And.intro rfl trivial)))
      · refine xs_aload_n (n := 51) dX12_rank_50 rfl rfl ?_
        refine xs_iconst (n := 52) (v := (1)) dX12_rank_51 rfl rfl ?_
        refine ys_putzc (n := 55) dX12_rank_52 rfl fl_X12_131 rfl sh_150 (Or.inr rfl) (fun u9 => ?_)
        refine xs_aload_n (n := 56) dX12_rank_55 rfl rfl ?_
        refine xs_iconst (n := 57) (v := (1)) dX12_rank_56 rfl rfl ?_
        refine ys_puti (n := 60) dX12_rank_57 rfl fl_X12_138 rfl sh_150 (fun u10 => ?_)
        refine xs_iconst (n := 61) (v := (0)) dX12_rank_60 rfl rfl ?_
        refine xs_istore_n (n := 62) (lv' := [some (.ref 150), some (.int c1), some (.int l2), some (.int (0))]) dX12_rank_61 rfl (Nat.le_of_ble_eq_true rfl) rfl ?_
        refine xs_reg ?_
        refine xs_fg (lv' := [some (.ref 150), none, none, some (.int (0))]) (And.intro rfl (And.intro rfl trivial)) ?_
        refine el_X12_rank_62 m _ (fun q15 => ?_) m (0) u10
        refine xs_iconst (n := 98) (v := (1)) dX12_rank_97 rfl rfl ?_
        exact xs_iret dX12_rank_98 rfl (hK _)
theorem en_X12_rank (m : Nat) (x0 : Int32) (u0 : xm_Y) : xs_ (fun x : Int32 => some (.int x)) sg_0 mt_X12_rank 0 [some (.ref 150), some (.int x0), none, none] [] u0 0 0 (fn_X12_rank m x0 u0) := by
  refine xs_top ?_
  rw [fn_X12_rank]
  refine xs_iload_n (n := 1) dX12_rank_0 rfl rfl ?_
  refine ys_callsi (n := 4) (N := mt_X12_isSize) dX12_rank_1 rfl ok_X12_isSize tw_1216 st_X12_isSize ⟨Nat.le_of_ble_eq_true rfl, Nat.le_of_ble_eq_true rfl⟩ [.int x0] [] rfl rfl (Nat.le_of_ble_eq_true rfl) rfl (Nat.le_of_ble_eq_true rfl) (en_X12_isSize m x0 u0) (fun q1 => ?_)
  refine xs_if_ne (n := 7) (tgt := 9) dX12_rank_4 rfl rfl (fun hc2 => ?_) (fun hc2 => ?_)
  · refine xs_iconst (n := 8) (v := (-1)) dX12_rank_7 rfl rfl ?_
    exact xs_iret dX12_rank_8 rfl rfl
  · refine xs_aload_n (n := 10) dX12_rank_9 rfl rfl ?_
    refine xs_iconst (n := 11) (v := (0)) dX12_rank_10 rfl rfl ?_
    refine ys_putzc (n := 14) dX12_rank_11 rfl fl_X12_131 rfl sh_150 (Or.inl rfl) (fun u3 => ?_)
    refine xs_aload_n (n := 15) dX12_rank_14 rfl rfl ?_
    refine xs_iload_n (n := 16) dX12_rank_15 rfl rfl ?_
    refine ys_callvv (n := 19) (N := mt_X12_firstSum) dX12_rank_16 rfl ok_X12_firstSum tw_1219 im_X12_firstSum se_X12_firstSum ⟨Nat.le_of_ble_eq_true rfl, Nat.le_of_ble_eq_true rfl⟩ [.int x0] [] rfl rfl (Nat.le_of_ble_eq_true rfl) rfl (Nat.le_of_ble_eq_true rfl) (en_X12_firstSum m x0 u3) sh_150 (by decide) rfl (fun q4 => ?_)
    refine xs_iconst (n := 20) (v := (1)) dX12_rank_19 rfl rfl ?_
    refine xs_istore_n (n := 21) (lv' := [some (.ref 150), some (.int x0), some (.int (1)), none]) dX12_rank_20 rfl (Nat.le_of_ble_eq_true rfl) rfl ?_
    refine xs_reg ?_
    refine xs_fg (lv' := [some (.ref 150), some (.int x0), some (.int (1)), none]) (And.intro rfl (And.intro rfl (And.intro rfl trivial))) ?_
    refine el_X12_rank_21 m x0 _ (fun _ => rfl) (fun q16 => ?_) m (1) q4.2
    refine xs_inr ?_
    refine xs_iconst (n := 109) (v := (0)) dX12_rank_108 rfl rfl ?_
    exact xs_iret dX12_rank_109 rfl rfl
def lp_X12_takes_6 (m : Nat) : Nat → Int32 → Int32 → Int32 → xm_Y → Option (Int32 × Int32 × Int32 × xm_Y)
  | 0, _, _, _, _ => none
  | n + 1, l1, l2, l3, u0 =>
  if (u0.1 150 1) ≤ l3 then (
  some (l1, l2, l3, u0)) else (
  if l1 = 0 then (
  some (l1, l2, l3, u0)) else (
  xm_chk (xm_in l3 5) (
  ((if (u0.1 164 (Int32.toNatClampNeg l3)) = 0 then (
  some (l1, l2, u0)) else (
  xm_chk (xm_in (0) 3) (
  xm_chk (xm_in (1) 3) (
  xm_chk (xm_in (2) 3) (
  ((fn_X12_tellsOf m l3 (u0.1 182 (Int32.toNatClampNeg (0))) (u0.1 182 (Int32.toNatClampNeg (1))) (u0.1 182 (Int32.toNatClampNeg (2))) u0).bind fun q6 =>
  xm_chk (¬ (2) = 0) (
  ((if (q6.1 - q6.1 / (2) * (2)) = (1) then (
  some ((1))) else (
  some ((0))) : Option (Int32)).bind fun q7 =>
  ((if l2 = 0 then (
  if q6.1 < (6) then (
  some ((0))) else (
  some ((1)))) else (
  some ((1))) : Option (Int32)).bind fun q10 =>
  some (q7, q10, q6.2))))))))) : Option (Int32 × Int32 × xm_Y)).bind fun q3 =>
  xm_let (α := Int32) (l3 + (1)) fun v14 =>
  lp_X12_takes_6 m n q3.1 q3.2.1 v14 q3.2.2))))
def fn_X12_takes (m : Nat) (u0 : xm_Y) : Option (Int32 × xm_Y) :=
  ((lp_X12_takes_6 m m (1) (0) (0) u0).bind fun q15 =>
  ((if q15.1 = 0 then (
  some ((0))) else (
  if q15.2.1 = 0 then (
  some ((0))) else (
  some ((1)))) : Option (Int32)).bind fun q16 =>
  xm_chk (q16 = 0 ∨ q16 = 1) (some (q16, q15.2.2.2))))
theorem el_X12_takes_6 (m : Nat) (K : Int32 × Int32 × Int32 × xm_Y → Option (Int32 × xm_Y)) (kE : ∀ q : Int32 × Int32 × Int32 × xm_Y, xs_ (fun x : Int32 => some (.int x)) sg_0 mt_X12_takes 89 [none, some (.int q.1), some (.int q.2.1), none, none] [] q.2.2.2 0 0 (K q)) : ∀ (n : Nat) (l1 : Int32) (l2 : Int32) (l3 : Int32) (u0 : xm_Y), xs_ (fun x : Int32 => some (.int x)) sg_0 mt_X12_takes 6 [some (.ref 150), some (.int l1), some (.int l2), some (.int l3), none] [] u0 0 0 ((lp_X12_takes_6 m n l1 l2 l3 u0).bind K) := by
  intro n
  induction n with
  | zero =>
    intro l1 l2 l3 u0
    exact xs_none
  | succ n ih =>
    intro l1 l2 l3 u0
    rw [lp_X12_takes_6]
    refine xs_iload_n (n := 7) dX12_takes_6 rfl rfl ?_
    refine xs_aload_n (n := 8) dX12_takes_7 rfl rfl ?_
    refine ys_geti (n := 11) dX12_takes_8 rfl fl_X12_135 (Or.inl rfl) sh_150 ?_
    refine xs_icmp_ge (n := 14) (tgt := 89) dX12_takes_11 rfl rfl (fun hc1 => ?_) (fun hc1 => ?_)
    · exact xs_gf (kE (l1, l2, l3, u0)) (And.intro rfl (And.intro rfl trivial))
    · refine xs_iload_n (n := 15) dX12_takes_14 rfl rfl ?_
      refine xs_if_eq (n := 18) (tgt := 89) dX12_takes_15 rfl rfl (fun hc2 => ?_) (fun hc2 => ?_)
      · exact xs_gf (kE (l1, l2, l3, u0)) (And.intro rfl (And.intro rfl trivial))
      · refine xs_aload_n (n := 19) dX12_takes_18 rfl rfl ?_
        refine ys_getr (n := 22) dX12_takes_19 rfl fl_X12_55 sh_150 rfl ?_
        refine xs_iload_n (n := 23) dX12_takes_22 rfl rfl ?_
        refine ys_baload (n := 24) dX12_takes_23 rfl sh_164 ?_
        refine xs_join 83 (fun q3 => [some (.ref 150), some (.int q3.1), some (.int q3.2.1), some (.int l3), none]) (fun q3 => []) (fun q3 => q3.2.2) (fun q3 => ?_) (fun kj4 => ?_)
        · refine xs_iincl (n := 86) (dv := (1)) (fun v14 => [some (.ref 150), some (.int q3.1), some (.int q3.2.1), some (.int v14), none]) dX12_takes_83 rfl rfl rfl (Nat.le_of_ble_eq_true rfl) (fun _ => rfl) (fun v14 => ?_)
          refine xs_goto (n := 6) dX12_takes_86 rfl ?_
          exact xs_gf (ih q3.1 q3.2.1 v14 q3.2.2) (And.intro rfl (And.intro rfl (And.intro rfl (And.intro rfl trivial))))
        · refine xs_if_eq (n := 27) (tgt := 83) dX12_takes_24 rfl rfl (fun hc5 => ?_) (fun hc5 => ?_)
          · exact xs_gf (kj4 (l1, l2, u0)) (And.intro rfl (And.intro rfl (And.intro rfl (And.intro rfl trivial))))
          · refine xs_aload_n (n := 28) dX12_takes_27 rfl rfl ?_
            refine xs_iload_n (n := 29) dX12_takes_28 rfl rfl ?_
            refine xs_aload_n (n := 30) dX12_takes_29 rfl rfl ?_
            refine ys_getr (n := 33) dX12_takes_30 rfl fl_X12_125 sh_150 rfl ?_
            refine xs_iconst (n := 34) (v := (0)) dX12_takes_33 rfl rfl ?_
            refine ys_iaload (n := 35) dX12_takes_34 rfl sh_182 ?_
            refine xs_aload_n (n := 36) dX12_takes_35 rfl rfl ?_
            refine ys_getr (n := 39) dX12_takes_36 rfl fl_X12_125 sh_150 rfl ?_
            refine xs_iconst (n := 40) (v := (1)) dX12_takes_39 rfl rfl ?_
            refine ys_iaload (n := 41) dX12_takes_40 rfl sh_182 ?_
            refine xs_aload_n (n := 42) dX12_takes_41 rfl rfl ?_
            refine ys_getr (n := 45) dX12_takes_42 rfl fl_X12_125 sh_150 rfl ?_
            refine xs_iconst (n := 46) (v := (2)) dX12_takes_45 rfl rfl ?_
            refine ys_iaload (n := 47) dX12_takes_46 rfl sh_182 ?_
            refine ys_callvi (n := 50) (N := mt_X12_tellsOf) dX12_takes_47 rfl ok_X12_tellsOf tw_1117 im_X12_tellsOf se_X12_tellsOf ⟨Nat.le_of_ble_eq_true rfl, Nat.le_of_ble_eq_true rfl⟩ [.int l3, .int (u0.1 182 (Int32.toNatClampNeg (0))), .int (u0.1 182 (Int32.toNatClampNeg (1))), .int (u0.1 182 (Int32.toNatClampNeg (2)))] [] rfl rfl (Nat.le_of_ble_eq_true rfl) rfl (Nat.le_of_ble_eq_true rfl) (en_X12_tellsOf m l3 (u0.1 182 (Int32.toNatClampNeg (0))) (u0.1 182 (Int32.toNatClampNeg (1))) (u0.1 182 (Int32.toNatClampNeg (2))) u0) sh_150 (by decide) rfl (fun q6 => ?_)
            refine xs_istore (n := 52) (lv' := [some (.ref 150), some (.int l1), some (.int l2), some (.int l3), some (.int q6.1)]) dX12_takes_50 rfl (Nat.le_of_ble_eq_true rfl) rfl ?_
            refine xs_iload (n := 54) dX12_takes_52 rfl rfl ?_
            refine xs_iconst (n := 55) (v := (2)) dX12_takes_54 rfl rfl ?_
            refine xs_irem (n := 56) dX12_takes_55 rfl (fun _ => ?_)
            refine xs_iconst (n := 57) (v := (1)) dX12_takes_56 rfl rfl ?_
            refine xs_join 65 (fun q7 => [some (.ref 150), none, some (.int l2), some (.int l3), some (.int q6.1)]) (fun q7 => [.int q7]) (fun q7 => q6.2) (fun q7 => ?_) (fun kj8 => ?_)
            · refine xs_istore_n (n := 66) (lv' := [some (.ref 150), some (.int q7), some (.int l2), some (.int l3), some (.int q6.1)]) dX12_takes_65 rfl (Nat.le_of_ble_eq_true rfl) rfl ?_
              refine xs_iload_n (n := 67) dX12_takes_66 rfl rfl ?_
              refine xs_join 82 (fun q10 => [some (.ref 150), some (.int q7), none, some (.int l3), none]) (fun q10 => [.int q10]) (fun q10 => q6.2) (fun q10 => ?_) (fun kj11 => ?_)
              · refine xs_istore_n (n := 83) (lv' := [some (.ref 150), some (.int q7), some (.int q10), some (.int l3), none]) dX12_takes_82 rfl (Nat.le_of_ble_eq_true rfl) rfl ?_
                exact xs_gf (kj4 (q7, q10, q6.2)) (And.intro rfl (And.intro rfl (And.intro rfl (And.intro rfl trivial))))
              · refine xs_if_ne (n := 70) (tgt := 77) dX12_takes_67 rfl rfl (fun hc12 => ?_) (fun hc12 => ?_)
                · refine xs_iload (n := 72) dX12_takes_70 rfl rfl ?_
                  refine xs_bipush (n := 74) (v := (6)) dX12_takes_72 rfl rfl ?_
                  refine xs_icmp_lt (n := 77) (tgt := 81) dX12_takes_74 rfl rfl (fun hc13 => ?_) (fun hc13 => ?_)
                  · refine xs_iconst (n := 82) (v := (0)) dX12_takes_81 rfl rfl ?_
                    exact xs_gf (kj11 ((0))) (And.intro rfl (And.intro rfl (And.intro rfl trivial)))
                  · refine xs_iconst (n := 78) (v := (1)) dX12_takes_77 rfl rfl ?_
                    refine xs_goto (n := 82) dX12_takes_78 rfl ?_
                    exact xs_gf (kj11 ((1))) (And.intro rfl (And.intro rfl (And.intro rfl trivial)))
                · refine xs_iconst (n := 78) (v := (1)) dX12_takes_77 rfl rfl ?_
                  refine xs_goto (n := 82) dX12_takes_78 rfl ?_
                  exact xs_gf (kj11 ((1))) (And.intro rfl (And.intro rfl (And.intro rfl trivial)))
            · refine xs_icmp_ne (n := 60) (tgt := 64) dX12_takes_57 rfl rfl (fun hc9 => ?_) (fun hc9 => ?_)
              · refine xs_iconst (n := 61) (v := (1)) dX12_takes_60 rfl rfl ?_
                refine xs_goto (n := 65) dX12_takes_61 rfl ?_
                exact xs_gf (kj8 ((1))) (And.intro rfl (And.intro rfl (And.intro rfl (And.intro rfl trivial))))
              · refine xs_iconst (n := 65) (v := (0)) dX12_takes_64 rfl rfl ?_
                exact xs_gf (kj8 ((0))) (And.intro rfl (And.intro rfl (And.intro rfl (And.intro rfl trivial))))
theorem en_X12_takes (m : Nat) (u0 : xm_Y) : xs_ (fun x : Int32 => some (.int x)) sg_0 mt_X12_takes 0 [some (.ref 150), none, none, none, none] [] u0 0 0 (fn_X12_takes m u0) := by
  refine xs_top ?_
  rw [fn_X12_takes]
  refine xs_iconst (n := 1) (v := (1)) dX12_takes_0 rfl rfl ?_
  refine xs_istore_n (n := 2) (lv' := [some (.ref 150), some (.int (1)), none, none, none]) dX12_takes_1 rfl (Nat.le_of_ble_eq_true rfl) rfl ?_
  refine xs_iconst (n := 3) (v := (0)) dX12_takes_2 rfl rfl ?_
  refine xs_istore_n (n := 4) (lv' := [some (.ref 150), some (.int (1)), some (.int (0)), none, none]) dX12_takes_3 rfl (Nat.le_of_ble_eq_true rfl) rfl ?_
  refine xs_iconst (n := 5) (v := (0)) dX12_takes_4 rfl rfl ?_
  refine xs_istore_n (n := 6) (lv' := [some (.ref 150), some (.int (1)), some (.int (0)), some (.int (0)), none]) dX12_takes_5 rfl (Nat.le_of_ble_eq_true rfl) rfl ?_
  refine xs_reg ?_
  refine xs_fg (lv' := [some (.ref 150), some (.int (1)), some (.int (0)), some (.int (0)), none]) (And.intro rfl (And.intro rfl (And.intro rfl (And.intro rfl trivial)))) ?_
  refine el_X12_takes_6 m _ (fun q15 => ?_) m (1) (0) (0) u0
  refine xs_iload_n (n := 90) dX12_takes_89 rfl rfl ?_
  refine xs_join 102 (fun q16 => [none, none, none, none, none]) (fun q16 => [.int q16]) (fun q16 => q15.2.2.2) (fun q16 => ?_) (fun kj17 => ?_)
  · exact xs_zret dX12_takes_102 rfl rfl
  · refine xs_if_eq (n := 93) (tgt := 101) dX12_takes_90 rfl rfl (fun hc18 => ?_) (fun hc18 => ?_)
    · refine xs_iconst (n := 102) (v := (0)) dX12_takes_101 rfl rfl ?_
      exact xs_gf (kj17 ((0))) trivial
    · refine xs_iload_n (n := 94) dX12_takes_93 rfl rfl ?_
      refine xs_if_eq (n := 97) (tgt := 101) dX12_takes_94 rfl rfl (fun hc19 => ?_) (fun hc19 => ?_)
      · refine xs_iconst (n := 102) (v := (0)) dX12_takes_101 rfl rfl ?_
        exact xs_gf (kj17 ((0))) trivial
      · refine xs_iconst (n := 98) (v := (1)) dX12_takes_97 rfl rfl ?_
        refine xs_goto (n := 102) dX12_takes_98 rfl ?_
        exact xs_gf (kj17 ((1))) trivial
def lp_X12_rows_16 (m : Nat) : Nat → Int32 → xm_Y → Option (Int32 × xm_Y)
  | 0, _, _ => none
  | n + 1, l3, u0 =>
  if (5) ≤ l3 then (
  some (l3, u0)) else (
  ((if (u0.1 150 1) ≤ l3 then (
  some ((0))) else (
  some ((1))) : Option (Int32)).bind fun q5 =>
  xm_chk (xm_in l3 5) (xm_let (w_I u0 164 (Int32.toNatClampNeg l3) (vp_nar .boolean q5)) fun u8 =>
  xm_chk (xm_in l3 5) (xm_let (w_I u8 163 (Int32.toNatClampNeg l3) (-1)) fun u9 =>
  xm_let (α := Int32) (l3 + (1)) fun v10 =>
  lp_X12_rows_16 m n v10 u9))))
def lp_X12_rows_75 (m : Nat) (c1 : Int32) : Nat → Int32 → xm_Y → Option (Int32 × xm_Y)
  | 0, _, _ => none
  | n + 1, l5, u0 =>
  if l5 = 0 then (
  some (l5, u0)) else (
  ((fn_X12_takes m u0).bind fun q16 =>
  if q16.1 = 0 then (
  ((fn_X12_nextSum m c1 q16.2).bind fun q18 =>
  lp_X12_rows_75 m c1 n q18.1 q18.2)) else (
  some (l5, q16.2))))
def lp_X12_rows_104 (m : Nat) (c3 : Int32) (c5 : Int32) : Nat → Int32 → Int32 → xm_Y → Option (Int32 × Int32 × xm_Y)
  | 0, _, _, _ => none
  | n + 1, l2, l6, u0 =>
  if (u0.1 150 1) ≤ l6 then (
  some (l2, l6, u0)) else (
  if c5 = 0 then (
  some (l2, l6, u0)) else (
  xm_chk (xm_in l6 5) (
  ((if (u0.1 164 (Int32.toNatClampNeg l6)) = 0 then (
  some (l2, u0)) else (
  xm_chk (xm_in (0) 3) (
  xm_chk (xm_in (1) 3) (
  xm_chk (xm_in (2) 3) (
  ((fn_X12_tellsOf m l6 (u0.1 182 (Int32.toNatClampNeg (0))) (u0.1 182 (Int32.toNatClampNeg (1))) (u0.1 182 (Int32.toNatClampNeg (2))) u0).bind fun q25 =>
  if q25.1 < (6) then (
  some (l2, q25.2)) else (
  xm_chk (xm_in l6 5) (xm_let (w_I q25.2 164 (Int32.toNatClampNeg l6) (vp_nar .boolean (0))) fun u27 =>
  xm_chk (xm_in l6 5) (xm_let (w_I u27 163 (Int32.toNatClampNeg l6) c3) fun u28 =>
  xm_let (α := Int32) (l2 + (-1)) fun v29 =>
  some (v29, u28))))))))) : Option (Int32 × xm_Y)).bind fun q22 =>
  xm_let (α := Int32) (l6 + (1)) fun v30 =>
  lp_X12_rows_104 m c3 c5 n q22.1 v30 q22.2))))
def lp_X12_rows_185 (m : Nat) (c3 : Int32) (c5 : Int32) : Nat → Int32 → xm_Y → Option (Int32 × xm_Y)
  | 0, _, _ => none
  | n + 1, l6, u0 =>
  if (3) ≤ l6 then (
  some (l6, u0)) else (
  if c5 = 0 then (
  some (l6, u0)) else (
  xm_chk (xm_in l6 3) (
  xm_chk (xm_in (((3) * c3) + l6) 15) (xm_let (w_I u0 161 (Int32.toNatClampNeg (((3) * c3) + l6)) (u0.1 182 (Int32.toNatClampNeg l6))) fun u34 =>
  xm_let (α := Int32) (l6 + (1)) fun v35 =>
  lp_X12_rows_185 m c3 c5 n v35 u34))))
def lp_X12_rows_58 (m : Nat) (c1 : Int32) : Nat → Int32 → Int32 → Int32 → xm_Y → Option (Int32 × Int32 × Int32 × xm_Y)
  | 0, _, _, _, _ => none
  | n + 1, l2, l3, l4, u0 =>
  if l2 ≤ 0 then (
  some (l2, l3, l4, u0)) else (
  if l4 = 0 then (
  some (l2, l3, l4, u0)) else (
  ((fn_X12_firstSum m c1 u0).bind fun q14 =>
  ((lp_X12_rows_75 m c1 m (1) q14.2).bind fun q19 =>
  ((lp_X12_rows_104 m l3 q19.1 m l2 (0) q19.2).bind fun q31 =>
  ((lp_X12_rows_185 m l3 q19.1 m (0) q31.2.2).bind fun q36 =>
  ((if q19.1 = 0 then (
  some ((0))) else (
  some ((1))) : Option (Int32)).bind fun q37 =>
  xm_let (α := Int32) ((l3 + q37)) fun v40 =>
  lp_X12_rows_58 m c1 n q31.1 v40 q19.1 q36.2)))))))
def fn_X12_rows (m : Nat) (x0 : Int32) (u0 : xm_Y) : Option (Int32 × xm_Y) :=
  ((fn_X12_isSize m x0 u0).bind fun q1 =>
  if q1.1 = 0 then (
  some ((-1), q1.2)) else (
  xm_let (α := Int32) ((q1.2.1 150 1)) fun v3 =>
  ((lp_X12_rows_16 m m (0) q1.2).bind fun q11 =>
  ((lp_X12_rows_58 m x0 m v3 (0) (1) q11.2).bind fun q41 =>
  ((if q41.2.1 ≤ 0 then (
  some ((q41.2.2.2.1 150 19))) else (
  some (q41.2.1)) : Option (Int32)).bind fun q42 =>
  xm_let (w_I q41.2.2.2 150 19 q42) fun u45 =>
  ((if q41.1 ≤ 0 then (
  some (q41.2.1)) else (
  some ((-3))) : Option (Int32)).bind fun q46 =>
  some (q46, u45)))))))
theorem el_X12_rows_16 (m : Nat) (c1 : Int32) (c2 : Int32) (K : Int32 × xm_Y → Option (Int32 × xm_Y)) (kE : ∀ q : Int32 × xm_Y, xs_ (fun x : Int32 => some (.int x)) sg_0 mt_X12_rows 53 [some (.ref 150), some (.int c1), some (.int c2), none, none, none, none] [] q.2 0 0 (K q)) : ∀ (n : Nat) (l3 : Int32) (u0 : xm_Y), xs_ (fun x : Int32 => some (.int x)) sg_0 mt_X12_rows 16 [some (.ref 150), some (.int c1), some (.int c2), some (.int l3), none, none, none] [] u0 0 0 ((lp_X12_rows_16 m n l3 u0).bind K) := by
  intro n
  induction n with
  | zero =>
    intro l3 u0
    exact xs_none
  | succ n ih =>
    intro l3 u0
    rw [lp_X12_rows_16]
    refine xs_iload_n (n := 17) dX12_rows_16 rfl rfl ?_
    refine xs_iconst (n := 18) (v := (5)) dX12_rows_17 rfl rfl ?_
    refine xs_icmp_ge (n := 21) (tgt := 53) dX12_rows_18 rfl rfl (fun hc4 => ?_) (fun hc4 => ?_)
    · exact xs_gf (kE (l3, u0)) (And.intro rfl (And.intro rfl (And.intro rfl trivial)))
    · refine xs_aload_n (n := 22) dX12_rows_21 rfl rfl ?_
      refine ys_getr (n := 25) dX12_rows_22 rfl fl_X12_55 sh_150 rfl ?_
      refine xs_iload_n (n := 26) dX12_rows_25 rfl rfl ?_
      refine xs_iload_n (n := 27) dX12_rows_26 rfl rfl ?_
      refine xs_aload_n (n := 28) dX12_rows_27 rfl rfl ?_
      refine ys_geti (n := 31) dX12_rows_28 rfl fl_X12_135 (Or.inl rfl) sh_150 ?_
      refine xs_join 39 (fun q5 => [some (.ref 150), some (.int c1), some (.int c2), some (.int l3), none, none, none]) (fun q5 => [.int q5, .int l3, .ref 164]) (fun q5 => u0) (fun q5 => ?_) (fun kj6 => ?_)
      · refine ys_bastore (n := 40) dX12_rows_39 rfl sh_164 (fun u8 => ?_)
        refine xs_aload_n (n := 41) dX12_rows_40 rfl rfl ?_
        refine ys_getr (n := 44) dX12_rows_41 rfl fl_X12_52 sh_150 rfl ?_
        refine xs_iload_n (n := 45) dX12_rows_44 rfl rfl ?_
        refine xs_iconst (n := 46) (v := (-1)) dX12_rows_45 rfl rfl ?_
        refine ys_iastore (n := 47) dX12_rows_46 rfl sh_163 (fun u9 => ?_)
        refine xs_iincl (n := 50) (dv := (1)) (fun v10 => [some (.ref 150), some (.int c1), some (.int c2), some (.int v10), none, none, none]) dX12_rows_47 rfl rfl rfl (Nat.le_of_ble_eq_true rfl) (fun _ => rfl) (fun v10 => ?_)
        refine xs_goto (n := 16) dX12_rows_50 rfl ?_
        exact xs_gf (ih v10 u9) (And.intro rfl (And.intro rfl (And.intro rfl (And.intro rfl trivial))))
      · refine xs_icmp_ge (n := 34) (tgt := 38) dX12_rows_31 rfl rfl (fun hc7 => ?_) (fun hc7 => ?_)
        · refine xs_iconst (n := 39) (v := (0)) dX12_rows_38 rfl rfl ?_
          exact xs_gf (kj6 ((0))) (And.intro rfl (And.intro rfl (And.intro rfl (And.intro rfl trivial))))
        · refine xs_iconst (n := 35) (v := (1)) dX12_rows_34 rfl rfl ?_
          refine xs_goto (n := 39) dX12_rows_35 rfl ?_
          exact xs_gf (kj6 ((1))) (And.intro rfl (And.intro rfl (And.intro rfl (And.intro rfl trivial))))
theorem el_X12_rows_75 (m : Nat) (c1 : Int32) (c2 : Int32) (c3 : Int32) (K : Int32 × xm_Y → Option (Int32 × xm_Y)) (kE : ∀ q : Int32 × xm_Y, xs_ (fun x : Int32 => some (.int x)) sg_0 mt_X12_rows 97 [some (.ref 150), some (.int c1), some (.int c2), some (.int c3), none, some (.int q.1), none] [] q.2 0 0 (K q)) : ∀ (n : Nat) (l5 : Int32) (u0 : xm_Y), xs_ (fun x : Int32 => some (.int x)) sg_0 mt_X12_rows 75 [some (.ref 150), some (.int c1), some (.int c2), some (.int c3), none, some (.int l5), none] [] u0 0 0 ((lp_X12_rows_75 m c1 n l5 u0).bind K) := by
  intro n
  induction n with
  | zero =>
    intro l5 u0
    exact xs_none
  | succ n ih =>
    intro l5 u0
    rw [lp_X12_rows_75]
    refine xs_iload (n := 77) dX12_rows_75 rfl rfl ?_
    refine xs_if_eq (n := 80) (tgt := 97) dX12_rows_77 rfl rfl (fun hc15 => ?_) (fun hc15 => ?_)
    · exact xs_gf (kE (l5, u0)) (And.intro rfl (And.intro rfl (And.intro rfl (And.intro rfl (And.intro rfl trivial)))))
    · refine xs_aload_n (n := 81) dX12_rows_80 rfl rfl ?_
      refine ys_callvi (n := 84) (N := mt_X12_takes) dX12_rows_81 rfl ok_X12_takes tw_1236 im_X12_takes se_X12_takes ⟨Nat.le_of_ble_eq_true rfl, Nat.le_of_ble_eq_true rfl⟩ [] [] rfl rfl (Nat.le_of_ble_eq_true rfl) rfl (Nat.le_of_ble_eq_true rfl) (en_X12_takes m u0) sh_150 (by decide) rfl (fun q16 => ?_)
      refine xs_if_ne (n := 87) (tgt := 97) dX12_rows_84 rfl rfl (fun hc17 => ?_) (fun hc17 => ?_)
      · refine xs_aload_n (n := 88) dX12_rows_87 rfl rfl ?_
        refine xs_iload_n (n := 89) dX12_rows_88 rfl rfl ?_
        refine ys_callvi (n := 92) (N := mt_X12_nextSum) dX12_rows_89 rfl ok_X12_nextSum tw_1223 im_X12_nextSum se_X12_nextSum ⟨Nat.le_of_ble_eq_true rfl, Nat.le_of_ble_eq_true rfl⟩ [.int c1] [] rfl rfl (Nat.le_of_ble_eq_true rfl) rfl (Nat.le_of_ble_eq_true rfl) (en_X12_nextSum m c1 q16.2) sh_150 (by decide) rfl (fun q18 => ?_)
        refine xs_istore (n := 94) (lv' := [some (.ref 150), some (.int c1), some (.int c2), some (.int c3), none, some (.int q18.1), none]) dX12_rows_92 rfl (Nat.le_of_ble_eq_true rfl) rfl ?_
        refine xs_goto (n := 75) dX12_rows_94 rfl ?_
        exact xs_gf (ih q18.1 q18.2) (And.intro rfl (And.intro rfl (And.intro rfl (And.intro rfl (And.intro rfl trivial)))))
      · exact xs_gf (kE (l5, q16.2)) (And.intro rfl (And.intro rfl (And.intro rfl (And.intro rfl (And.intro rfl trivial)))))
theorem el_X12_rows_104 (m : Nat) (c3 : Int32) (c5 : Int32) (c1 : Int32) (c4 : Int32) (K : Int32 × Int32 × xm_Y → Option (Int32 × xm_Y)) (kE : ∀ q : Int32 × Int32 × xm_Y, xs_ (fun x : Int32 => some (.int x)) sg_0 mt_X12_rows 182 [some (.ref 150), some (.int c1), some (.int q.1), some (.int c3), some (.int c4), some (.int c5), none] [] q.2.2 0 0 (K q)) : ∀ (n : Nat) (l2 : Int32) (l6 : Int32) (u0 : xm_Y), xs_ (fun x : Int32 => some (.int x)) sg_0 mt_X12_rows 104 [some (.ref 150), some (.int c1), some (.int l2), some (.int c3), some (.int c4), some (.int c5), some (.int l6)] [] u0 0 0 ((lp_X12_rows_104 m c3 c5 n l2 l6 u0).bind K) := by
  intro n
  induction n with
  | zero =>
    intro l2 l6 u0
    exact xs_none
  | succ n ih =>
    intro l2 l6 u0
    rw [lp_X12_rows_104]
    refine xs_iload (n := 106) dX12_rows_104 rfl rfl ?_
    refine xs_aload_n (n := 107) dX12_rows_106 rfl rfl ?_
    refine ys_geti (n := 110) dX12_rows_107 rfl fl_X12_135 (Or.inl rfl) sh_150 ?_
    refine xs_icmp_ge (n := 113) (tgt := 182) dX12_rows_110 rfl rfl (fun hc20 => ?_) (fun hc20 => ?_)
    · exact xs_gf (kE (l2, l6, u0)) (And.intro rfl (And.intro rfl (And.intro rfl (And.intro rfl (And.intro rfl (And.intro rfl trivial))))))
    · refine xs_iload (n := 115) dX12_rows_113 rfl rfl ?_
      refine xs_if_eq (n := 118) (tgt := 182) dX12_rows_115 rfl rfl (fun hc21 => ?_) (fun hc21 => ?_)
      · exact xs_gf (kE (l2, l6, u0)) (And.intro rfl (And.intro rfl (And.intro rfl (And.intro rfl (And.intro rfl (And.intro rfl trivial))))))
      · refine xs_aload_n (n := 119) dX12_rows_118 rfl rfl ?_
        refine ys_getr (n := 122) dX12_rows_119 rfl fl_X12_55 sh_150 rfl ?_
        refine xs_iload (n := 124) dX12_rows_122 rfl rfl ?_
        refine ys_baload (n := 125) dX12_rows_124 rfl sh_164 ?_
        refine xs_join 176 (fun q22 => [some (.ref 150), some (.int c1), some (.int q22.1), some (.int c3), some (.int c4), some (.int c5), some (.int l6)]) (fun q22 => []) (fun q22 => q22.2) (fun q22 => ?_) (fun kj23 => ?_)
        · refine xs_iincl (n := 179) (dv := (1)) (fun v30 => [some (.ref 150), some (.int c1), some (.int q22.1), some (.int c3), some (.int c4), some (.int c5), some (.int v30)]) dX12_rows_176 rfl rfl rfl (Nat.le_of_ble_eq_true rfl) (fun _ => rfl) (fun v30 => ?_)
          refine xs_goto (n := 104) dX12_rows_179 rfl ?_
          exact xs_gf (ih q22.1 v30 q22.2) (And.intro rfl (And.intro rfl (And.intro rfl (And.intro rfl (And.intro rfl (And.intro rfl (And.intro rfl trivial)))))))
        · refine xs_if_eq (n := 128) (tgt := 176) dX12_rows_125 rfl rfl (fun hc24 => ?_) (fun hc24 => ?_)
          · exact xs_gf (kj23 (l2, u0)) (And.intro rfl (And.intro rfl (And.intro rfl (And.intro rfl (And.intro rfl (And.intro rfl (And.intro rfl trivial)))))))
          · refine xs_aload_n (n := 129) dX12_rows_128 rfl rfl ?_
            refine xs_iload (n := 131) dX12_rows_129 rfl rfl ?_
            refine xs_aload_n (n := 132) dX12_rows_131 rfl rfl ?_
            refine ys_getr (n := 135) dX12_rows_132 rfl fl_X12_125 sh_150 rfl ?_
            refine xs_iconst (n := 136) (v := (0)) dX12_rows_135 rfl rfl ?_
            refine ys_iaload (n := 137) dX12_rows_136 rfl sh_182 ?_
            refine xs_aload_n (n := 138) dX12_rows_137 rfl rfl ?_
            refine ys_getr (n := 141) dX12_rows_138 rfl fl_X12_125 sh_150 rfl ?_
            refine xs_iconst (n := 142) (v := (1)) dX12_rows_141 rfl rfl ?_
            refine ys_iaload (n := 143) dX12_rows_142 rfl sh_182 ?_
            refine xs_aload_n (n := 144) dX12_rows_143 rfl rfl ?_
            refine ys_getr (n := 147) dX12_rows_144 rfl fl_X12_125 sh_150 rfl ?_
            refine xs_iconst (n := 148) (v := (2)) dX12_rows_147 rfl rfl ?_
            refine ys_iaload (n := 149) dX12_rows_148 rfl sh_182 ?_
            refine ys_callvi (n := 152) (N := mt_X12_tellsOf) dX12_rows_149 rfl ok_X12_tellsOf tw_1117 im_X12_tellsOf se_X12_tellsOf ⟨Nat.le_of_ble_eq_true rfl, Nat.le_of_ble_eq_true rfl⟩ [.int l6, .int (u0.1 182 (Int32.toNatClampNeg (0))), .int (u0.1 182 (Int32.toNatClampNeg (1))), .int (u0.1 182 (Int32.toNatClampNeg (2)))] [] rfl rfl (Nat.le_of_ble_eq_true rfl) rfl (Nat.le_of_ble_eq_true rfl) (en_X12_tellsOf m l6 (u0.1 182 (Int32.toNatClampNeg (0))) (u0.1 182 (Int32.toNatClampNeg (1))) (u0.1 182 (Int32.toNatClampNeg (2))) u0) sh_150 (by decide) rfl (fun q25 => ?_)
            refine xs_bipush (n := 154) (v := (6)) dX12_rows_152 rfl rfl ?_
            refine xs_icmp_lt (n := 157) (tgt := 176) dX12_rows_154 rfl rfl (fun hc26 => ?_) (fun hc26 => ?_)
            · exact xs_gf (kj23 (l2, q25.2)) (And.intro rfl (And.intro rfl (And.intro rfl (And.intro rfl (And.intro rfl (And.intro rfl (And.intro rfl trivial)))))))
            · refine xs_aload_n (n := 158) dX12_rows_157 rfl rfl ?_
              refine ys_getr (n := 161) dX12_rows_158 rfl fl_X12_55 sh_150 rfl ?_
              refine xs_iload (n := 163) dX12_rows_161 rfl rfl ?_
              refine xs_iconst (n := 164) (v := (0)) dX12_rows_163 rfl rfl ?_
              refine ys_bastore (n := 165) dX12_rows_164 rfl sh_164 (fun u27 => ?_)
              refine xs_aload_n (n := 166) dX12_rows_165 rfl rfl ?_
              refine ys_getr (n := 169) dX12_rows_166 rfl fl_X12_52 sh_150 rfl ?_
              refine xs_iload (n := 171) dX12_rows_169 rfl rfl ?_
              refine xs_iload_n (n := 172) dX12_rows_171 rfl rfl ?_
              refine ys_iastore (n := 173) dX12_rows_172 rfl sh_163 (fun u28 => ?_)
              refine xs_iincl (n := 176) (dv := (-1)) (fun v29 => [some (.ref 150), some (.int c1), some (.int v29), some (.int c3), some (.int c4), some (.int c5), some (.int l6)]) dX12_rows_173 rfl rfl rfl (Nat.le_of_ble_eq_true rfl) (fun _ => rfl) (fun v29 => ?_)
              exact xs_gf (kj23 (v29, u28)) (And.intro rfl (And.intro rfl (And.intro rfl (And.intro rfl (And.intro rfl (And.intro rfl (And.intro rfl trivial)))))))
theorem el_X12_rows_185 (m : Nat) (c3 : Int32) (c5 : Int32) (c1 : Int32) (c2 : Int32) (c4 : Int32) (K : Int32 × xm_Y → Option (Int32 × xm_Y)) (kE : ∀ q : Int32 × xm_Y, xs_ (fun x : Int32 => some (.int x)) sg_0 mt_X12_rows 220 [some (.ref 150), some (.int c1), some (.int c2), some (.int c3), some (.int c4), some (.int c5), none] [] q.2 0 0 (K q)) : ∀ (n : Nat) (l6 : Int32) (u0 : xm_Y), xs_ (fun x : Int32 => some (.int x)) sg_0 mt_X12_rows 185 [some (.ref 150), some (.int c1), some (.int c2), some (.int c3), some (.int c4), some (.int c5), some (.int l6)] [] u0 0 0 ((lp_X12_rows_185 m c3 c5 n l6 u0).bind K) := by
  intro n
  induction n with
  | zero =>
    intro l6 u0
    exact xs_none
  | succ n ih =>
    intro l6 u0
    rw [lp_X12_rows_185]
    refine xs_iload (n := 187) dX12_rows_185 rfl rfl ?_
    refine xs_iconst (n := 188) (v := (3)) dX12_rows_187 rfl rfl ?_
    refine xs_icmp_ge (n := 191) (tgt := 220) dX12_rows_188 rfl rfl (fun hc32 => ?_) (fun hc32 => ?_)
    · exact xs_gf (kE (l6, u0)) (And.intro rfl (And.intro rfl (And.intro rfl (And.intro rfl (And.intro rfl (And.intro rfl trivial))))))
    · refine xs_iload (n := 193) dX12_rows_191 rfl rfl ?_
      refine xs_if_eq (n := 196) (tgt := 220) dX12_rows_193 rfl rfl (fun hc33 => ?_) (fun hc33 => ?_)
      · exact xs_gf (kE (l6, u0)) (And.intro rfl (And.intro rfl (And.intro rfl (And.intro rfl (And.intro rfl (And.intro rfl trivial))))))
      · refine xs_aload_n (n := 197) dX12_rows_196 rfl rfl ?_
        refine ys_getr (n := 200) dX12_rows_197 rfl fl_X12_46 sh_150 rfl ?_
        refine xs_iconst (n := 201) (v := (3)) dX12_rows_200 rfl rfl ?_
        refine xs_iload_n (n := 202) dX12_rows_201 rfl rfl ?_
        refine xs_imul (n := 203) dX12_rows_202 rfl ?_
        refine xs_iload (n := 205) dX12_rows_203 rfl rfl ?_
        refine xs_iadd (n := 206) dX12_rows_205 rfl ?_
        refine xs_aload_n (n := 207) dX12_rows_206 rfl rfl ?_
        refine ys_getr (n := 210) dX12_rows_207 rfl fl_X12_125 sh_150 rfl ?_
        refine xs_iload (n := 212) dX12_rows_210 rfl rfl ?_
        refine ys_iaload (n := 213) dX12_rows_212 rfl sh_182 ?_
        refine ys_iastore (n := 214) dX12_rows_213 rfl sh_161 (fun u34 => ?_)
        refine xs_iincl (n := 217) (dv := (1)) (fun v35 => [some (.ref 150), some (.int c1), some (.int c2), some (.int c3), some (.int c4), some (.int c5), some (.int v35)]) dX12_rows_214 rfl rfl rfl (Nat.le_of_ble_eq_true rfl) (fun _ => rfl) (fun v35 => ?_)
        refine xs_goto (n := 185) dX12_rows_217 rfl ?_
        exact xs_gf (ih v35 u34) (And.intro rfl (And.intro rfl (And.intro rfl (And.intro rfl (And.intro rfl (And.intro rfl (And.intro rfl trivial)))))))
theorem el_X12_rows_58 (m : Nat) (c1 : Int32) (K : Int32 × Int32 × Int32 × xm_Y → Option (Int32 × xm_Y)) (kE : ∀ q : Int32 × Int32 × Int32 × xm_Y, xs_ (fun x : Int32 => some (.int x)) sg_0 mt_X12_rows 236 [some (.ref 150), none, some (.int q.1), some (.int q.2.1), none, none, none] [] q.2.2.2 0 0 (K q)) : ∀ (n : Nat) (l2 : Int32) (l3 : Int32) (l4 : Int32) (u0 : xm_Y), xs_ (fun x : Int32 => some (.int x)) sg_0 mt_X12_rows 58 [some (.ref 150), some (.int c1), some (.int l2), some (.int l3), some (.int l4), none, none] [] u0 0 0 ((lp_X12_rows_58 m c1 n l2 l3 l4 u0).bind K) := by
  intro n
  induction n with
  | zero =>
    intro l2 l3 l4 u0
    exact xs_none
  | succ n ih =>
    intro l2 l3 l4 u0
    rw [lp_X12_rows_58]
    refine xs_iload_n (n := 59) dX12_rows_58 rfl rfl ?_
    refine xs_if_le (n := 62) (tgt := 236) dX12_rows_59 rfl rfl (fun hc12 => ?_) (fun hc12 => ?_)
    · exact xs_gf (kE (l2, l3, l4, u0)) (And.intro rfl (And.intro rfl (And.intro rfl trivial)))
    · refine xs_iload (n := 64) dX12_rows_62 rfl rfl ?_
      refine xs_if_eq (n := 67) (tgt := 236) dX12_rows_64 rfl rfl (fun hc13 => ?_) (fun hc13 => ?_)
      · exact xs_gf (kE (l2, l3, l4, u0)) (And.intro rfl (And.intro rfl (And.intro rfl trivial)))
      · refine xs_aload_n (n := 68) dX12_rows_67 rfl rfl ?_
        refine xs_iload_n (n := 69) dX12_rows_68 rfl rfl ?_
        refine ys_callvv (n := 72) (N := mt_X12_firstSum) dX12_rows_69 rfl ok_X12_firstSum tw_1219 im_X12_firstSum se_X12_firstSum ⟨Nat.le_of_ble_eq_true rfl, Nat.le_of_ble_eq_true rfl⟩ [.int c1] [] rfl rfl (Nat.le_of_ble_eq_true rfl) rfl (Nat.le_of_ble_eq_true rfl) (en_X12_firstSum m c1 u0) sh_150 (by decide) rfl (fun q14 => ?_)
        refine xs_iconst (n := 73) (v := (1)) dX12_rows_72 rfl rfl ?_
        refine xs_istore (n := 75) (lv' := [some (.ref 150), some (.int c1), some (.int l2), some (.int l3), some (.int l4), some (.int (1)), none]) dX12_rows_73 rfl (Nat.le_of_ble_eq_true rfl) rfl ?_
        refine xs_reg ?_
        refine xs_fg (lv' := [some (.ref 150), some (.int c1), some (.int l2), some (.int l3), none, some (.int (1)), none]) (And.intro rfl (And.intro rfl (And.intro rfl (And.intro rfl (And.intro rfl trivial))))) ?_
        refine el_X12_rows_75 m c1 l2 l3 _ (fun q19 => ?_) m (1) q14.2
        refine xs_iload (n := 99) dX12_rows_97 rfl rfl ?_
        refine xs_istore (n := 101) (lv' := [some (.ref 150), some (.int c1), some (.int l2), some (.int l3), some (.int q19.1), some (.int q19.1), none]) dX12_rows_99 rfl (Nat.le_of_ble_eq_true rfl) rfl ?_
        refine xs_iconst (n := 102) (v := (0)) dX12_rows_101 rfl rfl ?_
        refine xs_istore (n := 104) (lv' := [some (.ref 150), some (.int c1), some (.int l2), some (.int l3), some (.int q19.1), some (.int q19.1), some (.int (0))]) dX12_rows_102 rfl (Nat.le_of_ble_eq_true rfl) rfl ?_
        refine xs_reg ?_
        refine xs_fg (lv' := [some (.ref 150), some (.int c1), some (.int l2), some (.int l3), some (.int q19.1), some (.int q19.1), some (.int (0))]) (And.intro rfl (And.intro rfl (And.intro rfl (And.intro rfl (And.intro rfl (And.intro rfl (And.intro rfl trivial))))))) ?_
        refine el_X12_rows_104 m l3 q19.1 c1 q19.1 _ (fun q31 => ?_) m l2 (0) q19.2
        refine xs_iconst (n := 183) (v := (0)) dX12_rows_182 rfl rfl ?_
        refine xs_istore (n := 185) (lv' := [some (.ref 150), some (.int c1), some (.int q31.1), some (.int l3), some (.int q19.1), some (.int q19.1), some (.int (0))]) dX12_rows_183 rfl (Nat.le_of_ble_eq_true rfl) rfl ?_
        refine xs_reg ?_
        refine xs_fg (lv' := [some (.ref 150), some (.int c1), some (.int q31.1), some (.int l3), some (.int q19.1), some (.int q19.1), some (.int (0))]) (And.intro rfl (And.intro rfl (And.intro rfl (And.intro rfl (And.intro rfl (And.intro rfl (And.intro rfl trivial))))))) ?_
        refine el_X12_rows_185 m l3 q19.1 c1 q31.1 q19.1 _ (fun q36 => ?_) m (0) q31.2.2
        refine xs_iload_n (n := 221) dX12_rows_220 rfl rfl ?_
        refine xs_iload (n := 223) dX12_rows_221 rfl rfl ?_
        refine xs_join 231 (fun q37 => [some (.ref 150), some (.int c1), some (.int q31.1), none, some (.int q19.1), none, none]) (fun q37 => [.int q37, .int l3]) (fun q37 => q36.2) (fun q37 => ?_) (fun kj38 => ?_)
        · refine xs_iadd (n := 232) dX12_rows_231 rfl ?_
          refine xs_leti (fun v40 => ?_)
          refine xs_istore_n (n := 233) (lv' := [some (.ref 150), some (.int c1), some (.int q31.1), some (.int v40), some (.int q19.1), none, none]) dX12_rows_232 rfl (Nat.le_of_ble_eq_true rfl) rfl ?_
          refine xs_goto (n := 58) dX12_rows_233 rfl ?_
          exact xs_gf (ih q31.1 v40 q19.1 q36.2) (And.intro rfl (And.intro rfl (And.intro rfl (And.intro rfl (And.intro rfl trivial)))))
        · refine xs_if_eq (n := 226) (tgt := 230) dX12_rows_223 rfl rfl (fun hc39 => ?_) (fun hc39 => ?_)
          · refine xs_iconst (n := 231) (v := (0)) dX12_rows_230 rfl rfl ?_
            exact xs_gf (kj38 ((0))) (And.intro rfl (And.intro rfl (And.intro rfl (And.intro rfl trivial))))
          · refine xs_iconst (n := 227) (v := (1)) dX12_rows_226 rfl rfl ?_
            refine xs_goto (n := 231) dX12_rows_227 rfl ?_
            exact xs_gf (kj38 ((1))) (And.intro rfl (And.intro rfl (And.intro rfl (And.intro rfl trivial))))
theorem en_X12_rows (m : Nat) (x0 : Int32) (u0 : xm_Y) : xs_ (fun x : Int32 => some (.int x)) sg_0 mt_X12_rows 0 [some (.ref 150), some (.int x0), none, none, none, none, none] [] u0 0 0 (fn_X12_rows m x0 u0) := by
  refine xs_top ?_
  rw [fn_X12_rows]
  refine xs_iload_n (n := 1) dX12_rows_0 rfl rfl ?_
  refine ys_callsi (n := 4) (N := mt_X12_isSize) dX12_rows_1 rfl ok_X12_isSize tw_1216 st_X12_isSize ⟨Nat.le_of_ble_eq_true rfl, Nat.le_of_ble_eq_true rfl⟩ [.int x0] [] rfl rfl (Nat.le_of_ble_eq_true rfl) rfl (Nat.le_of_ble_eq_true rfl) (en_X12_isSize m x0 u0) (fun q1 => ?_)
  refine xs_if_ne (n := 7) (tgt := 9) dX12_rows_4 rfl rfl (fun hc2 => ?_) (fun hc2 => ?_)
  · refine xs_iconst (n := 8) (v := (-1)) dX12_rows_7 rfl rfl ?_
    exact xs_iret dX12_rows_8 rfl rfl
  · refine xs_aload_n (n := 10) dX12_rows_9 rfl rfl ?_
    refine ys_geti (n := 13) dX12_rows_10 rfl fl_X12_135 (Or.inl rfl) sh_150 ?_
    refine xs_leti (fun v3 => ?_)
    refine xs_istore_n (n := 14) (lv' := [some (.ref 150), some (.int x0), some (.int v3), none, none, none, none]) dX12_rows_13 rfl (Nat.le_of_ble_eq_true rfl) rfl ?_
    refine xs_iconst (n := 15) (v := (0)) dX12_rows_14 rfl rfl ?_
    refine xs_istore_n (n := 16) (lv' := [some (.ref 150), some (.int x0), some (.int v3), some (.int (0)), none, none, none]) dX12_rows_15 rfl (Nat.le_of_ble_eq_true rfl) rfl ?_
    refine xs_reg ?_
    refine xs_fg (lv' := [some (.ref 150), some (.int x0), some (.int v3), some (.int (0)), none, none, none]) (And.intro rfl (And.intro rfl (And.intro rfl (And.intro rfl trivial)))) ?_
    refine el_X12_rows_16 m x0 v3 _ (fun q11 => ?_) m (0) q1.2
    refine xs_iconst (n := 54) (v := (0)) dX12_rows_53 rfl rfl ?_
    refine xs_istore_n (n := 55) (lv' := [some (.ref 150), some (.int x0), some (.int v3), some (.int (0)), none, none, none]) dX12_rows_54 rfl (Nat.le_of_ble_eq_true rfl) rfl ?_
    refine xs_iconst (n := 56) (v := (1)) dX12_rows_55 rfl rfl ?_
    refine xs_istore (n := 58) (lv' := [some (.ref 150), some (.int x0), some (.int v3), some (.int (0)), some (.int (1)), none, none]) dX12_rows_56 rfl (Nat.le_of_ble_eq_true rfl) rfl ?_
    refine xs_reg ?_
    refine xs_fg (lv' := [some (.ref 150), some (.int x0), some (.int v3), some (.int (0)), some (.int (1)), none, none]) (And.intro rfl (And.intro rfl (And.intro rfl (And.intro rfl (And.intro rfl trivial))))) ?_
    refine el_X12_rows_58 m x0 _ (fun q41 => ?_) m v3 (0) (1) q11.2
    refine xs_aload_n (n := 237) dX12_rows_236 rfl rfl ?_
    refine xs_iload_n (n := 238) dX12_rows_237 rfl rfl ?_
    refine xs_join 249 (fun q42 => [none, none, some (.int q41.1), some (.int q41.2.1), none, none, none]) (fun q42 => [.int q42, .ref 150]) (fun q42 => q41.2.2.2) (fun q42 => ?_) (fun kj43 => ?_)
    · refine ys_puti (n := 252) dX12_rows_249 rfl fl_X12_138 rfl sh_150 (fun u45 => ?_)
      refine xs_iload_n (n := 253) dX12_rows_252 rfl rfl ?_
      refine xs_join 262 (fun q46 => [none, none, none, none, none, none, none]) (fun q46 => [.int q46]) (fun q46 => u45) (fun q46 => ?_) (fun kj47 => ?_)
      · exact xs_iret dX12_rows_262 rfl rfl
      · refine xs_if_le (n := 256) (tgt := 261) dX12_rows_253 rfl rfl (fun hc48 => ?_) (fun hc48 => ?_)
        · refine xs_iload_n (n := 262) dX12_rows_261 rfl rfl ?_
          exact xs_gf (kj47 (q41.2.1)) trivial
        · refine xs_bipush (n := 258) (v := (-3)) dX12_rows_256 rfl rfl ?_
          refine xs_goto (n := 262) dX12_rows_258 rfl ?_
          exact xs_gf (kj47 ((-3))) trivial
    · refine xs_if_le (n := 241) (tgt := 245) dX12_rows_238 rfl rfl (fun hc44 => ?_) (fun hc44 => ?_)
      · refine xs_aload_n (n := 246) dX12_rows_245 rfl rfl ?_
        refine ys_geti (n := 249) dX12_rows_246 rfl fl_X12_138 (Or.inl rfl) sh_150 ?_
        exact xs_gf (kj43 ((q41.2.2.2.1 150 19))) (And.intro rfl (And.intro rfl trivial))
      · refine xs_iload_n (n := 242) dX12_rows_241 rfl rfl ?_
        refine xs_goto (n := 249) dX12_rows_242 rfl ?_
        exact xs_gf (kj43 (q41.2.1)) (And.intro rfl (And.intro rfl trivial))
