def lp_X12_takes_6 (m : Nat) : Nat → Int32 → Int32 → Int32 → xm_Y → Option (Int32 × Int32 × Int32 × xm_Y)
  | 0, _, _, _, _ => none
  | n + 1, l1, l2, l3, u0 =>
  if (u0.1 150 1) ≤ l3 then (
  some (l1, l2, l3, u0)) else (
  if l1 = 0 then (
  some (l1, l2, l3, u0)) else (
  xm_chk (xm_in l3 5) (
  ((if (u0.1 164 (Int32.toNatClampNeg l3)) = 0 then (
  some (l1, l2, u0)) else (
  xm_chk (xm_in (0 : Int32) 3) (
  xm_chk (xm_in (1 : Int32) 3) (
  xm_chk (xm_in (2 : Int32) 3) (
  ((fn_X12_tellsOf m l3 (u0.1 182 (Int32.toNatClampNeg (0 : Int32))) (u0.1 182 (Int32.toNatClampNeg (1 : Int32))) (u0.1 182 (Int32.toNatClampNeg (2 : Int32))) u0).bind fun q6 =>
  xm_chk (¬ (2 : Int32) = 0) (
  ((if (q6.1 - q6.1 / (2 : Int32) * (2 : Int32)) = (1 : Int32) then (
  some ((1 : Int32))) else (
  some ((0 : Int32))) : Option (Int32)).bind fun q7 =>
  ((if l2 = 0 then (
  if q6.1 < (6 : Int32) then (
  some ((0 : Int32))) else (
  some ((1 : Int32)))) else (
  some ((1 : Int32))) : Option (Int32)).bind fun q10 =>
  some (q7, q10, q6.2))))))))) : Option (Int32 × Int32 × xm_Y)).bind fun q3 =>
  xm_let (α := Int32) (l3 + (1 : Int32)) fun v14 =>
  lp_X12_takes_6 m n q3.1 q3.2.1 v14 q3.2.2))))
def fn_X12_takes (m : Nat) (u0 : xm_Y) : Option (Int32 × xm_Y) :=
  ((lp_X12_takes_6 m m (1 : Int32) (0 : Int32) (0 : Int32) u0).bind fun q15 =>
  ((if q15.1 = 0 then (
  some ((0 : Int32))) else (
  if q15.2.1 = 0 then (
  some ((0 : Int32))) else (
  some ((1 : Int32)))) : Option (Int32)).bind fun q16 =>
  xm_chk (q16 = 0 ∨ q16 = 1) (some (q16, q15.2.2.2))))
theorem el_X12_takes_6 (m : Nat) (K : Int32 × Int32 × Int32 × xm_Y → Option (Int32 × xm_Y)) (kE : ∀ q : Int32 × Int32 × Int32 × xm_Y, xs_ (fun x : Int32 => some (.int x)) sg_0 mt_X12_takes 89 [none, some (.int q.1), some (.int q.2.1), none, none] [] q.2.2.2 0 0 (K q)) : ∀ (n : Nat) (l1 : Int32) (l2 : Int32) (l3 : Int32) (u0 : xm_Y), xs_ (fun x : Int32 => some (.int x)) sg_0 mt_X12_takes 6 [some (.ref 150), some (.int l1), some (.int l2), some (.int l3), none] [] u0 0 0 ((lp_X12_takes_6 m n l1 l2 l3 u0).bind K) := by
  intro n
  induction n with
  | zero =>
    intro l1 l2 l3 u0
    exact xs_none
  | succ n ih =>
    intro l1 l2 l3 u0
    rw [lp_X12_takes_6]
    refine xs_iload_n (n := 7) dX12_takes_6 rfl rfl ?_
    refine xs_aload_n (n := 8) dX12_takes_7 rfl rfl ?_
    refine ys_geti (n := 11) dX12_takes_8 rfl fl_X12_135 (Or.inl rfl) sh_150 ?_
    refine xs_icmp_ge (n := 14) (tgt := 89) dX12_takes_11 rfl rfl (fun hc1 => ?_) (fun hc1 => ?_)
    · exact xs_gf (xs_end (kE (l1, l2, l3, u0))) (And.intro rfl (And.intro rfl trivial))
    · refine xs_iload_n (n := 15) dX12_takes_14 rfl rfl ?_
      refine xs_if_eq (n := 18) (tgt := 89) dX12_takes_15 rfl rfl (fun hc2 => ?_) (fun hc2 => ?_)
      · exact xs_gf (xs_end (kE (l1, l2, l3, u0))) (And.intro rfl (And.intro rfl trivial))
      · refine xs_aload_n (n := 19) dX12_takes_18 rfl rfl ?_
        refine ys_getr (n := 22) dX12_takes_19 rfl fl_X12_55 sh_150 rfl ?_
        refine xs_iload_n (n := 23) dX12_takes_22 rfl rfl ?_
        refine ys_baload (n := 24) dX12_takes_23 rfl sh_164 ?_
        refine xs_join 83 (fun q3 => [some (.ref 150), some (.int q3.1), some (.int q3.2.1), some (.int l3), none]) (fun q3 => []) (fun q3 => q3.2.2) (fun q3 => ?_) (fun kj4 => ?_)
        · refine xs_iincl (n := 86) (dv := (1 : Int32)) (fun v14 => [some (.ref 150), some (.int q3.1), some (.int q3.2.1), some (.int v14), none]) dX12_takes_83 rfl rfl rfl (Nat.le_of_ble_eq_true rfl) (fun _ => rfl) (fun v14 => ?_)
          refine xs_goto (n := 6) dX12_takes_86 rfl ?_
          exact xs_gf (ih q3.1 q3.2.1 v14 q3.2.2) (And.intro rfl (And.intro rfl (And.intro rfl (And.intro rfl trivial))))
        · refine xs_if_eq (n := 27) (tgt := 83) dX12_takes_24 rfl rfl (fun hc5 => ?_) (fun hc5 => ?_)
          · exact xs_gf (xs_end (kj4 (l1, l2, u0))) (And.intro rfl (And.intro rfl (And.intro rfl (And.intro rfl trivial))))
          · refine xs_aload_n (n := 28) dX12_takes_27 rfl rfl ?_
            refine xs_iload_n (n := 29) dX12_takes_28 rfl rfl ?_
            refine xs_aload_n (n := 30) dX12_takes_29 rfl rfl ?_
            refine ys_getr (n := 33) dX12_takes_30 rfl fl_X12_125 sh_150 rfl ?_
            refine xs_iconst (n := 34) (v := (0 : Int32)) dX12_takes_33 rfl rfl ?_
            refine ys_iaload (n := 35) dX12_takes_34 rfl sh_182 ?_
            refine xs_aload_n (n := 36) dX12_takes_35 rfl rfl ?_
            refine ys_getr (n := 39) dX12_takes_36 rfl fl_X12_125 sh_150 rfl ?_
            refine xs_iconst (n := 40) (v := (1 : Int32)) dX12_takes_39 rfl rfl ?_
            refine ys_iaload (n := 41) dX12_takes_40 rfl sh_182 ?_
            refine xs_aload_n (n := 42) dX12_takes_41 rfl rfl ?_
            refine ys_getr (n := 45) dX12_takes_42 rfl fl_X12_125 sh_150 rfl ?_
            refine xs_iconst (n := 46) (v := (2 : Int32)) dX12_takes_45 rfl rfl ?_
            refine ys_iaload (n := 47) dX12_takes_46 rfl sh_182 ?_
            refine ys_callvi (n := 50) (N := mt_X12_tellsOf) dX12_takes_47 rfl ok_X12_tellsOf tw_1112 im_X12_tellsOf se_X12_tellsOf ⟨Nat.le_of_ble_eq_true rfl, Nat.le_of_ble_eq_true rfl⟩ [.int l3, .int (u0.1 182 (Int32.toNatClampNeg (0 : Int32))), .int (u0.1 182 (Int32.toNatClampNeg (1 : Int32))), .int (u0.1 182 (Int32.toNatClampNeg (2 : Int32)))] [] rfl rfl (Nat.le_of_ble_eq_true rfl) rfl (Nat.le_of_ble_eq_true rfl) (en_X12_tellsOf m l3 (u0.1 182 (Int32.toNatClampNeg (0 : Int32))) (u0.1 182 (Int32.toNatClampNeg (1 : Int32))) (u0.1 182 (Int32.toNatClampNeg (2 : Int32))) u0) sh_150 (by decide) rfl (fun q6 => ?_)
            refine xs_istore (n := 52) (lv' := [some (.ref 150), some (.int l1), some (.int l2), some (.int l3), some (.int q6.1)]) dX12_takes_50 rfl (Nat.le_of_ble_eq_true rfl) rfl ?_
            refine xs_iload (n := 54) dX12_takes_52 rfl rfl ?_
            refine xs_iconst (n := 55) (v := (2 : Int32)) dX12_takes_54 rfl rfl ?_
            refine xs_irem (n := 56) dX12_takes_55 rfl (fun _ => ?_)
            refine xs_iconst (n := 57) (v := (1 : Int32)) dX12_takes_56 rfl rfl ?_
            refine xs_join 65 (fun q7 => [some (.ref 150), none, some (.int l2), some (.int l3), some (.int q6.1)]) (fun q7 => [.int q7]) (fun q7 => q6.2) (fun q7 => ?_) (fun kj8 => ?_)
            · refine xs_istore_n (n := 66) (lv' := [some (.ref 150), some (.int q7), some (.int l2), some (.int l3), some (.int q6.1)]) dX12_takes_65 rfl (Nat.le_of_ble_eq_true rfl) rfl ?_
              refine xs_iload_n (n := 67) dX12_takes_66 rfl rfl ?_
              refine xs_join 82 (fun q10 => [some (.ref 150), some (.int q7), none, some (.int l3), none]) (fun q10 => [.int q10]) (fun q10 => q6.2) (fun q10 => ?_) (fun kj11 => ?_)
              · refine xs_istore_n (n := 83) (lv' := [some (.ref 150), some (.int q7), some (.int q10), some (.int l3), none]) dX12_takes_82 rfl (Nat.le_of_ble_eq_true rfl) rfl ?_
                exact xs_gf (xs_end (kj4 (q7, q10, q6.2))) (And.intro rfl (And.intro rfl (And.intro rfl (And.intro rfl trivial))))
              · refine xs_if_ne (n := 70) (tgt := 77) dX12_takes_67 rfl rfl (fun hc12 => ?_) (fun hc12 => ?_)
                · refine xs_iload (n := 72) dX12_takes_70 rfl rfl ?_
                  refine xs_bipush (n := 74) (v := (6 : Int32)) dX12_takes_72 rfl rfl ?_
                  refine xs_icmp_lt (n := 77) (tgt := 81) dX12_takes_74 rfl rfl (fun hc13 => ?_) (fun hc13 => ?_)
                  · refine xs_iconst (n := 82) (v := (0 : Int32)) dX12_takes_81 rfl rfl ?_
                    exact xs_gf (xs_end (kj11 ((0 : Int32)))) (And.intro rfl (And.intro rfl (And.intro rfl trivial)))
                  · refine xs_iconst (n := 78) (v := (1 : Int32)) dX12_takes_77 rfl rfl ?_
                    refine xs_goto (n := 82) dX12_takes_78 rfl ?_
                    exact xs_gf (xs_end (kj11 ((1 : Int32)))) (And.intro rfl (And.intro rfl (And.intro rfl trivial)))
                · refine xs_iconst (n := 78) (v := (1 : Int32)) dX12_takes_77 rfl rfl ?_
                  refine xs_goto (n := 82) dX12_takes_78 rfl ?_
                  exact xs_gf (xs_end (kj11 ((1 : Int32)))) (And.intro rfl (And.intro rfl (And.intro rfl trivial)))
            · refine xs_icmp_ne (n := 60) (tgt := 64) dX12_takes_57 rfl rfl (fun hc9 => ?_) (fun hc9 => ?_)
              · refine xs_iconst (n := 61) (v := (1 : Int32)) dX12_takes_60 rfl rfl ?_
                refine xs_goto (n := 65) dX12_takes_61 rfl ?_
                exact xs_gf (xs_end (kj8 ((1 : Int32)))) (And.intro rfl (And.intro rfl (And.intro rfl (And.intro rfl trivial))))
              · refine xs_iconst (n := 65) (v := (0 : Int32)) dX12_takes_64 rfl rfl ?_
                exact xs_gf (xs_end (kj8 ((0 : Int32)))) (And.intro rfl (And.intro rfl (And.intro rfl (And.intro rfl trivial))))
theorem en_X12_takes (m : Nat) (u0 : xm_Y) : xs_ (fun x : Int32 => some (.int x)) sg_0 mt_X12_takes 0 [some (.ref 150), none, none, none, none] [] u0 0 0 (fn_X12_takes m u0) := by
  refine xs_top ?_
  rw [fn_X12_takes]
  refine xs_iconst (n := 1) (v := (1 : Int32)) dX12_takes_0 rfl rfl ?_
  refine xs_istore_n (n := 2) (lv' := [some (.ref 150), some (.int (1 : Int32)), none, none, none]) dX12_takes_1 rfl (Nat.le_of_ble_eq_true rfl) rfl ?_
  refine xs_iconst (n := 3) (v := (0 : Int32)) dX12_takes_2 rfl rfl ?_
  refine xs_istore_n (n := 4) (lv' := [some (.ref 150), some (.int (1 : Int32)), some (.int (0 : Int32)), none, none]) dX12_takes_3 rfl (Nat.le_of_ble_eq_true rfl) rfl ?_
  refine xs_iconst (n := 5) (v := (0 : Int32)) dX12_takes_4 rfl rfl ?_
  refine xs_istore_n (n := 6) (lv' := [some (.ref 150), some (.int (1 : Int32)), some (.int (0 : Int32)), some (.int (0 : Int32)), none]) dX12_takes_5 rfl (Nat.le_of_ble_eq_true rfl) rfl ?_
  refine xs_reg ?_
  refine xs_fg (lv' := [some (.ref 150), some (.int (1 : Int32)), some (.int (0 : Int32)), some (.int (0 : Int32)), none]) (And.intro rfl (And.intro rfl (And.intro rfl (And.intro rfl trivial)))) ?_
  refine el_X12_takes_6 m _ (fun q15 => ?_) m (1 : Int32) (0 : Int32) (0 : Int32) u0
  refine xs_iload_n (n := 90) dX12_takes_89 rfl rfl ?_
  refine xs_join 102 (fun q16 => [none, none, none, none, none]) (fun q16 => [.int q16]) (fun q16 => q15.2.2.2) (fun q16 => ?_) (fun kj17 => ?_)
  · exact xs_zret dX12_takes_102 rfl rfl
  · refine xs_if_eq (n := 93) (tgt := 101) dX12_takes_90 rfl rfl (fun hc18 => ?_) (fun hc18 => ?_)
    · refine xs_iconst (n := 102) (v := (0 : Int32)) dX12_takes_101 rfl rfl ?_
      exact xs_gf (xs_end (kj17 ((0 : Int32)))) trivial
    · refine xs_iload_n (n := 94) dX12_takes_93 rfl rfl ?_
      refine xs_if_eq (n := 97) (tgt := 101) dX12_takes_94 rfl rfl (fun hc19 => ?_) (fun hc19 => ?_)
      · refine xs_iconst (n := 102) (v := (0 : Int32)) dX12_takes_101 rfl rfl ?_
        exact xs_gf (xs_end (kj17 ((0 : Int32)))) trivial
      · refine xs_iconst (n := 98) (v := (1 : Int32)) dX12_takes_97 rfl rfl ?_
        refine xs_goto (n := 102) dX12_takes_98 rfl ?_
        exact xs_gf (xs_end (kj17 ((1 : Int32)))) trivial
def lp_X12_rows_16 (m : Nat) : Nat → Int32 → xm_Y → Option (Int32 × xm_Y)
  | 0, _, _ => none
  | n + 1, l3, u0 =>
  if (5 : Int32) ≤ l3 then (
  some (l3, u0)) else (
  ((if (u0.1 150 1) ≤ l3 then (
  some ((0 : Int32))) else (
  some ((1 : Int32))) : Option (Int32)).bind fun q5 =>
  xm_chk (xm_in l3 5) (xm_let (w_I u0 164 (Int32.toNatClampNeg l3) (vp_nar .boolean q5)) fun u8 =>
  xm_chk (xm_in l3 5) (xm_let (w_I u8 163 (Int32.toNatClampNeg l3) (-1 : Int32)) fun u9 =>
  xm_let (α := Int32) (l3 + (1 : Int32)) fun v10 =>
  lp_X12_rows_16 m n v10 u9))))
def lp_X12_rows_75 (m : Nat) (c1 : Int32) : Nat → Int32 → xm_Y → Option (Int32 × xm_Y)
  | 0, _, _ => none
  | n + 1, l5, u0 =>
  if l5 = 0 then (
  some (l5, u0)) else (
  ((fn_X12_takes m u0).bind fun q16 =>
  if q16.1 = 0 then (
  ((fn_X12_nextSum m c1 q16.2).bind fun q18 =>
  lp_X12_rows_75 m c1 n q18.1 q18.2)) else (
  some (l5, q16.2))))
def lp_X12_rows_104 (m : Nat) (c3 : Int32) (c5 : Int32) : Nat → Int32 → Int32 → xm_Y → Option (Int32 × Int32 × xm_Y)
  | 0, _, _, _ => none
  | n + 1, l2, l6, u0 =>
  if (u0.1 150 1) ≤ l6 then (
  some (l2, l6, u0)) else (
  if c5 = 0 then (
  some (l2, l6, u0)) else (
  xm_chk (xm_in l6 5) (
  ((if (u0.1 164 (Int32.toNatClampNeg l6)) = 0 then (
  some (l2, u0)) else (
  xm_chk (xm_in (0 : Int32) 3) (
  xm_chk (xm_in (1 : Int32) 3) (
  xm_chk (xm_in (2 : Int32) 3) (
  ((fn_X12_tellsOf m l6 (u0.1 182 (Int32.toNatClampNeg (0 : Int32))) (u0.1 182 (Int32.toNatClampNeg (1 : Int32))) (u0.1 182 (Int32.toNatClampNeg (2 : Int32))) u0).bind fun q25 =>
  if q25.1 < (6 : Int32) then (
  some (l2, q25.2)) else (
  xm_chk (xm_in l6 5) (xm_let (w_I q25.2 164 (Int32.toNatClampNeg l6) (vp_nar .boolean (0 : Int32))) fun u27 =>
  xm_chk (xm_in l6 5) (xm_let (w_I u27 163 (Int32.toNatClampNeg l6) c3) fun u28 =>
  xm_let (α := Int32) (l2 + (-1 : Int32)) fun v29 =>
  some (v29, u28))))))))) : Option (Int32 × xm_Y)).bind fun q22 =>
  xm_let (α := Int32) (l6 + (1 : Int32)) fun v30 =>
  lp_X12_rows_104 m c3 c5 n q22.1 v30 q22.2))))
def lp_X12_rows_185 (m : Nat) (c3 : Int32) (c5 : Int32) : Nat → Int32 → xm_Y → Option (Int32 × xm_Y)
  | 0, _, _ => none
  | n + 1, l6, u0 =>
  if (3 : Int32) ≤ l6 then (
  some (l6, u0)) else (
  if c5 = 0 then (
  some (l6, u0)) else (
  xm_chk (xm_in l6 3) (
  xm_chk (xm_in (((3 : Int32) * c3) + l6) 15) (xm_let (w_I u0 161 (Int32.toNatClampNeg (((3 : Int32) * c3) + l6)) (u0.1 182 (Int32.toNatClampNeg l6))) fun u34 =>
  xm_let (α := Int32) (l6 + (1 : Int32)) fun v35 =>
  lp_X12_rows_185 m c3 c5 n v35 u34))))
def lp_X12_rows_58 (m : Nat) (c1 : Int32) : Nat → Int32 → Int32 → Int32 → xm_Y → Option (Int32 × Int32 × Int32 × xm_Y)
  | 0, _, _, _, _ => none
  | n + 1, l2, l3, l4, u0 =>
  if l2 ≤ 0 then (
  some (l2, l3, l4, u0)) else (
  if l4 = 0 then (
  some (l2, l3, l4, u0)) else (
  ((fn_X12_firstSum m c1 u0).bind fun q14 =>
  ((lp_X12_rows_75 m c1 m (1 : Int32) q14.2).bind fun q19 =>
  ((lp_X12_rows_104 m l3 q19.1 m l2 (0 : Int32) q19.2).bind fun q31 =>
  ((lp_X12_rows_185 m l3 q19.1 m (0 : Int32) q31.2.2).bind fun q36 =>
  ((if q19.1 = 0 then (
  some ((0 : Int32))) else (
  some ((1 : Int32))) : Option (Int32)).bind fun q37 =>
  xm_let (α := Int32) ((l3 + q37)) fun v40 =>
  lp_X12_rows_58 m c1 n q31.1 v40 q19.1 q36.2)))))))
def fn_X12_rows (m : Nat) (x0 : Int32) (u0 : xm_Y) : Option (Int32 × xm_Y) :=
  ((fn_X12_isSize m x0 u0).bind fun q1 =>
  if q1.1 = 0 then (
  some ((-1 : Int32), q1.2)) else (
  xm_let (α := Int32) ((q1.2.1 150 1)) fun v3 =>
  ((lp_X12_rows_16 m m (0 : Int32) q1.2).bind fun q11 =>
  ((lp_X12_rows_58 m x0 m v3 (0 : Int32) (1 : Int32) q11.2).bind fun q41 =>
  ((if q41.2.1 ≤ 0 then (
  some ((q41.2.2.2.1 150 19))) else (
  some (q41.2.1)) : Option (Int32)).bind fun q42 =>
  xm_let (w_I q41.2.2.2 150 19 q42) fun u45 =>
  ((if q41.1 ≤ 0 then (
  some (q41.2.1)) else (
  some ((-3 : Int32))) : Option (Int32)).bind fun q46 =>
  some (q46, u45)))))))
theorem el_X12_rows_16 (m : Nat) (c1 : Int32) (c2 : Int32) (K : Int32 × xm_Y → Option (Int32 × xm_Y)) (kE : ∀ q : Int32 × xm_Y, xs_ (fun x : Int32 => some (.int x)) sg_0 mt_X12_rows 53 [some (.ref 150), some (.int c1), some (.int c2), none, none, none, none] [] q.2 0 0 (K q)) : ∀ (n : Nat) (l3 : Int32) (u0 : xm_Y), xs_ (fun x : Int32 => some (.int x)) sg_0 mt_X12_rows 16 [some (.ref 150), some (.int c1), some (.int c2), some (.int l3), none, none, none] [] u0 0 0 ((lp_X12_rows_16 m n l3 u0).bind K) := by
  intro n
  induction n with
  | zero =>
    intro l3 u0
    exact xs_none
  | succ n ih =>
    intro l3 u0
    rw [lp_X12_rows_16]
    refine xs_iload_n (n := 17) dX12_rows_16 rfl rfl ?_
    refine xs_iconst (n := 18) (v := (5 : Int32)) dX12_rows_17 rfl rfl ?_
    refine xs_icmp_ge (n := 21) (tgt := 53) dX12_rows_18 rfl rfl (fun hc4 => ?_) (fun hc4 => ?_)
    · exact xs_gf (xs_end (kE (l3, u0))) (And.intro rfl (And.intro rfl (And.intro rfl trivial)))
    · refine xs_aload_n (n := 22) dX12_rows_21 rfl rfl ?_
      refine ys_getr (n := 25) dX12_rows_22 rfl fl_X12_55 sh_150 rfl ?_
      refine xs_iload_n (n := 26) dX12_rows_25 rfl rfl ?_
      refine xs_iload_n (n := 27) dX12_rows_26 rfl rfl ?_
      refine xs_aload_n (n := 28) dX12_rows_27 rfl rfl ?_
      refine ys_geti (n := 31) dX12_rows_28 rfl fl_X12_135 (Or.inl rfl) sh_150 ?_
      refine xs_join 39 (fun q5 => [some (.ref 150), some (.int c1), some (.int c2), some (.int l3), none, none, none]) (fun q5 => [.int q5, .int l3, .ref 164]) (fun q5 => u0) (fun q5 => ?_) (fun kj6 => ?_)
      · refine ys_bastore (n := 40) dX12_rows_39 rfl sh_164 (fun u8 => ?_)
        refine xs_aload_n (n := 41) dX12_rows_40 rfl rfl ?_
        refine ys_getr (n := 44) dX12_rows_41 rfl fl_X12_52 sh_150 rfl ?_
        refine xs_iload_n (n := 45) dX12_rows_44 rfl rfl ?_
        refine xs_iconst (n := 46) (v := (-1 : Int32)) dX12_rows_45 rfl rfl ?_
        refine ys_iastore (n := 47) dX12_rows_46 rfl sh_163 (fun u9 => ?_)
        refine xs_iincl (n := 50) (dv := (1 : Int32)) (fun v10 => [some (.ref 150), some (.int c1), some (.int c2), some (.int v10), none, none, none]) dX12_rows_47 rfl rfl rfl (Nat.le_of_ble_eq_true rfl) (fun _ => rfl) (fun v10 => ?_)
        refine xs_goto (n := 16) dX12_rows_50 rfl ?_
        exact xs_gf (ih v10 u9) (And.intro rfl (And.intro rfl (And.intro rfl (And.intro rfl trivial))))
      · refine xs_icmp_ge (n := 34) (tgt := 38) dX12_rows_31 rfl rfl (fun hc7 => ?_) (fun hc7 => ?_)
        · refine xs_iconst (n := 39) (v := (0 : Int32)) dX12_rows_38 rfl rfl ?_
          exact xs_gf (xs_end (kj6 ((0 : Int32)))) (And.intro rfl (And.intro rfl (And.intro rfl (And.intro rfl trivial))))
        · refine xs_iconst (n := 35) (v := (1 : Int32)) dX12_rows_34 rfl rfl ?_
          refine xs_goto (n := 39) dX12_rows_35 rfl ?_
          exact xs_gf (xs_end (kj6 ((1 : Int32)))) (And.intro rfl (And.intro rfl (And.intro rfl (And.intro rfl trivial))))
theorem el_X12_rows_75 (m : Nat) (c1 : Int32) (c2 : Int32) (c3 : Int32) (K : Int32 × xm_Y → Option (Int32 × xm_Y)) (kE : ∀ q : Int32 × xm_Y, xs_ (fun x : Int32 => some (.int x)) sg_0 mt_X12_rows 97 [some (.ref 150), some (.int c1), some (.int c2), some (.int c3), none, some (.int q.1), none] [] q.2 0 0 (K q)) : ∀ (n : Nat) (l5 : Int32) (u0 : xm_Y), xs_ (fun x : Int32 => some (.int x)) sg_0 mt_X12_rows 75 [some (.ref 150), some (.int c1), some (.int c2), some (.int c3), none, some (.int l5), none] [] u0 0 0 ((lp_X12_rows_75 m c1 n l5 u0).bind K) := by
  intro n
  induction n with
  | zero =>
    intro l5 u0
    exact xs_none
  | succ n ih =>
    intro l5 u0
    rw [lp_X12_rows_75]
    refine xs_iload (n := 77) dX12_rows_75 rfl rfl ?_
    refine xs_if_eq (n := 80) (tgt := 97) dX12_rows_77 rfl rfl (fun hc15 => ?_) (fun hc15 => ?_)
    · exact xs_gf (xs_end (kE (l5, u0))) (And.intro rfl (And.intro rfl (And.intro rfl (And.intro rfl (And.intro rfl trivial)))))
    · refine xs_aload_n (n := 81) dX12_rows_80 rfl rfl ?_
      refine ys_callvi (n := 84) (N := mt_X12_takes) dX12_rows_81 rfl ok_X12_takes tw_1231 im_X12_takes se_X12_takes ⟨Nat.le_of_ble_eq_true rfl, Nat.le_of_ble_eq_true rfl⟩ [] [] rfl rfl (Nat.le_of_ble_eq_true rfl) rfl (Nat.le_of_ble_eq_true rfl) (en_X12_takes m u0) sh_150 (by decide) rfl (fun q16 => ?_)
      refine xs_if_ne (n := 87) (tgt := 97) dX12_rows_84 rfl rfl (fun hc17 => ?_) (fun hc17 => ?_)
      · refine xs_aload_n (n := 88) dX12_rows_87 rfl rfl ?_
        refine xs_iload_n (n := 89) dX12_rows_88 rfl rfl ?_
        refine ys_callvi (n := 92) (N := mt_X12_nextSum) dX12_rows_89 rfl ok_X12_nextSum tw_1218 im_X12_nextSum se_X12_nextSum ⟨Nat.le_of_ble_eq_true rfl, Nat.le_of_ble_eq_true rfl⟩ [.int c1] [] rfl rfl (Nat.le_of_ble_eq_true rfl) rfl (Nat.le_of_ble_eq_true rfl) (en_X12_nextSum m c1 q16.2) sh_150 (by decide) rfl (fun q18 => ?_)
        refine xs_istore (n := 94) (lv' := [some (.ref 150), some (.int c1), some (.int c2), some (.int c3), none, some (.int q18.1), none]) dX12_rows_92 rfl (Nat.le_of_ble_eq_true rfl) rfl ?_
        refine xs_goto (n := 75) dX12_rows_94 rfl ?_
        exact xs_gf (ih q18.1 q18.2) (And.intro rfl (And.intro rfl (And.intro rfl (And.intro rfl (And.intro rfl trivial)))))
      · exact xs_gf (xs_end (kE (l5, q16.2))) (And.intro rfl (And.intro rfl (And.intro rfl (And.intro rfl (And.intro rfl trivial)))))
theorem el_X12_rows_104 (m : Nat) (c3 : Int32) (c5 : Int32) (c1 : Int32) (c4 : Int32) (K : Int32 × Int32 × xm_Y → Option (Int32 × xm_Y)) (kE : ∀ q : Int32 × Int32 × xm_Y, xs_ (fun x : Int32 => some (.int x)) sg_0 mt_X12_rows 182 [some (.ref 150), some (.int c1), some (.int q.1), some (.int c3), some (.int c4), some (.int c5), none] [] q.2.2 0 0 (K q)) : ∀ (n : Nat) (l2 : Int32) (l6 : Int32) (u0 : xm_Y), xs_ (fun x : Int32 => some (.int x)) sg_0 mt_X12_rows 104 [some (.ref 150), some (.int c1), some (.int l2), some (.int c3), some (.int c4), some (.int c5), some (.int l6)] [] u0 0 0 ((lp_X12_rows_104 m c3 c5 n l2 l6 u0).bind K) := by
  intro n
  induction n with
  | zero =>
    intro l2 l6 u0
    exact xs_none
  | succ n ih =>
    intro l2 l6 u0
    rw [lp_X12_rows_104]
    refine xs_iload (n := 106) dX12_rows_104 rfl rfl ?_
    refine xs_aload_n (n := 107) dX12_rows_106 rfl rfl ?_
    refine ys_geti (n := 110) dX12_rows_107 rfl fl_X12_135 (Or.inl rfl) sh_150 ?_
    refine xs_icmp_ge (n := 113) (tgt := 182) dX12_rows_110 rfl rfl (fun hc20 => ?_) (fun hc20 => ?_)
    · exact xs_gf (xs_end (kE (l2, l6, u0))) (And.intro rfl (And.intro rfl (And.intro rfl (And.intro rfl (And.intro rfl (And.intro rfl trivial))))))
    · refine xs_iload (n := 115) dX12_rows_113 rfl rfl ?_
      refine xs_if_eq (n := 118) (tgt := 182) dX12_rows_115 rfl rfl (fun hc21 => ?_) (fun hc21 => ?_)
      · exact xs_gf (xs_end (kE (l2, l6, u0))) (And.intro rfl (And.intro rfl (And.intro rfl (And.intro rfl (And.intro rfl (And.intro rfl trivial))))))
      · refine xs_aload_n (n := 119) dX12_rows_118 rfl rfl ?_
        refine ys_getr (n := 122) dX12_rows_119 rfl fl_X12_55 sh_150 rfl ?_
        refine xs_iload (n := 124) dX12_rows_122 rfl rfl ?_
        refine ys_baload (n := 125) dX12_rows_124 rfl sh_164 ?_
        refine xs_join 176 (fun q22 => [some (.ref 150), some (.int c1), some (.int q22.1), some (.int c3), some (.int c4), some (.int c5), some (.int l6)]) (fun q22 => []) (fun q22 => q22.2) (fun q22 => ?_) (fun kj23 => ?_)
        · refine xs_iincl (n := 179) (dv := (1 : Int32)) (fun v30 => [some (.ref 150), some (.int c1), some (.int q22.1), some (.int c3), some (.int c4), some (.int c5), some (.int v30)]) dX12_rows_176 rfl rfl rfl (Nat.le_of_ble_eq_true rfl) (fun _ => rfl) (fun v30 => ?_)
          refine xs_goto (n := 104) dX12_rows_179 rfl ?_
          exact xs_gf (ih q22.1 v30 q22.2) (And.intro rfl (And.intro rfl (And.intro rfl (And.intro rfl (And.intro rfl (And.intro rfl (And.intro rfl trivial)))))))
        · refine xs_if_eq (n := 128) (tgt := 176) dX12_rows_125 rfl rfl (fun hc24 => ?_) (fun hc24 => ?_)
          · exact xs_gf (xs_end (kj23 (l2, u0))) (And.intro rfl (And.intro rfl (And.intro rfl (And.intro rfl (And.intro rfl (And.intro rfl (And.intro rfl trivial)))))))
          · refine xs_aload_n (n := 129) dX12_rows_128 rfl rfl ?_
            refine xs_iload (n := 131) dX12_rows_129 rfl rfl ?_
            refine xs_aload_n (n := 132) dX12_rows_131 rfl rfl ?_
            refine ys_getr (n := 135) dX12_rows_132 rfl fl_X12_125 sh_150 rfl ?_
            refine xs_iconst (n := 136) (v := (0 : Int32)) dX12_rows_135 rfl rfl ?_
            refine ys_iaload (n := 137) dX12_rows_136 rfl sh_182 ?_
            refine xs_aload_n (n := 138) dX12_rows_137 rfl rfl ?_
            refine ys_getr (n := 141) dX12_rows_138 rfl fl_X12_125 sh_150 rfl ?_
            refine xs_iconst (n := 142) (v := (1 : Int32)) dX12_rows_141 rfl rfl ?_
            refine ys_iaload (n := 143) dX12_rows_142 rfl sh_182 ?_
            refine xs_aload_n (n := 144) dX12_rows_143 rfl rfl ?_
            refine ys_getr (n := 147) dX12_rows_144 rfl fl_X12_125 sh_150 rfl ?_
            refine xs_iconst (n := 148) (v := (2 : Int32)) dX12_rows_147 rfl rfl ?_
            refine ys_iaload (n := 149) dX12_rows_148 rfl sh_182 ?_
            refine ys_callvi (n := 152) (N := mt_X12_tellsOf) dX12_rows_149 rfl ok_X12_tellsOf tw_1112 im_X12_tellsOf se_X12_tellsOf ⟨Nat.le_of_ble_eq_true rfl, Nat.le_of_ble_eq_true rfl⟩ [.int l6, .int (u0.1 182 (Int32.toNatClampNeg (0 : Int32))), .int (u0.1 182 (Int32.toNatClampNeg (1 : Int32))), .int (u0.1 182 (Int32.toNatClampNeg (2 : Int32)))] [] rfl rfl (Nat.le_of_ble_eq_true rfl) rfl (Nat.le_of_ble_eq_true rfl) (en_X12_tellsOf m l6 (u0.1 182 (Int32.toNatClampNeg (0 : Int32))) (u0.1 182 (Int32.toNatClampNeg (1 : Int32))) (u0.1 182 (Int32.toNatClampNeg (2 : Int32))) u0) sh_150 (by decide) rfl (fun q25 => ?_)
            refine xs_bipush (n := 154) (v := (6 : Int32)) dX12_rows_152 rfl rfl ?_
            refine xs_icmp_lt (n := 157) (tgt := 176) dX12_rows_154 rfl rfl (fun hc26 => ?_) (fun hc26 => ?_)
            · exact xs_gf (xs_end (kj23 (l2, q25.2))) (And.intro rfl (And.intro rfl (And.intro rfl (And.intro rfl (And.intro rfl (And.intro rfl (And.intro rfl trivial)))))))
            · refine xs_aload_n (n := 158) dX12_rows_157 rfl rfl ?_
              refine ys_getr (n := 161) dX12_rows_158 rfl fl_X12_55 sh_150 rfl ?_
              refine xs_iload (n := 163) dX12_rows_161 rfl rfl ?_
              refine xs_iconst (n := 164) (v := (0 : Int32)) dX12_rows_163 rfl rfl ?_
              refine ys_bastore (n := 165) dX12_rows_164 rfl sh_164 (fun u27 => ?_)
              refine xs_aload_n (n := 166) dX12_rows_165 rfl rfl ?_
              refine ys_getr (n := 169) dX12_rows_166 rfl fl_X12_52 sh_150 rfl ?_
              refine xs_iload (n := 171) dX12_rows_169 rfl rfl ?_
              refine xs_iload_n (n := 172) dX12_rows_171 rfl rfl ?_
              refine ys_iastore (n := 173) dX12_rows_172 rfl sh_163 (fun u28 => ?_)
              refine xs_iincl (n := 176) (dv := (-1 : Int32)) (fun v29 => [some (.ref 150), some (.int c1), some (.int v29), some (.int c3), some (.int c4), some (.int c5), some (.int l6)]) dX12_rows_173 rfl rfl rfl (Nat.le_of_ble_eq_true rfl) (fun _ => rfl) (fun v29 => ?_)
              exact xs_gf (xs_end (kj23 (v29, u28))) (And.intro rfl (And.intro rfl (And.intro rfl (And.intro rfl (And.intro rfl (And.intro rfl (And.intro rfl trivial)))))))
theorem el_X12_rows_185 (m : Nat) (c3 : Int32) (c5 : Int32) (c1 : Int32) (c2 : Int32) (c4 : Int32) (K : Int32 × xm_Y → Option (Int32 × xm_Y)) (kE : ∀ q : Int32 × xm_Y, xs_ (fun x : Int32 => some (.int x)) sg_0 mt_X12_rows 220 [some (.ref 150), some (.int c1), some (.int c2), some (.int c3), some (.int c4), some (.int c5), none] [] q.2 0 0 (K q)) : ∀ (n : Nat) (l6 : Int32) (u0 : xm_Y), xs_ (fun x : Int32 => some (.int x)) sg_0 mt_X12_rows 185 [some (.ref 150), some (.int c1), some (.int c2), some (.int c3), some (.int c4), some (.int c5), some (.int l6)] [] u0 0 0 ((lp_X12_rows_185 m c3 c5 n l6 u0).bind K) := by
  intro n
  induction n with
  | zero =>
    intro l6 u0
    exact xs_none
  | succ n ih =>
    intro l6 u0
    rw [lp_X12_rows_185]
    refine xs_iload (n := 187) dX12_rows_185 rfl rfl ?_
    refine xs_iconst (n := 188) (v := (3 : Int32)) dX12_rows_187 rfl rfl ?_
    refine xs_icmp_ge (n := 191) (tgt := 220) dX12_rows_188 rfl rfl (fun hc32 => ?_) (fun hc32 => ?_)
    · exact xs_gf (xs_end (kE (l6, u0))) (And.intro rfl (And.intro rfl (And.intro rfl (And.intro rfl (And.intro rfl (And.intro rfl trivial))))))
    · refine xs_iload (n := 193) dX12_rows_191 rfl rfl ?_
      refine xs_if_eq (n := 196) (tgt := 220) dX12_rows_193 rfl rfl (fun hc33 => ?_) (fun hc33 => ?_)
      · exact xs_gf (xs_end (kE (l6, u0))) (And.intro rfl (And.intro rfl (And.intro rfl (And.intro rfl (And.intro rfl (And.intro rfl trivial))))))
      · refine xs_aload_n (n := 197) dX12_rows_196 rfl rfl ?_
        refine ys_getr (n := 200) dX12_rows_197 rfl fl_X12_46 sh_150 rfl ?_
        refine xs_iconst (n := 201) (v := (3 : Int32)) dX12_rows_200 rfl rfl ?_
        refine xs_iload_n (n := 202) dX12_rows_201 rfl rfl ?_
        refine xs_imul (n := 203) dX12_rows_202 rfl ?_
        refine xs_iload (n := 205) dX12_rows_203 rfl rfl ?_
        refine xs_iadd (n := 206) dX12_rows_205 rfl ?_
        refine xs_aload_n (n := 207) dX12_rows_206 rfl rfl ?_
        refine ys_getr (n := 210) dX12_rows_207 rfl fl_X12_125 sh_150 rfl ?_
        refine xs_iload (n := 212) dX12_rows_210 rfl rfl ?_
        refine ys_iaload (n := 213) dX12_rows_212 rfl sh_182 ?_
        refine ys_iastore (n := 214) dX12_rows_213 rfl sh_161 (fun u34 => ?_)
        refine xs_iincl (n := 217) (dv := (1 : Int32)) (fun v35 => [some (.ref 150), some (.int c1), some (.int c2), some (.int c3), some (.int c4), some (.int c5), some (.int v35)]) dX12_rows_214 rfl rfl rfl (Nat.le_of_ble_eq_true rfl) (fun _ => rfl) (fun v35 => ?_)
        refine xs_goto (n := 185) dX12_rows_217 rfl ?_
        exact xs_gf (ih v35 u34) (And.intro rfl (And.intro rfl (And.intro rfl (And.intro rfl (And.intro rfl (And.intro rfl (And.intro rfl trivial)))))))
theorem el_X12_rows_58 (m : Nat) (c1 : Int32) (K : Int32 × Int32 × Int32 × xm_Y → Option (Int32 × xm_Y)) (kE : ∀ q : Int32 × Int32 × Int32 × xm_Y, xs_ (fun x : Int32 => some (.int x)) sg_0 mt_X12_rows 236 [some (.ref 150), none, some (.int q.1), some (.int q.2.1), none, none, none] [] q.2.2.2 0 0 (K q)) : ∀ (n : Nat) (l2 : Int32) (l3 : Int32) (l4 : Int32) (u0 : xm_Y), xs_ (fun x : Int32 => some (.int x)) sg_0 mt_X12_rows 58 [some (.ref 150), some (.int c1), some (.int l2), some (.int l3), some (.int l4), none, none] [] u0 0 0 ((lp_X12_rows_58 m c1 n l2 l3 l4 u0).bind K) := by
  intro n
  induction n with
  | zero =>
    intro l2 l3 l4 u0
    exact xs_none
  | succ n ih =>
    intro l2 l3 l4 u0
    rw [lp_X12_rows_58]
    refine xs_iload_n (n := 59) dX12_rows_58 rfl rfl ?_
    refine xs_if_le (n := 62) (tgt := 236) dX12_rows_59 rfl rfl (fun hc12 => ?_) (fun hc12 => ?_)
    · exact xs_gf (xs_end (kE (l2, l3, l4, u0))) (And.intro rfl (And.intro rfl (And.intro rfl trivial)))
    · refine xs_iload (n := 64) dX12_rows_62 rfl rfl ?_
      refine xs_if_eq (n := 67) (tgt := 236) dX12_rows_64 rfl rfl (fun hc13 => ?_) (fun hc13 => ?_)
      · exact xs_gf (xs_end (kE (l2, l3, l4, u0))) (And.intro rfl (And.intro rfl (And.intro rfl trivial)))
      · refine xs_aload_n (n := 68) dX12_rows_67 rfl rfl ?_
        refine xs_iload_n (n := 69) dX12_rows_68 rfl rfl ?_
        refine ys_callvv (n := 72) (N := mt_X12_firstSum) dX12_rows_69 rfl ok_X12_firstSum tw_1214 im_X12_firstSum se_X12_firstSum ⟨Nat.le_of_ble_eq_true rfl, Nat.le_of_ble_eq_true rfl⟩ [.int c1] [] rfl rfl (Nat.le_of_ble_eq_true rfl) rfl (Nat.le_of_ble_eq_true rfl) (en_X12_firstSum m c1 u0) sh_150 (by decide) rfl (fun q14 => ?_)
        refine xs_iconst (n := 73) (v := (1 : Int32)) dX12_rows_72 rfl rfl ?_
        refine xs_istore (n := 75) (lv' := [some (.ref 150), some (.int c1), some (.int l2), some (.int l3), some (.int l4), some (.int (1 : Int32)), none]) dX12_rows_73 rfl (Nat.le_of_ble_eq_true rfl) rfl ?_
        refine xs_reg ?_
        refine xs_fg (lv' := [some (.ref 150), some (.int c1), some (.int l2), some (.int l3), none, some (.int (1 : Int32)), none]) (And.intro rfl (And.intro rfl (And.intro rfl (And.intro rfl (And.intro rfl trivial))))) ?_
        refine el_X12_rows_75 m c1 l2 l3 _ (fun q19 => ?_) m (1 : Int32) q14.2
        refine xs_iload (n := 99) dX12_rows_97 rfl rfl ?_
        refine xs_istore (n := 101) (lv' := [some (.ref 150), some (.int c1), some (.int l2), some (.int l3), some (.int q19.1), some (.int q19.1), none]) dX12_rows_99 rfl (Nat.le_of_ble_eq_true rfl) rfl ?_
        refine xs_iconst (n := 102) (v := (0 : Int32)) dX12_rows_101 rfl rfl ?_
        refine xs_istore (n := 104) (lv' := [some (.ref 150), some (.int c1), some (.int l2), some (.int l3), some (.int q19.1), some (.int q19.1), some (.int (0 : Int32))]) dX12_rows_102 rfl (Nat.le_of_ble_eq_true rfl) rfl ?_
        refine xs_reg ?_
        refine xs_fg (lv' := [some (.ref 150), some (.int c1), some (.int l2), some (.int l3), some (.int q19.1), some (.int q19.1), some (.int (0 : Int32))]) (And.intro rfl (And.intro rfl (And.intro rfl (And.intro rfl (And.intro rfl (And.intro rfl (And.intro rfl trivial))))))) ?_
        refine el_X12_rows_104 m l3 q19.1 c1 q19.1 _ (fun q31 => ?_) m l2 (0 : Int32) q19.2
        refine xs_iconst (n := 183) (v := (0 : Int32)) dX12_rows_182 rfl rfl ?_
        refine xs_istore (n := 185) (lv' := [some (.ref 150), some (.int c1), some (.int q31.1), some (.int l3), some (.int q19.1), some (.int q19.1), some (.int (0 : Int32))]) dX12_rows_183 rfl (Nat.le_of_ble_eq_true rfl) rfl ?_
        refine xs_reg ?_
        refine xs_fg (lv' := [some (.ref 150), some (.int c1), some (.int q31.1), some (.int l3), some (.int q19.1), some (.int q19.1), some (.int (0 : Int32))]) (And.intro rfl (And.intro rfl (And.intro rfl (And.intro rfl (And.intro rfl (And.intro rfl (And.intro rfl trivial))))))) ?_
        refine el_X12_rows_185 m l3 q19.1 c1 q31.1 q19.1 _ (fun q36 => ?_) m (0 : Int32) q31.2.2
        refine xs_iload_n (n := 221) dX12_rows_220 rfl rfl ?_
        refine xs_iload (n := 223) dX12_rows_221 rfl rfl ?_
        refine xs_join 231 (fun q37 => [some (.ref 150), some (.int c1), some (.int q31.1), none, some (.int q19.1), none, none]) (fun q37 => [.int q37, .int l3]) (fun q37 => q36.2) (fun q37 => ?_) (fun kj38 => ?_)
        · refine xs_iadd (n := 232) dX12_rows_231 rfl ?_
          refine xs_leti (fun v40 => ?_)
          refine xs_istore_n (n := 233) (lv' := [some (.ref 150), some (.int c1), some (.int q31.1), some (.int v40), some (.int q19.1), none, none]) dX12_rows_232 rfl (Nat.le_of_ble_eq_true rfl) rfl ?_
          refine xs_goto (n := 58) dX12_rows_233 rfl ?_
          exact xs_gf (ih q31.1 v40 q19.1 q36.2) (And.intro rfl (And.intro rfl (And.intro rfl (And.intro rfl (And.intro rfl trivial)))))
        · refine xs_if_eq (n := 226) (tgt := 230) dX12_rows_223 rfl rfl (fun hc39 => ?_) (fun hc39 => ?_)
          · refine xs_iconst (n := 231) (v := (0 : Int32)) dX12_rows_230 rfl rfl ?_
            exact xs_gf (xs_end (kj38 ((0 : Int32)))) (And.intro rfl (And.intro rfl (And.intro rfl (And.intro rfl trivial))))
          · refine xs_iconst (n := 227) (v := (1 : Int32)) dX12_rows_226 rfl rfl ?_
            refine xs_goto (n := 231) dX12_rows_227 rfl ?_
            exact xs_gf (xs_end (kj38 ((1 : Int32)))) (And.intro rfl (And.intro rfl (And.intro rfl (And.intro rfl trivial))))
theorem en_X12_rows (m : Nat) (x0 : Int32) (u0 : xm_Y) : xs_ (fun x : Int32 => some (.int x)) sg_0 mt_X12_rows 0 [some (.ref 150), some (.int x0), none, none, none, none, none] [] u0 0 0 (fn_X12_rows m x0 u0) := by
  refine xs_top ?_
  rw [fn_X12_rows]
  refine xs_iload_n (n := 1) dX12_rows_0 rfl rfl ?_
  refine ys_callsi (n := 4) (N := mt_X12_isSize) dX12_rows_1 rfl ok_X12_isSize tw_1211 st_X12_isSize ⟨Nat.le_of_ble_eq_true rfl, Nat.le_of_ble_eq_true rfl⟩ [.int x0] [] rfl rfl (Nat.le_of_ble_eq_true rfl) rfl (Nat.le_of_ble_eq_true rfl) (en_X12_isSize m x0 u0) (fun q1 => ?_)
  refine xs_if_ne (n := 7) (tgt := 9) dX12_rows_4 rfl rfl (fun hc2 => ?_) (fun hc2 => ?_)
  · refine xs_iconst (n := 8) (v := (-1 : Int32)) dX12_rows_7 rfl rfl ?_
    exact xs_iret dX12_rows_8 rfl rfl
  · refine xs_aload_n (n := 10) dX12_rows_9 rfl rfl ?_
    refine ys_geti (n := 13) dX12_rows_10 rfl fl_X12_135 (Or.inl rfl) sh_150 ?_
    refine xs_leti (fun v3 => ?_)
    refine xs_istore_n (n := 14) (lv' := [some (.ref 150), some (.int x0), some (.int v3), none, none, none, none]) dX12_rows_13 rfl (Nat.le_of_ble_eq_true rfl) rfl ?_
    refine xs_iconst (n := 15) (v := (0 : Int32)) dX12_rows_14 rfl rfl ?_
    refine xs_istore_n (n := 16) (lv' := [some (.ref 150), some (.int x0), some (.int v3), some (.int (0 : Int32)), none, none, none]) dX12_rows_15 rfl (Nat.le_of_ble_eq_true rfl) rfl ?_
    refine xs_reg ?_
    refine xs_fg (lv' := [some (.ref 150), some (.int x0), some (.int v3), some (.int (0 : Int32)), none, none, none]) (And.intro rfl (And.intro rfl (And.intro rfl (And.intro rfl trivial)))) ?_
    refine el_X12_rows_16 m x0 v3 _ (fun q11 => ?_) m (0 : Int32) q1.2
    refine xs_iconst (n := 54) (v := (0 : Int32)) dX12_rows_53 rfl rfl ?_
    refine xs_istore_n (n := 55) (lv' := [some (.ref 150), some (.int x0), some (.int v3), some (.int (0 : Int32)), none, none, none]) dX12_rows_54 rfl (Nat.le_of_ble_eq_true rfl) rfl ?_
    refine xs_iconst (n := 56) (v := (1 : Int32)) dX12_rows_55 rfl rfl ?_
    refine xs_istore (n := 58) (lv' := [some (.ref 150), some (.int x0), some (.int v3), some (.int (0 : Int32)), some (.int (1 : Int32)), none, none]) dX12_rows_56 rfl (Nat.le_of_ble_eq_true rfl) rfl ?_
    refine xs_reg ?_
    refine xs_fg (lv' := [some (.ref 150), some (.int x0), some (.int v3), some (.int (0 : Int32)), some (.int (1 : Int32)), none, none]) (And.intro rfl (And.intro rfl (And.intro rfl (And.intro rfl (And.intro rfl trivial))))) ?_
    refine el_X12_rows_58 m x0 _ (fun q41 => ?_) m v3 (0 : Int32) (1 : Int32) q11.2
    refine xs_aload_n (n := 237) dX12_rows_236 rfl rfl ?_
    refine xs_iload_n (n := 238) dX12_rows_237 rfl rfl ?_
    refine xs_join 249 (fun q42 => [none, none, some (.int q41.1), some (.int q41.2.1), none, none, none]) (fun q42 => [.int q42, .ref 150]) (fun q42 => q41.2.2.2) (fun q42 => ?_) (fun kj43 => ?_)
    · refine ys_puti (n := 252) dX12_rows_249 rfl fl_X12_138 rfl sh_150 (fun u45 => ?_)
      refine xs_iload_n (n := 253) dX12_rows_252 rfl rfl ?_
      refine xs_join 262 (fun q46 => [none, none, none, none, none, none, none]) (fun q46 => [.int q46]) (fun q46 => u45) (fun q46 => ?_) (fun kj47 => ?_)
      · exact xs_iret dX12_rows_262 rfl rfl
      · refine xs_if_le (n := 256) (tgt := 261) dX12_rows_253 rfl rfl (fun hc48 => ?_) (fun hc48 => ?_)
        · refine xs_iload_n (n := 262) dX12_rows_261 rfl rfl ?_
          exact xs_gf (xs_end (kj47 (q41.2.1))) trivial
        · refine xs_bipush (n := 258) (v := (-3 : Int32)) dX12_rows_256 rfl rfl ?_
          refine xs_goto (n := 262) dX12_rows_258 rfl ?_
          exact xs_gf (xs_end (kj47 ((-3 : Int32)))) trivial
    · refine xs_if_le (n := 241) (tgt := 245) dX12_rows_238 rfl rfl (fun hc44 => ?_) (fun hc44 => ?_)
      · refine xs_aload_n (n := 246) dX12_rows_245 rfl rfl ?_
        refine ys_geti (n := 249) dX12_rows_246 rfl fl_X12_138 (Or.inl rfl) sh_150 ?_
        exact xs_gf (xs_end (kj43 ((q41.2.2.2.1 150 19)))) (And.intro rfl (And.intro rfl trivial))
      · refine xs_iload_n (n := 242) dX12_rows_241 rfl rfl ?_
        refine xs_goto (n := 249) dX12_rows_242 rfl ?_
        exact xs_gf (xs_end (kj43 (q41.2.1))) (And.intro rfl (And.intro rfl trivial))
def fn_X12_found (m : Nat) (x0 : Int32) (x1 : Int32) (u0 : xm_Y) : Option (Int32 × xm_Y) :=
  ((if x0 < 0 then (
  some ((-1000 : Int32))) else (
  if (u0.1 150 19) ≤ x0 then (
  some ((-1000 : Int32))) else (
  if x1 < 0 then (
  some ((-1000 : Int32))) else (
  if (3 : Int32) ≤ x1 then (
  some ((-1000 : Int32))) else (
  xm_chk (xm_in (((3 : Int32) * x0) + x1) 15) (
  some ((u0.1 161 (Int32.toNatClampNeg (((3 : Int32) * x0) + x1))))))))) : Option (Int32)).bind fun q1 =>
  some (q1, u0))
theorem en_X12_found (m : Nat) (x0 : Int32) (x1 : Int32) (u0 : xm_Y) : xs_ (fun x : Int32 => some (.int x)) sg_0 mt_X12_found 0 [some (.ref 150), some (.int x0), some (.int x1)] [] u0 0 0 (fn_X12_found m x0 x1 u0) := by
  refine xs_top ?_
  rw [fn_X12_found]
  refine xs_iload_n (n := 1) dX12_found_0 rfl rfl ?_
  refine xs_join 37 (fun q1 => [none, none, none]) (fun q1 => [.int q1]) (fun q1 => u0) (fun q1 => ?_) (fun kj2 => ?_)
  · exact xs_iret dX12_found_37 rfl rfl
  · refine xs_if_lt (n := 4) (tgt := 34) dX12_found_1 rfl rfl (fun hc3 => ?_) (fun hc3 => ?_)
    · refine xs_sipush (n := 37) (v := (-1000 : Int32)) dX12_found_34 rfl rfl ?_
      exact xs_gf (xs_end (kj2 ((-1000 : Int32)))) trivial
    · refine xs_iload_n (n := 5) dX12_found_4 rfl rfl ?_
      refine xs_aload_n (n := 6) dX12_found_5 rfl rfl ?_
      refine ys_geti (n := 9) dX12_found_6 rfl fl_X12_138 (Or.inl rfl) sh_150 ?_
      refine xs_icmp_ge (n := 12) (tgt := 34) dX12_found_9 rfl rfl (fun hc4 => ?_) (fun hc4 => ?_)
      · refine xs_sipush (n := 37) (v := (-1000 : Int32)) dX12_found_34 rfl rfl ?_
        exact xs_gf (xs_end (kj2 ((-1000 : Int32)))) trivial
      · refine xs_iload_n (n := 13) dX12_found_12 rfl rfl ?_
        refine xs_if_lt (n := 16) (tgt := 34) dX12_found_13 rfl rfl (fun hc5 => ?_) (fun hc5 => ?_)
        · refine xs_sipush (n := 37) (v := (-1000 : Int32)) dX12_found_34 rfl rfl ?_
          exact xs_gf (xs_end (kj2 ((-1000 : Int32)))) trivial
        · refine xs_iload_n (n := 17) dX12_found_16 rfl rfl ?_
          refine xs_iconst (n := 18) (v := (3 : Int32)) dX12_found_17 rfl rfl ?_
          refine xs_icmp_ge (n := 21) (tgt := 34) dX12_found_18 rfl rfl (fun hc6 => ?_) (fun hc6 => ?_)
          · refine xs_sipush (n := 37) (v := (-1000 : Int32)) dX12_found_34 rfl rfl ?_
            exact xs_gf (xs_end (kj2 ((-1000 : Int32)))) trivial
          · refine xs_aload_n (n := 22) dX12_found_21 rfl rfl ?_
            refine ys_getr (n := 25) dX12_found_22 rfl fl_X12_46 sh_150 rfl ?_
            refine xs_iconst (n := 26) (v := (3 : Int32)) dX12_found_25 rfl rfl ?_
            refine xs_iload_n (n := 27) dX12_found_26 rfl rfl ?_
            refine xs_imul (n := 28) dX12_found_27 rfl ?_
            refine xs_iload_n (n := 29) dX12_found_28 rfl rfl ?_
            refine xs_iadd (n := 30) dX12_found_29 rfl ?_
            refine ys_iaload (n := 31) dX12_found_30 rfl sh_161 ?_
            refine xs_goto (n := 37) dX12_found_31 rfl ?_
            exact xs_gf (xs_end (kj2 ((u0.1 161 (Int32.toNatClampNeg (((3 : Int32) * x0) + x1)))))) trivial
def fn_X12_by (m : Nat) (x0 : Int32) (u0 : xm_Y) : Option (Int32 × xm_Y) :=
  ((fn_X12_isBody m x0 u0).bind fun q1 =>
  ((if q1.1 = 0 then (
  some ((-1 : Int32))) else (
  xm_chk (xm_in x0 5) (
  some ((q1.2.1 163 (Int32.toNatClampNeg x0))))) : Option (Int32)).bind fun q2 =>
  some (q2, q1.2)))
theorem en_X12_by (m : Nat) (x0 : Int32) (u0 : xm_Y) : xs_ (fun x : Int32 => some (.int x)) sg_0 mt_X12_by 0 [some (.ref 150), some (.int x0)] [] u0 0 0 (fn_X12_by m x0 u0) := by
  refine xs_top ?_
  rw [fn_X12_by]
  refine xs_aload_n (n := 1) dX12_by_0 rfl rfl ?_
  refine xs_iload_n (n := 2) dX12_by_1 rfl rfl ?_
  refine ys_callvi (n := 5) (N := mt_X12_isBody) dX12_by_2 rfl ok_X12_isBody tw_1031 im_X12_isBody se_X12_isBody ⟨Nat.le_of_ble_eq_true rfl, Nat.le_of_ble_eq_true rfl⟩ [.int x0] [] rfl rfl (Nat.le_of_ble_eq_true rfl) rfl (Nat.le_of_ble_eq_true rfl) (en_X12_isBody m x0 u0) sh_150 (by decide) rfl (fun q1 => ?_)
  refine xs_join 18 (fun q2 => [none, none]) (fun q2 => [.int q2]) (fun q2 => q1.2) (fun q2 => ?_) (fun kj3 => ?_)
  · exact xs_iret dX12_by_18 rfl rfl
  · refine xs_if_eq (n := 8) (tgt := 17) dX12_by_5 rfl rfl (fun hc4 => ?_) (fun hc4 => ?_)
    · refine xs_iconst (n := 18) (v := (-1 : Int32)) dX12_by_17 rfl rfl ?_
      exact xs_gf (xs_end (kj3 ((-1 : Int32)))) trivial
    · refine xs_aload_n (n := 9) dX12_by_8 rfl rfl ?_
      refine ys_getr (n := 12) dX12_by_9 rfl fl_X12_52 sh_150 rfl ?_
      refine xs_iload_n (n := 13) dX12_by_12 rfl rfl ?_
      refine ys_iaload (n := 14) dX12_by_13 rfl sh_163 ?_
      refine xs_goto (n := 18) dX12_by_14 rfl ?_
      exact xs_gf (xs_end (kj3 ((q1.2.1 163 (Int32.toNatClampNeg x0))))) trivial
def lp_X12_bound_15 (m : Nat) (u0 : xm_Y) : Nat → Int64 → Int32 → Option ((Int64 × xm_Y) ⊕ (Int64 × Int32))
  | 0, _, _ => none
  | n + 1, l1, l3 =>
  if (u0.1 150 0) ≤ l3 then (
  some (.inr (l1, l3))) else (
  xm_chk (xm_in ((2 : Int32) * l3) 6) (
  if (u0.1 156 (Int32.toNatClampNeg ((2 : Int32) * l3))) = 0 then (
  xm_chk (xm_in l3 3) (
  xm_chk (xm_in ((2 : Int32) * l3) 6) (
  if (u0.2 154 (Int32.toNatClampNeg l3)) < (u0.2 155 (Int32.toNatClampNeg ((2 : Int32) * l3))) then (
  some (.inl ((-3 : Int64), u0))) else (
  xm_chk (xm_in (((2 : Int32) * l3) + (1 : Int32)) 6) (
  if (u0.1 156 (Int32.toNatClampNeg (((2 : Int32) * l3) + (1 : Int32)))) = 0 then (
  xm_chk (xm_in l3 3) (
  xm_chk (xm_in (((2 : Int32) * l3) + (1 : Int32)) 6) (
  if (u0.2 154 (Int32.toNatClampNeg l3)) ≤ (u0.2 155 (Int32.toNatClampNeg (((2 : Int32) * l3) + (1 : Int32)))) then (
  xm_chk (xm_in l3 3) (
  xm_chk (xm_in l3 3) (
  xm_let (α := Int64) ((l1 + ((Int32.toInt64 (u0.1 162 (Int32.toNatClampNeg l3))) * (u0.2 154 (Int32.toNatClampNeg l3))))) fun v7 =>
  xm_let (α := Int32) (l3 + (1 : Int32)) fun v8 =>
  lp_X12_bound_15 m u0 n v7 v8))) else (
  some (.inl ((-3 : Int64), u0)))))) else (
  xm_chk (xm_in l3 3) (
  xm_chk (xm_in l3 3) (
  xm_let (α := Int64) ((l1 + ((Int32.toInt64 (u0.1 162 (Int32.toNatClampNeg l3))) * (u0.2 154 (Int32.toNatClampNeg l3))))) fun v9 =>
  xm_let (α := Int32) (l3 + (1 : Int32)) fun v10 =>
  lp_X12_bound_15 m u0 n v9 v10)))))))) else (
  xm_chk (xm_in (((2 : Int32) * l3) + (1 : Int32)) 6) (
  if (u0.1 156 (Int32.toNatClampNeg (((2 : Int32) * l3) + (1 : Int32)))) = 0 then (
  xm_chk (xm_in l3 3) (
  xm_chk (xm_in (((2 : Int32) * l3) + (1 : Int32)) 6) (
  if (u0.2 154 (Int32.toNatClampNeg l3)) ≤ (u0.2 155 (Int32.toNatClampNeg (((2 : Int32) * l3) + (1 : Int32)))) then (
  xm_chk (xm_in l3 3) (
  xm_chk (xm_in l3 3) (
  xm_let (α := Int64) ((l1 + ((Int32.toInt64 (u0.1 162 (Int32.toNatClampNeg l3))) * (u0.2 154 (Int32.toNatClampNeg l3))))) fun v13 =>
  xm_let (α := Int32) (l3 + (1 : Int32)) fun v14 =>
  lp_X12_bound_15 m u0 n v13 v14))) else (
  some (.inl ((-3 : Int64), u0)))))) else (
  xm_chk (xm_in l3 3) (
  xm_chk (xm_in l3 3) (
  xm_let (α := Int64) ((l1 + ((Int32.toInt64 (u0.1 162 (Int32.toNatClampNeg l3))) * (u0.2 154 (Int32.toNatClampNeg l3))))) fun v15 =>
  xm_let (α := Int32) (l3 + (1 : Int32)) fun v16 =>
  lp_X12_bound_15 m u0 n v15 v16)))))))
def fn_X12_bound (m : Nat) (u0 : xm_Y) : Option (Int64 × xm_Y) :=
  if (u0.1 150 21) = 0 then (
  some ((-1 : Int64), u0)) else (
  ((lp_X12_bound_15 m u0 m (1 : Int64) (0 : Int32)).bind (Sum.elim (fun r => some r) (fun q17 =>
  xm_chk (xm_in (0 : Int32) 3) (
  xm_chk (xm_in (1 : Int32) 3) (
  xm_chk (xm_in (2 : Int32) 3) (
  ((fn_X12_floorOf m (u0.1 162 (Int32.toNatClampNeg (0 : Int32))) (u0.1 162 (Int32.toNatClampNeg (1 : Int32))) (u0.1 162 (Int32.toNatClampNeg (2 : Int32))) u0).bind fun q18 =>
  xm_let (α := Int64) ((q17.1 - q18.1)) fun v19 =>
  ((if (0 : Int64) ≤ v19 then (
  some (v19)) else (
  some ((0 : Int64))) : Option (Int64)).bind fun q20 =>
  some (q20, q18.2))))))))))
theorem el_X12_bound_15 (m : Nat) (u0 : xm_Y) (K : (Int64 × xm_Y) ⊕ (Int64 × Int32) → Option (Int64 × xm_Y)) (hK : ∀ r, K (.inl r) = some r) (kE : ∀ q : Int64 × Int32, xs_ (fun x : Int64 => some (.long x)) sg_0 mt_X12_bound 112 [some (.ref 150), some (.long q.1), none, none] [] u0 0 0 (K (.inr q))) : ∀ (n : Nat) (l1 : Int64) (l3 : Int32), xs_ (fun x : Int64 => some (.long x)) sg_0 mt_X12_bound 15 [some (.ref 150), some (.long l1), none, some (.int l3)] [] u0 0 0 ((lp_X12_bound_15 m u0 n l1 l3).bind K) := by
  intro n
  induction n with
  | zero =>
    intro l1 l3
    exact xs_none
  | succ n ih =>
    intro l1 l3
    rw [lp_X12_bound_15]
    refine xs_iload_n (n := 16) dX12_bound_15 rfl rfl ?_
    refine xs_aload_n (n := 17) dX12_bound_16 rfl rfl ?_
    refine ys_geti (n := 20) dX12_bound_17 rfl fl_X12_7 (Or.inl rfl) sh_150 ?_
    refine xs_icmp_ge (n := 23) (tgt := 112) dX12_bound_20 rfl rfl (fun hc2 => ?_) (fun hc2 => ?_)
    · exact xs_gf (xs_end (kE (l1, l3))) (And.intro rfl (And.intro rfl trivial))
    · refine xs_aload_n (n := 24) dX12_bound_23 rfl rfl ?_
      refine ys_getr (n := 27) dX12_bound_24 rfl fl_X12_30 sh_150 rfl ?_
      refine xs_iconst (n := 28) (v := (2 : Int32)) dX12_bound_27 rfl rfl ?_
      refine xs_iload_n (n := 29) dX12_bound_28 rfl rfl ?_
      refine xs_imul (n := 30) dX12_bound_29 rfl ?_
      refine ys_baload (n := 31) dX12_bound_30 rfl sh_156 ?_
      refine xs_if_ne (n := 34) (tgt := 52) dX12_bound_31 rfl rfl (fun hc3 => ?_) (fun hc3 => ?_)
      · refine xs_aload_n (n := 35) dX12_bound_34 rfl rfl ?_
        refine ys_getr (n := 38) dX12_bound_35 rfl fl_X12_23 sh_150 rfl ?_
        refine xs_iload_n (n := 39) dX12_bound_38 rfl rfl ?_
        refine ys_laload (n := 40) dX12_bound_39 rfl sh_154 ?_
        refine xs_aload_n (n := 41) dX12_bound_40 rfl rfl ?_
        refine ys_getr (n := 44) dX12_bound_41 rfl fl_X12_27 sh_150 rfl ?_
        refine xs_iconst (n := 45) (v := (2 : Int32)) dX12_bound_44 rfl rfl ?_
        refine xs_iload_n (n := 46) dX12_bound_45 rfl rfl ?_
        refine xs_imul (n := 47) dX12_bound_46 rfl ?_
        refine ys_laload (n := 48) dX12_bound_47 rfl sh_155 ?_
        refine xs_lif_lt (n := 52) (pc1 := 49) (tgt := 85) dX12_bound_48 rfl dX12_bound_49 rfl rfl (fun hc4 => ?_) (fun hc4 => ?_)
        · refine xs_ldc2 (n := 88) (v := (-3 : Int64)) dX12_bound_85 rfl tw_1247 ?_
          exact xs_lret dX12_bound_88 rfl (hK _)
        · refine xs_aload_n (n := 53) dX12_bound_52 rfl rfl ?_
          refine ys_getr (n := 56) dX12_bound_53 rfl fl_X12_30 sh_150 rfl ?_
          refine xs_iconst (n := 57) (v := (2 : Int32)) dX12_bound_56 rfl rfl ?_
          refine xs_iload_n (n := 58) dX12_bound_57 rfl rfl ?_
          refine xs_imul (n := 59) dX12_bound_58 rfl ?_
          refine xs_iconst (n := 60) (v := (1 : Int32)) dX12_bound_59 rfl rfl ?_
          refine xs_iadd (n := 61) dX12_bound_60 rfl ?_
          refine ys_baload (n := 62) dX12_bound_61 rfl sh_156 ?_
          refine xs_if_ne (n := 65) (tgt := 89) dX12_bound_62 rfl rfl (fun hc5 => ?_) (fun hc5 => ?_)
          · refine xs_aload_n (n := 66) dX12_bound_65 rfl rfl ?_
            refine ys_getr (n := 69) dX12_bound_66 rfl fl_X12_23 sh_150 rfl ?_
            refine xs_iload_n (n := 70) dX12_bound_69 rfl rfl ?_
            refine ys_laload (n := 71) dX12_bound_70 rfl sh_154 ?_
            refine xs_aload_n (n := 72) dX12_bound_71 rfl rfl ?_
            refine ys_getr (n := 75) dX12_bound_72 rfl fl_X12_27 sh_150 rfl ?_
            refine xs_iconst (n := 76) (v := (2 : Int32)) dX12_bound_75 rfl rfl ?_
            refine xs_iload_n (n := 77) dX12_bound_76 rfl rfl ?_
            refine xs_imul (n := 78) dX12_bound_77 rfl ?_
            refine xs_iconst (n := 79) (v := (1 : Int32)) dX12_bound_78 rfl rfl ?_
            refine xs_iadd (n := 80) dX12_bound_79 rfl ?_
            refine ys_laload (n := 81) dX12_bound_80 rfl sh_155 ?_
            refine xs_lif_le (n := 85) (pc1 := 82) (tgt := 89) dX12_bound_81 rfl dX12_bound_82 rfl rfl (fun hc6 => ?_) (fun hc6 => ?_)
            · refine xs_lload_n (n := 90) dX12_bound_89 rfl rfl ?_
              refine xs_aload_n (n := 91) dX12_bound_90 rfl rfl ?_
              refine ys_getr (n := 94) dX12_bound_91 rfl fl_X12_49 sh_150 rfl ?_
              refine xs_iload_n (n := 95) dX12_bound_94 rfl rfl ?_
              refine ys_iaload (n := 96) dX12_bound_95 rfl sh_162 ?_
              refine xs_i2l (n := 97) dX12_bound_96 rfl ?_
              refine xs_aload_n (n := 98) dX12_bound_97 rfl rfl ?_
              refine ys_getr (n := 101) dX12_bound_98 rfl fl_X12_23 sh_150 rfl ?_
              refine xs_iload_n (n := 102) dX12_bound_101 rfl rfl ?_
              refine ys_laload (n := 103) dX12_bound_102 rfl sh_154 ?_
              refine xs_lmul (n := 104) dX12_bound_103 rfl ?_
              refine xs_ladd (n := 105) dX12_bound_104 rfl ?_
              refine xs_letl (fun v7 => ?_)
              refine xs_lstore_n (n := 106) (lv' := [some (.ref 150), some (.long v7), none, some (.int l3)]) dX12_bound_105 rfl (Nat.le_of_ble_eq_true rfl) rfl ?_
              refine xs_iincl (n := 109) (dv := (1 : Int32)) (fun v8 => [some (.ref 150), some (.long v7), none, some (.int v8)]) dX12_bound_106 rfl rfl rfl (Nat.le_of_ble_eq_true rfl) (fun _ => rfl) (fun v8 => ?_)
              refine xs_goto (n := 15) dX12_bound_109 rfl ?_
              exact xs_gf (ih v7 v8) (And.intro rfl (And.intro rfl (And.intro rfl trivial)))
            · refine xs_ldc2 (n := 88) (v := (-3 : Int64)) dX12_bound_85 rfl tw_1247 ?_
              exact xs_lret dX12_bound_88 rfl (hK _)
          · refine xs_lload_n (n := 90) dX12_bound_89 rfl rfl ?_
            refine xs_aload_n (n := 91) dX12_bound_90 rfl rfl ?_
            refine ys_getr (n := 94) dX12_bound_91 rfl fl_X12_49 sh_150 rfl ?_
            refine xs_iload_n (n := 95) dX12_bound_94 rfl rfl ?_
            refine ys_iaload (n := 96) dX12_bound_95 rfl sh_162 ?_
            refine xs_i2l (n := 97) dX12_bound_96 rfl ?_
            refine xs_aload_n (n := 98) dX12_bound_97 rfl rfl ?_
            refine ys_getr (n := 101) dX12_bound_98 rfl fl_X12_23 sh_150 rfl ?_
            refine xs_iload_n (n := 102) dX12_bound_101 rfl rfl ?_
            refine ys_laload (n := 103) dX12_bound_102 rfl sh_154 ?_
            refine xs_lmul (n := 104) dX12_bound_103 rfl ?_
            refine xs_ladd (n := 105) dX12_bound_104 rfl ?_
            refine xs_letl (fun v9 => ?_)
            refine xs_lstore_n (n := 106) (lv' := [some (.ref 150), some (.long v9), none, some (.int l3)]) dX12_bound_105 rfl (Nat.le_of_ble_eq_true rfl) rfl ?_
            refine xs_iincl (n := 109) (dv := (1 : Int32)) (fun v10 => [some (.ref 150), some (.long v9), none, some (.int v10)]) dX12_bound_106 rfl rfl rfl (Nat.le_of_ble_eq_true rfl) (fun _ => rfl) (fun v10 => ?_)
            refine xs_goto (n := 15) dX12_bound_109 rfl ?_
            exact xs_gf (ih v9 v10) (And.intro rfl (And.intro rfl (And.intro rfl trivial)))
      · refine xs_aload_n (n := 53) dX12_bound_52 rfl rfl ?_
        refine ys_getr (n := 56) dX12_bound_53 rfl fl_X12_30 sh_150 rfl ?_
        refine xs_iconst (n := 57) (v := (2 : Int32)) dX12_bound_56 rfl rfl ?_
        refine xs_iload_n (n := 58) dX12_bound_57 rfl rfl ?_
        refine xs_imul (n := 59) dX12_bound_58 rfl ?_
        refine xs_iconst (n := 60) (v := (1 : Int32)) dX12_bound_59 rfl rfl ?_
        refine xs_iadd (n := 61) dX12_bound_60 rfl ?_
        refine ys_baload (n := 62) dX12_bound_61 rfl sh_156 ?_
        refine xs_if_ne (n := 65) (tgt := 89) dX12_bound_62 rfl rfl (fun hc11 => ?_) (fun hc11 => ?_)
        · refine xs_aload_n (n := 66) dX12_bound_65 rfl rfl ?_
          refine ys_getr (n := 69) dX12_bound_66 rfl fl_X12_23 sh_150 rfl ?_
          refine xs_iload_n (n := 70) dX12_bound_69 rfl rfl ?_
          refine ys_laload (n := 71) dX12_bound_70 rfl sh_154 ?_
          refine xs_aload_n (n := 72) dX12_bound_71 rfl rfl ?_
          refine ys_getr (n := 75) dX12_bound_72 rfl fl_X12_27 sh_150 rfl ?_
          refine xs_iconst (n := 76) (v := (2 : Int32)) dX12_bound_75 rfl rfl ?_
          refine xs_iload_n (n := 77) dX12_bound_76 rfl rfl ?_
          refine xs_imul (n := 78) dX12_bound_77 rfl ?_
          refine xs_iconst (n := 79) (v := (1 : Int32)) dX12_bound_78 rfl rfl ?_
          refine xs_iadd (n := 80) dX12_bound_79 rfl ?_
          refine ys_laload (n := 81) dX12_bound_80 rfl sh_155 ?_
          refine xs_lif_le (n := 85) (pc1 := 82) (tgt := 89) dX12_bound_81 rfl dX12_bound_82 rfl rfl (fun hc12 => ?_) (fun hc12 => ?_)
          · refine xs_lload_n (n := 90) dX12_bound_89 rfl rfl ?_
            refine xs_aload_n (n := 91) dX12_bound_90 rfl rfl ?_
            refine ys_getr (n := 94) dX12_bound_91 rfl fl_X12_49 sh_150 rfl ?_
            refine xs_iload_n (n := 95) dX12_bound_94 rfl rfl ?_
            refine ys_iaload (n := 96) dX12_bound_95 rfl sh_162 ?_
            refine xs_i2l (n := 97) dX12_bound_96 rfl ?_
            refine xs_aload_n (n := 98) dX12_bound_97 rfl rfl ?_
            refine ys_getr (n := 101) dX12_bound_98 rfl fl_X12_23 sh_150 rfl ?_
            refine xs_iload_n (n := 102) dX12_bound_101 rfl rfl ?_
            refine ys_laload (n := 103) dX12_bound_102 rfl sh_154 ?_
            refine xs_lmul (n := 104) dX12_bound_103 rfl ?_
            refine xs_ladd (n := 105) dX12_bound_104 rfl ?_
            refine xs_letl (fun v13 => ?_)
            refine xs_lstore_n (n := 106) (lv' := [some (.ref 150), some (.long v13), none, some (.int l3)]) dX12_bound_105 rfl (Nat.le_of_ble_eq_true rfl) rfl ?_
            refine xs_iincl (n := 109) (dv := (1 : Int32)) (fun v14 => [some (.ref 150), some (.long v13), none, some (.int v14)]) dX12_bound_106 rfl rfl rfl (Nat.le_of_ble_eq_true rfl) (fun _ => rfl) (fun v14 => ?_)
            refine xs_goto (n := 15) dX12_bound_109 rfl ?_
            exact xs_gf (ih v13 v14) (And.intro rfl (And.intro rfl (And.intro rfl trivial)))
          · refine xs_ldc2 (n := 88) (v := (-3 : Int64)) dX12_bound_85 rfl tw_1247 ?_
            exact xs_lret dX12_bound_88 rfl (hK _)
        · refine xs_lload_n (n := 90) dX12_bound_89 rfl rfl ?_
          refine xs_aload_n (n := 91) dX12_bound_90 rfl rfl ?_
          refine ys_getr (n := 94) dX12_bound_91 rfl fl_X12_49 sh_150 rfl ?_
          refine xs_iload_n (n := 95) dX12_bound_94 rfl rfl ?_
          refine ys_iaload (n := 96) dX12_bound_95 rfl sh_162 ?_
          refine xs_i2l (n := 97) dX12_bound_96 rfl ?_
          refine xs_aload_n (n := 98) dX12_bound_97 rfl rfl ?_
          refine ys_getr (n := 101) dX12_bound_98 rfl fl_X12_23 sh_150 rfl ?_
          refine xs_iload_n (n := 102) dX12_bound_101 rfl rfl ?_
          refine ys_laload (n := 103) dX12_bound_102 rfl sh_154 ?_
          refine xs_lmul (n := 104) dX12_bound_103 rfl ?_
          refine xs_ladd (n := 105) dX12_bound_104 rfl ?_
          refine xs_letl (fun v15 => ?_)
          refine xs_lstore_n (n := 106) (lv' := [some (.ref 150), some (.long v15), none, some (.int l3)]) dX12_bound_105 rfl (Nat.le_of_ble_eq_true rfl) rfl ?_
          refine xs_iincl (n := 109) (dv := (1 : Int32)) (fun v16 => [some (.ref 150), some (.long v15), none, some (.int v16)]) dX12_bound_106 rfl rfl rfl (Nat.le_of_ble_eq_true rfl) (fun _ => rfl) (fun v16 => ?_)
          refine xs_goto (n := 15) dX12_bound_109 rfl ?_
          exact xs_gf (ih v15 v16) (And.intro rfl (And.intro rfl (And.intro rfl trivial)))
theorem en_X12_bound (m : Nat) (u0 : xm_Y) : xs_ (fun x : Int64 => some (.long x)) sg_0 mt_X12_bound 0 [some (.ref 150), none, none, none] [] u0 0 0 (fn_X12_bound m u0) := by
  refine xs_top ?_
  rw [fn_X12_bound]
  refine xs_aload_n (n := 1) dX12_bound_0 rfl rfl ?_
  refine ys_geti (n := 4) dX12_bound_1 rfl fl_X12_131 (Or.inr rfl) sh_150 ?_
  refine xs_if_ne (n := 7) (tgt := 11) dX12_bound_4 rfl rfl (fun hc1 => ?_) (fun hc1 => ?_)
  · refine xs_ldc2 (n := 10) (v := (-1 : Int64)) dX12_bound_7 rfl tw_1124 ?_
    exact xs_lret dX12_bound_10 rfl rfl
  · refine xs_lconst (n := 12) (v := (1 : Int64)) dX12_bound_11 rfl rfl ?_
    refine xs_lstore_n (n := 13) (lv' := [some (.ref 150), some (.long (1 : Int64)), none, none]) dX12_bound_12 rfl (Nat.le_of_ble_eq_true rfl) rfl ?_
    refine xs_iconst (n := 14) (v := (0 : Int32)) dX12_bound_13 rfl rfl ?_
    refine xs_istore_n (n := 15) (lv' := [some (.ref 150), some (.long (1 : Int64)), none, some (.int (0 : Int32))]) dX12_bound_14 rfl (Nat.le_of_ble_eq_true rfl) rfl ?_
    refine xs_reg ?_
    refine xs_fg (lv' := [some (.ref 150), some (.long (1 : Int64)), none, some (.int (0 : Int32))]) (And.intro rfl (And.intro rfl (And.intro rfl trivial))) ?_
    refine el_X12_bound_15 m u0 _ (fun _ => rfl) (fun q17 => ?_) m (1 : Int64) (0 : Int32)
    refine xs_inr ?_
    refine xs_lload_n (n := 113) dX12_bound_112 rfl rfl ?_
    refine xs_aload_n (n := 114) dX12_bound_113 rfl rfl ?_
    refine xs_aload_n (n := 115) dX12_bound_114 rfl rfl ?_
    refine ys_getr (n := 118) dX12_bound_115 rfl fl_X12_49 sh_150 rfl ?_
    refine xs_iconst (n := 119) (v := (0 : Int32)) dX12_bound_118 rfl rfl ?_
    refine ys_iaload (n := 120) dX12_bound_119 rfl sh_162 ?_
    refine xs_aload_n (n := 121) dX12_bound_120 rfl rfl ?_
    refine ys_getr (n := 124) dX12_bound_121 rfl fl_X12_49 sh_150 rfl ?_
    refine xs_iconst (n := 125) (v := (1 : Int32)) dX12_bound_124 rfl rfl ?_
    refine ys_iaload (n := 126) dX12_bound_125 rfl sh_162 ?_
    refine xs_aload_n (n := 127) dX12_bound_126 rfl rfl ?_
    refine ys_getr (n := 130) dX12_bound_127 rfl fl_X12_49 sh_150 rfl ?_
    refine xs_iconst (n := 131) (v := (2 : Int32)) dX12_bound_130 rfl rfl ?_
    refine ys_iaload (n := 132) dX12_bound_131 rfl sh_162 ?_
    refine ys_callvl (n := 135) (N := mt_X12_floorOf) dX12_bound_132 rfl ok_X12_floorOf tw_1202 im_X12_floorOf se_X12_floorOf ⟨Nat.le_of_ble_eq_true rfl, Nat.le_of_ble_eq_true rfl⟩ [.int (u0.1 162 (Int32.toNatClampNeg (0 : Int32))), .int (u0.1 162 (Int32.toNatClampNeg (1 : Int32))), .int (u0.1 162 (Int32.toNatClampNeg (2 : Int32)))] [.long q17.1] rfl rfl (Nat.le_of_ble_eq_true rfl) rfl (Nat.le_of_ble_eq_true rfl) (en_X12_floorOf m (u0.1 162 (Int32.toNatClampNeg (0 : Int32))) (u0.1 162 (Int32.toNatClampNeg (1 : Int32))) (u0.1 162 (Int32.toNatClampNeg (2 : Int32))) u0) sh_150 (by decide) rfl (fun q18 => ?_)
    refine xs_lsub (n := 136) dX12_bound_135 rfl ?_
    refine xs_letl (fun v19 => ?_)
    refine xs_lstore_n (n := 137) (lv' := [some (.ref 150), some (.long v19), none, none]) dX12_bound_136 rfl (Nat.le_of_ble_eq_true rfl) rfl ?_
    refine xs_lload_n (n := 138) dX12_bound_137 rfl rfl ?_
    refine xs_lconst (n := 139) (v := (0 : Int64)) dX12_bound_138 rfl rfl ?_
    refine xs_join 148 (fun q20 => [none, none, none, none]) (fun q20 => [.long q20]) (fun q20 => q18.2) (fun q20 => ?_) (fun kj21 => ?_)
    · exact xs_lret dX12_bound_148 rfl rfl
    · refine xs_lif_ge (n := 143) (pc1 := 140) (tgt := 147) dX12_bound_139 rfl dX12_bound_140 rfl rfl (fun hc22 => ?_) (fun hc22 => ?_)
      · refine xs_lload_n (n := 148) dX12_bound_147 rfl rfl ?_
        exact xs_gf (xs_end (kj21 (v19))) trivial
      · refine xs_lconst (n := 144) (v := (0 : Int64)) dX12_bound_143 rfl rfl ?_
        refine xs_goto (n := 148) dX12_bound_144 rfl ?_
        exact xs_gf (xs_end (kj21 ((0 : Int64)))) trivial
