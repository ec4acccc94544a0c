def fn_X12_found (m : Nat) (x0 : Int32) (x1 : Int32) (u0 : xm_Y) : Option (Int32 × xm_Y) :=
  ((if x0 < 0 then (
  some ((-1000))) else (
  if (u0.1 150 19) ≤ x0 then (
  some ((-1000))) else (
  if x1 < 0 then (
  some ((-1000))) else (
  if (3) ≤ x1 then (
  some ((-1000))) else (
  xm_chk (xm_in (((3) * x0) + x1) 15) (
  some ((u0.1 161 (Int32.toNatClampNeg (((3) * x0) + x1))))))))) : Option (Int32)).bind fun q1 =>
  some (q1, u0))
theorem en_X12_found (m : Nat) (x0 : Int32) (x1 : Int32) (u0 : xm_Y) : xs_ (fun x : Int32 => some (.int x)) sg_0 mt_X12_found 0 [some (.ref 150), some (.int x0), some (.int x1)] [] u0 0 0 (fn_X12_found m x0 x1 u0) := by
  refine xs_top ?_
  rw [fn_X12_found]
  refine xs_iload_n (n := 1) dX12_found_0 rfl rfl ?_
  refine xs_join 37 (fun q1 => [none, none, none]) (fun q1 => [.int q1]) (fun q1 => u0) (fun q1 => ?_) (fun kj2 => ?_)
  · exact xs_iret dX12_found_37 rfl rfl
  · refine xs_if_lt (n := 4) (tgt := 34) dX12_found_1 rfl rfl (fun hc3 => ?_) (fun hc3 => ?_)
    · refine xs_sipush (n := 37) (v := (-1000)) dX12_found_34 rfl rfl ?_
      exact xs_gf (kj2 ((-1000))) trivial
    · refine xs_iload_n (n := 5) dX12_found_4 rfl rfl ?_
      refine xs_aload_n (n := 6) dX12_found_5 rfl rfl ?_
      refine ys_geti (n := 9) dX12_found_6 rfl fl_X12_138 (Or.inl rfl) sh_150 ?_
      refine xs_icmp_ge (n := 12) (tgt := 34) dX12_found_9 rfl rfl (fun hc4 => ?_) (fun hc4 => ?_)
      · refine xs_sipush (n := 37) (v := (-1000)) dX12_found_34 rfl rfl ?_
        exact xs_gf (kj2 ((-1000))) trivial
      · refine xs_iload_n (n := 13) dX12_found_12 rfl rfl ?_
        refine xs_if_lt (n := 16) (tgt := 34) dX12_found_13 rfl rfl (fun hc5 => ?_) (fun hc5 => ?_)
        · refine xs_sipush (n := 37) (v := (-1000)) dX12_found_34 rfl rfl ?_
          exact xs_gf (kj2 ((-1000))) trivial
        · refine xs_iload_n (n := 17) dX12_found_16 rfl rfl ?_
          refine xs_iconst (n := 18) (v := (3)) dX12_found_17 rfl rfl ?_
          refine xs_icmp_ge (n := 21) (tgt := 34) dX12_found_18 rfl rfl (fun hc6 => ?_) (fun hc6 => ?_)
          · refine xs_sipush (n := 37) (v := (-1000)) dX12_found_34 rfl rfl ?_
            exact xs_gf (kj2 ((-1000))) trivial
          · refine xs_aload_n (n := 22) dX12_found_21 rfl rfl ?_
            refine ys_getr (n := 25) dX12_found_22 rfl fl_X12_46 sh_150 rfl ?_
            refine xs_iconst (n := 26) (v := (3)) dX12_found_25 rfl rfl ?_
            refine xs_iload_n (n := 27) dX12_found_26 rfl rfl ?_
            refine xs_imul (n := 28) dX12_found_27 rfl ?_
            refine xs_iload_n (n := 29) dX12_found_28 rfl rfl ?_
            refine xs_iadd (n := 30) dX12_found_29 rfl ?_
            refine ys_iaload (n := 31) dX12_found_30 rfl sh_161 ?_
            refine xs_goto (n := 37) dX12_found_31 rfl ?_
            exact xs_gf (kj2 ((u0.1 161 (Int32.toNatClampNeg (((3) * x0) + x1))))) trivial
def fn_X12_by (m : Nat) (x0 : Int32) (u0 : xm_Y) : Option (Int32 × xm_Y) :=
  ((fn_X12_isBody m x0 u0).bind fun q1 =>
  ((if q1.1 = 0 then (
  some ((-1))) else (
  xm_chk (xm_in x0 5) (
  some ((q1.2.1 163 (Int32.toNatClampNeg x0))))) : Option (Int32)).bind fun q2 =>
  some (q2, q1.2)))
theorem en_X12_by (m : Nat) (x0 : Int32) (u0 : xm_Y) : xs_ (fun x : Int32 => some (.int x)) sg_0 mt_X12_by 0 [some (.ref 150), some (.int x0)] [] u0 0 0 (fn_X12_by m x0 u0) := by
  refine xs_top ?_
  rw [fn_X12_by]
  refine xs_aload_n (n := 1) dX12_by_0 rfl rfl ?_
  refine xs_iload_n (n := 2) dX12_by_1 rfl rfl ?_
  refine ys_callvi (n := 5) (N := mt_X12_isBody) dX12_by_2 rfl ok_X12_isBody tw_1036 im_X12_isBody se_X12_isBody ⟨Nat.le_of_ble_eq_true rfl, Nat.le_of_ble_eq_true rfl⟩ [.int x0] [] rfl rfl (Nat.le_of_ble_eq_true rfl) rfl (Nat.le_of_ble_eq_true rfl) (en_X12_isBody m x0 u0) sh_150 (by decide) rfl (fun q1 => ?_)
  refine xs_join 18 (fun q2 => [none, none]) (fun q2 => [.int q2]) (fun q2 => q1.2) (fun q2 => ?_) (fun kj3 => ?_)
  · exact xs_iret dX12_by_18 rfl rfl
  · refine xs_if_eq (n := 8) (tgt := 17) dX12_by_5 rfl rfl (fun hc4 => ?_) (fun hc4 => ?_)
    · refine xs_iconst (n := 18) (v := (-1)) dX12_by_17 rfl rfl ?_
      exact xs_gf (kj3 ((-1))) trivial
    · refine xs_aload_n (n := 9) dX12_by_8 rfl rfl ?_
      refine ys_getr (n := 12) dX12_by_9 rfl fl_X12_52 sh_150 rfl ?_
      refine xs_iload_n (n := 13) dX12_by_12 rfl rfl ?_
      refine ys_iaload (n := 14) dX12_by_13 rfl sh_163 ?_
      refine xs_goto (n := 18) dX12_by_14 rfl ?_
      exact xs_gf (kj3 ((q1.2.1 163 (Int32.toNatClampNeg x0)))) trivial
def lp_X12_bound_15 (m : Nat) (u0 : xm_Y) : Nat → Int64 → Int32 → Option ((Int64 × xm_Y) ⊕ (Int64 × Int32))
  | 0, _, _ => none
  | n + 1, l1, l3 =>
  if (u0.1 150 0) ≤ l3 then (
  some (.inr (l1, l3))) else (
  xm_chk (xm_in ((2) * l3) 6) (
  if (u0.1 156 (Int32.toNatClampNeg ((2) * l3))) = 0 then (
  xm_chk (xm_in l3 3) (
  xm_chk (xm_in ((2) * l3) 6) (
  if (u0.2 154 (Int32.toNatClampNeg l3)) < (u0.2 155 (Int32.toNatClampNeg ((2) * l3))) then (
  some (.inl ((-3), u0))) else (
  xm_chk (xm_in (((2) * l3) + (1)) 6) (
  if (u0.1 156 (Int32.toNatClampNeg (((2) * l3) + (1)))) = 0 then (
  xm_chk (xm_in l3 3) (
  xm_chk (xm_in (((2) * l3) + (1)) 6) (
  if (u0.2 154 (Int32.toNatClampNeg l3)) ≤ (u0.2 155 (Int32.toNatClampNeg (((2) * l3) + (1)))) then (
  xm_chk (xm_in l3 3) (
  xm_chk (xm_in l3 3) (
  xm_let (α := Int64) ((l1 + ((Int32.toInt64 (u0.1 162 (Int32.toNatClampNeg l3))) * (u0.2 154 (Int32.toNatClampNeg l3))))) fun v7 =>
  xm_let (α := Int32) (l3 + (1)) fun v8 =>
  lp_X12_bound_15 m u0 n v7 v8))) else (
  some (.inl ((-3), u0)))))) else (
  xm_chk (xm_in l3 3) (
  xm_chk (xm_in l3 3) (
  xm_let (α := Int64) ((l1 + ((Int32.toInt64 (u0.1 162 (Int32.toNatClampNeg l3))) * (u0.2 154 (Int32.toNatClampNeg l3))))) fun v9 =>
  xm_let (α := Int32) (l3 + (1)) fun v10 =>
  lp_X12_bound_15 m u0 n v9 v10)))))))) else (
  xm_chk (xm_in (((2) * l3) + (1)) 6) (
  if (u0.1 156 (Int32.toNatClampNeg (((2) * l3) + (1)))) = 0 then (
  xm_chk (xm_in l3 3) (
  xm_chk (xm_in (((2) * l3) + (1)) 6) (
  if (u0.2 154 (Int32.toNatClampNeg l3)) ≤ (u0.2 155 (Int32.toNatClampNeg (((2) * l3) + (1)))) then (
  xm_chk (xm_in l3 3) (
  xm_chk (xm_in l3 3) (
  xm_let (α := Int64) ((l1 + ((Int32.toInt64 (u0.1 162 (Int32.toNatClampNeg l3))) * (u0.2 154 (Int32.toNatClampNeg l3))))) fun v13 =>
  xm_let (α := Int32) (l3 + (1)) fun v14 =>
  lp_X12_bound_15 m u0 n v13 v14))) else (
  some (.inl ((-3), u0)))))) else (
  xm_chk (xm_in l3 3) (
  xm_chk (xm_in l3 3) (
  xm_let (α := Int64) ((l1 + ((Int32.toInt64 (u0.1 162 (Int32.toNatClampNeg l3))) * (u0.2 154 (Int32.toNatClampNeg l3))))) fun v15 =>
  xm_let (α := Int32) (l3 + (1)) fun v16 =>
  lp_X12_bound_15 m u0 n v15 v16)))))))
def fn_X12_bound (m : Nat) (u0 : xm_Y) : Option (Int64 × xm_Y) :=
  if (u0.1 150 21) = 0 then (
  some ((-1), u0)) else (
  ((lp_X12_bound_15 m u0 m (1) (0)).bind (Sum.elim (fun r => some r) (fun q17 =>
  xm_chk (xm_in (0) 3) (
  xm_chk (xm_in (1) 3) (
  xm_chk (xm_in (2) 3) (
  ((fn_X12_floorOf m (u0.1 162 (Int32.toNatClampNeg (0))) (u0.1 162 (Int32.toNatClampNeg (1))) (u0.1 162 (Int32.toNatClampNeg (2))) u0).bind fun q18 =>
  xm_let (α := Int64) ((q17.1 - q18.1)) fun v19 =>
  ((if (0) ≤ v19 then (
  some (v19)) else (
  some ((0))) : Option (Int64)).bind fun q20 =>
  some (q20, q18.2))))))))))
theorem el_X12_bound_15 (m : Nat) (u0 : xm_Y) (K : (Int64 × xm_Y) ⊕ (Int64 × Int32) → Option (Int64 × xm_Y)) (hK : ∀ r, K (.inl r) = some r) (kE : ∀ q : Int64 × Int32, xs_ (fun x : Int64 => some (.long x)) sg_0 mt_X12_bound 112 [some (.ref 150), some (.long q.1), none, none] [] u0 0 0 (K (.inr q))) : ∀ (n : Nat) (l1 : Int64) (l3 : Int32), xs_ (fun x : Int64 => some (.long x)) sg_0 mt_X12_bound 15 [some (.ref 150), some (.long l1), none, some (.int l3)] [] u0 0 0 ((lp_X12_bound_15 m u0 n l1 l3).bind K) := by
  intro n
  induction n with
  | zero =>
    intro l1 l3
    exact xs_none
  | succ n ih =>
    intro l1 l3
    rw [lp_X12_bound_15]
    refine xs_iload_n (n := 16) dX12_bound_15 rfl rfl ?_
    refine xs_aload_n (n := 17) dX12_bound_16 rfl rfl ?_
    refine ys_geti (n := 20) dX12_bound_17 rfl fl_X12_7 (Or.inl rfl) sh_150 ?_
    refine xs_icmp_ge (n := 23) (tgt := 112) dX12_bound_20 rfl rfl (fun hc2 => ?_) (fun hc2 => ?_)
    · exact xs_gf (kE (l1, l3)) (And.intro rfl (And.intro rfl trivial))
    · refine xs_aload_n (n := 24) dX12_bound_23 rfl rfl ?_
      refine ys_getr (n := 27) dX12_bound_24 rfl fl_X12_30 sh_150 rfl ?_
      refine xs_iconst (n := 28) (v := (2)) dX12_bound_27 rfl rfl ?_
      refine xs_iload_n (n := 29) dX12_bound_28 rfl rfl ?_
      refine xs_imul (n := 30) dX12_bound_29 rfl ?_
      refine ys_baload (n := 31) dX12_bound_30 rfl sh_156 ?_
      refine xs_if_ne (n := 34) (tgt := 52) dX12_bound_31 rfl rfl (fun hc3 => ?_) (fun hc3 => ?_)
      · refine xs_aload_n (n := 35) dX12_bound_34 rfl rfl ?_
        refine ys_getr (n := 38) dX12_bound_35 rfl fl_X12_23 sh_150 rfl ?_
        refine xs_iload_n (n := 39) dX12_bound_38 rfl rfl ?_
        refine ys_laload (n := 40) dX12_bound_39 rfl sh_154 ?_
        refine xs_aload_n (n := 41) dX12_bound_40 rfl rfl ?_
        refine ys_getr (n := 44) dX12_bound_41 rfl fl_X12_27 sh_150 rfl ?_
        refine xs_iconst (n := 45) (v := (2)) dX12_bound_44 rfl rfl ?_
        refine xs_iload_n (n := 46) dX12_bound_45 rfl rfl ?_
        refine xs_imul (n := 47) dX12_bound_46 rfl ?_
        refine ys_laload (n := 48) dX12_bound_47 rfl sh_155 ?_
        refine xs_lif_lt (n := 52) (pc1 := 49) (tgt := 85) dX12_bound_48 rfl dX12_bound_49 rfl rfl (fun hc4 => ?_) (fun hc4 => ?_)
        · refine xs_ldc2 (n := 88) (v := (-3)) dX12_bound_85 rfl tw_1252 ?_
          exact xs_lret dX12_bound_88 rfl (hK _)
        · refine xs_aload_n (n := 53) dX12_bound_52 rfl rfl ?_
          refine ys_getr (n := 56) dX12_bound_53 rfl fl_X12_30 sh_150 rfl ?_
          refine xs_iconst (n := 57) (v := (2)) dX12_bound_56 rfl rfl ?_
          refine xs_iload_n (n := 58) dX12_bound_57 rfl rfl ?_
          refine xs_imul (n := 59) dX12_bound_58 rfl ?_
          refine xs_iconst (n := 60) (v := (1)) dX12_bound_59 rfl rfl ?_
          refine xs_iadd (n := 61) dX12_bound_60 rfl ?_
          refine ys_baload (n := 62) dX12_bound_61 rfl sh_156 ?_
          refine xs_if_ne (n := 65) (tgt := 89) dX12_bound_62 rfl rfl (fun hc5 => ?_) (fun hc5 => ?_)
          · refine xs_aload_n (n := 66) dX12_bound_65 rfl rfl ?_
            refine ys_getr (n := 69) dX12_bound_66 rfl fl_X12_23 sh_150 rfl ?_
            refine xs_iload_n (n := 70) dX12_bound_69 rfl rfl ?_
            refine ys_laload (n := 71) dX12_bound_70 rfl sh_154 ?_
            refine xs_aload_n (n := 72) dX12_bound_71 rfl rfl ?_
            refine ys_getr (n := 75) dX12_bound_72 rfl fl_X12_27 sh_150 rfl ?_
            refine xs_iconst (n := 76) (v := (2)) dX12_bound_75 rfl rfl ?_
            refine xs_iload_n (n := 77) dX12_bound_76 rfl rfl ?_
            refine xs_imul (n := 78) dX12_bound_77 rfl ?_
            refine xs_iconst (n := 79) (v := (1)) dX12_bound_78 rfl rfl ?_
            refine xs_iadd (n := 80) dX12_bound_79 rfl ?_
            refine ys_laload (n := 81) dX12_bound_80 rfl sh_155 ?_
            refine xs_lif_le (n := 85) (pc1 := 82) (tgt := 89) dX12_bound_81 rfl dX12_bound_82 rfl rfl (fun hc6 => ?_) (fun hc6 => ?_)
            · refine xs_lload_n (n := 90) dX12_bound_89 rfl rfl ?_
              refine xs_aload_n (n := 91) dX12_bound_90 rfl rfl ?_
              refine ys_getr (n := 94) dX12_bound_91 rfl fl_X12_49 sh_150 rfl ?_
              refine xs_iload_n (n := 95) dX12_bound_94 rfl rfl ?_
              refine ys_iaload (n := 96) dX12_bound_95 rfl sh_162 ?_
              refine xs_i2l (n := 97) dX12_bound_96 rfl ?_
              refine xs_aload_n (n := 98) dX12_bound_97 rfl rfl ?_
              refine ys_getr (n := 101) dX12_bound_98 rfl fl_X12_23 sh_150 rfl ?_
              refine xs_iload_n (n := 102) dX12_bound_101 rfl rfl ?_
              refine ys_laload (n := 103) dX12_bound_102 rfl sh_154 ?_
              refine xs_lmul (n := 104) dX12_bound_103 rfl ?_
              refine xs_ladd (n := 105) dX12_bound_104 rfl ?_
              refine xs_letl (fun v7 => ?_)
              refine xs_lstore_n (n := 106) (lv' := [some (.ref 150), some (.long v7), none, some (.int l3)]) dX12_bound_105 rfl (Nat.le_of_ble_eq_true rfl) rfl ?_
              refine xs_iincl (n := 109) (dv := (1)) (fun v8 => [some (.ref 150), some (.long v7), none, some (.int v8)]) dX12_bound_106 rfl rfl rfl (Nat.le_of_ble_eq_true rfl) (fun _ => rfl) (fun v8 => ?_)
              refine xs_goto (n := 15) dX12_bound_109 rfl ?_
              exact xs_gf (ih v7 v8) (And.intro rfl (And.intro rfl (And.intro rfl trivial)))
            · refine xs_ldc2 (n := 88) (v := (-3)) dX12_bound_85 rfl tw_1252 ?_
              exact xs_lret dX12_bound_88 rfl (hK _)
          · refine xs_lload_n (n := 90) dX12_bound_89 rfl rfl ?_
            refine xs_aload_n (n := 91) dX12_bound_90 rfl rfl ?_
            refine ys_getr (n := 94) dX12_bound_91 rfl fl_X12_49 sh_150 rfl ?_
            refine xs_iload_n (n := 95) dX12_bound_94 rfl rfl ?_
            refine ys_iaload (n := 96) dX12_bound_95 rfl sh_162 ?_
            refine xs_i2l (n := 97) dX12_bound_96 rfl ?_
            refine xs_aload_n (n := 98) dX12_bound_97 rfl rfl ?_
            refine ys_getr (n := 101) dX12_bound_98 rfl fl_X12_23 sh_150 rfl ?_
            refine xs_iload_n (n := 102) dX12_bound_101 rfl rfl ?_
            refine ys_laload (n := 103) dX12_bound_102 rfl sh_154 ?_
            refine xs_lmul (n := 104) dX12_bound_103 rfl ?_
            refine xs_ladd (n := 105) dX12_bound_104 rfl ?_
            refine xs_letl (fun v9 => ?_)
            refine xs_lstore_n (n := 106) (lv' := [some (.ref 150), some (.long v9), none, some (.int l3)]) dX12_bound_105 rfl (Nat.le_of_ble_eq_true rfl) rfl ?_
            refine xs_iincl (n := 109) (dv := (1)) (fun v10 => [some (.ref 150), some (.long v9), none, some (.int v10)]) dX12_bound_106 rfl rfl rfl (Nat.le_of_ble_eq_true rfl) (fun _ => rfl) (fun v10 => ?_)
            refine xs_goto (n := 15) dX12_bound_109 rfl ?_
            exact xs_gf (ih v9 v10) (And.intro rfl (And.intro rfl (And.intro rfl trivial)))
      · refine xs_aload_n (n := 53) dX12_bound_52 rfl rfl ?_
        refine ys_getr (n := 56) dX12_bound_53 rfl fl_X12_30 sh_150 rfl ?_
        refine xs_iconst (n := 57) (v := (2)) dX12_bound_56 rfl rfl ?_
        refine xs_iload_n (n := 58) dX12_bound_57 rfl rfl ?_
        refine xs_imul (n := 59) dX12_bound_58 rfl ?_
        refine xs_iconst (n := 60) (v := (1)) dX12_bound_59 rfl rfl ?_
        refine xs_iadd (n := 61) dX12_bound_60 rfl ?_
        refine ys_baload (n := 62) dX12_bound_61 rfl sh_156 ?_
        refine xs_if_ne (n := 65) (tgt := 89) dX12_bound_62 rfl rfl (fun hc11 => ?_) (fun hc11 => ?_)
        · refine xs_aload_n (n := 66) dX12_bound_65 rfl rfl ?_
          refine ys_getr (n := 69) dX12_bound_66 rfl fl_X12_23 sh_150 rfl ?_
          refine xs_iload_n (n := 70) dX12_bound_69 rfl rfl ?_
          refine ys_laload (n := 71) dX12_bound_70 rfl sh_154 ?_
          refine xs_aload_n (n := 72) dX12_bound_71 rfl rfl ?_
          refine ys_getr (n := 75) dX12_bound_72 rfl fl_X12_27 sh_150 rfl ?_
          refine xs_iconst (n := 76) (v := (2)) dX12_bound_75 rfl rfl ?_
          refine xs_iload_n (n := 77) dX12_bound_76 rfl rfl ?_
          refine xs_imul (n := 78) dX12_bound_77 rfl ?_
          refine xs_iconst (n := 79) (v := (1)) dX12_bound_78 rfl rfl ?_
          refine xs_iadd (n := 80) dX12_bound_79 rfl ?_
          refine ys_laload (n := 81) dX12_bound_80 rfl sh_155 ?_
          refine xs_lif_le (n := 85) (pc1 := 82) (tgt := 89) dX12_bound_81 rfl dX12_bound_82 rfl rfl (fun hc12 => ?_) (fun hc12 => ?_)
          · refine xs_lload_n (n := 90) dX12_bound_89 rfl rfl ?_
            refine xs_aload_n (n := 91) dX12_bound_90 rfl rfl ?_
            refine ys_getr (n := 94) dX12_bound_91 rfl fl_X12_49 sh_150 rfl ?_
            refine xs_iload_n (n := 95) dX12_bound_94 rfl rfl ?_
            refine ys_iaload (n := 96) dX12_bound_95 rfl sh_162 ?_
            refine xs_i2l (n := 97) dX12_bound_96 rfl ?_
            refine xs_aload_n (n := 98) dX12_bound_97 rfl rfl ?_
            refine ys_getr (n := 101) dX12_bound_98 rfl fl_X12_23 sh_150 rfl ?_
            refine xs_iload_n (n := 102) dX12_bound_101 rfl rfl ?_
            refine ys_laload (n := 103) dX12_bound_102 rfl sh_154 ?_
            refine xs_lmul (n := 104) dX12_bound_103 rfl ?_
            refine xs_ladd (n := 105) dX12_bound_104 rfl ?_
            refine xs_letl (fun v13 => ?_)
            refine xs_lstore_n (n := 106) (lv' := [some (.ref 150), some (.long v13), none, some (.int l3)]) dX12_bound_105 rfl (Nat.le_of_ble_eq_true rfl) rfl ?_
            refine xs_iincl (n := 109) (dv := (1)) (fun v14 => [some (.ref 150), some (.long v13), none, some (.int v14)]) dX12_bound_106 rfl rfl rfl (Nat.le_of_ble_eq_true rfl) (fun _ => rfl) (fun v14 => ?_)
            refine xs_goto (n := 15) dX12_bound_109 rfl ?_
            exact xs_gf (ih v13 v14) (And.intro rfl (And.intro rfl (And.intro rfl trivial)))
          · refine xs_ldc2 (n := 88) (v := (-3)) dX12_bound_85 rfl tw_1252 ?_
            exact xs_lret dX12_bound_88 rfl (hK _)
        · refine xs_lload_n (n := 90) dX12_bound_89 rfl rfl ?_
          refine xs_aload_n (n := 91) dX12_bound_90 rfl rfl ?_
          refine ys_getr (n := 94) dX12_bound_91 rfl fl_X12_49 sh_150 rfl ?_
          refine xs_iload_n (n := 95) dX12_bound_94 rfl rfl ?_
          refine ys_iaload (n := 96) dX12_bound_95 rfl sh_162 ?_
          refine xs_i2l (n := 97) dX12_bound_96 rfl ?_
          refine xs_aload_n (n := 98) dX12_bound_97 rfl rfl ?_
          refine ys_getr (n := 101) dX12_bound_98 rfl fl_X12_23 sh_150 rfl ?_
          refine xs_iload_n (n := 102) dX12_bound_101 rfl rfl ?_
          refine ys_laload (n := 103) dX12_bound_102 rfl sh_154 ?_
          refine xs_lmul (n := 104) dX12_bound_103 rfl ?_
          refine xs_ladd (n := 105) dX12_bound_104 rfl ?_
          refine xs_letl (fun v15 => ?_)
          refine xs_lstore_n (n := 106) (lv' := [some (.ref 150), some (.long v15), none, some (.int l3)]) dX12_bound_105 rfl (Nat.le_of_ble_eq_true rfl) rfl ?_
          refine xs_iincl (n := 109) (dv := (1)) (fun v16 => [some (.ref 150), some (.long v15), none, some (.int v16)]) dX12_bound_106 rfl rfl rfl (Nat.le_of_ble_eq_true rfl) (fun _ => rfl) (fun v16 => ?_)
          refine xs_goto (n := 15) dX12_bound_109 rfl ?_
          exact xs_gf (ih v15 v16) (And.intro rfl (And.intro rfl (And.intro rfl trivial)))
theorem en_X12_bound (m : Nat) (u0 : xm_Y) : xs_ (fun x : Int64 => some (.long x)) sg_0 mt_X12_bound 0 [some (.ref 150), none, none, none] [] u0 0 0 (fn_X12_bound m u0) := by
  refine xs_top ?_
  rw [fn_X12_bound]
  refine xs_aload_n (n := 1) dX12_bound_0 rfl rfl ?_
  refine ys_geti (n := 4) dX12_bound_1 rfl fl_X12_131 (Or.inr rfl) sh_150 ?_
  refine xs_if_ne (n := 7) (tgt := 11) dX12_bound_4 rfl rfl (fun hc1 => ?_) (fun hc1 => ?_)
  · refine xs_ldc2 (n := 10) (v := (-1)) dX12_bound_7 rfl tw_1129 ?_
    exact xs_lret dX12_bound_10 rfl rfl
  · refine xs_lconst (n := 12) (v := (1)) dX12_bound_11 rfl rfl ?_
    refine xs_lstore_n (n := 13) (lv' := [some (.ref 150), some (.long (1)), none, none]) dX12_bound_12 rfl (Nat.le_of_ble_eq_true rfl) rfl ?_
    refine xs_iconst (n := 14) (v := (0)) dX12_bound_13 rfl rfl ?_
    refine xs_istore_n (n := 15) (lv' := [some (.ref 150), some (.long (1)), none, some (.int (0))]) dX12_bound_14 rfl (Nat.le_of_ble_eq_true rfl) rfl ?_
    refine xs_reg ?_
    refine xs_fg (lv' := [some (.ref 150), some (.long (1)), none, some (.int (0))]) (And.intro rfl (And.intro rfl (And.intro rfl trivial))) ?_
    refine el_X12_bound_15 m u0 _ (fun _ => rfl) (fun q17 => ?_) m (1) (0)
    refine xs_inr ?_
    refine xs_lload_n (n := 113) dX12_bound_112 rfl rfl ?_
    refine xs_aload_n (n := 114) dX12_bound_113 rfl rfl ?_
    refine xs_aload_n (n := 115) dX12_bound_114 rfl rfl ?_
    refine ys_getr (n := 118) dX12_bound_115 rfl fl_X12_49 sh_150 rfl ?_
    refine xs_iconst (n := 119) (v := (0)) dX12_bound_118 rfl rfl ?_
    refine ys_iaload (n := 120) dX12_bound_119 rfl sh_162 ?_
    refine xs_aload_n (n := 121) dX12_bound_120 rfl rfl ?_
    refine ys_getr (n := 124) dX12_bound_121 rfl fl_X12_49 sh_150 rfl ?_
    refine xs_iconst (n := 125) (v := (1)) dX12_bound_124 rfl rfl ?_
    refine ys_iaload (n := 126) dX12_bound_125 rfl sh_162 ?_
    refine xs_aload_n (n := 127) dX12_bound_126 rfl rfl ?_
    refine ys_getr (n := 130) dX12_bound_127 rfl fl_X12_49 sh_150 rfl ?_
    refine xs_iconst (n := 131) (v := (2)) dX12_bound_130 rfl rfl ?_
    refine ys_iaload (n := 132) dX12_bound_131 rfl sh_162 ?_
    refine ys_callvl (n := 135) (N := mt_X12_floorOf) dX12_bound_132 rfl ok_X12_floorOf tw_1207 im_X12_floorOf se_X12_floorOf ⟨Nat.le_of_ble_eq_true rfl, Nat.le_of_ble_eq_true rfl⟩ [.int (u0.1 162 (Int32.toNatClampNeg (0))), .int (u0.1 162 (Int32.toNatClampNeg (1))), .int (u0.1 162 (Int32.toNatClampNeg (2)))] [.long q17.1] rfl rfl (Nat.le_of_ble_eq_true rfl) rfl (Nat.le_of_ble_eq_true rfl) (en_X12_floorOf m (u0.1 162 (Int32.toNatClampNeg (0))) (u0.1 162 (Int32.toNatClampNeg (1))) (u0.1 162 (Int32.toNatClampNeg (2))) u0) sh_150 (by decide) rfl (fun q18 => ?_)
    refine xs_lsub (n := 136) dX12_bound_135 rfl ?_
    refine xs_letl (fun v19 => ?_)
    refine xs_lstore_n (n := 137) (lv' := [some (.ref 150), some (.long v19), none, none]) dX12_bound_136 rfl (Nat.le_of_ble_eq_true rfl) rfl ?_
    refine xs_lload_n (n := 138) dX12_bound_137 rfl rfl ?_
    refine xs_lconst (n := 139) (v := (0)) dX12_bound_138 rfl rfl ?_
    refine xs_join 148 (fun q20 => [none, none, none, none]) (fun q20 => [.long q20]) (fun q20 => q18.2) (fun q20 => ?_) (fun kj21 => ?_)
    · exact xs_lret dX12_bound_148 rfl rfl
    · refine xs_lif_ge (n := 143) (pc1 := 140) (tgt := 147) dX12_bound_139 rfl dX12_bound_140 rfl rfl (fun hc22 => ?_) (fun hc22 => ?_)
      · refine xs_lload_n (n := 148) dX12_bound_147 rfl rfl ?_
        exact xs_gf (kj21 (v19)) trivial
      · refine xs_lconst (n := 144) (v := (0)) dX12_bound_143 rfl rfl ?_
        refine xs_goto (n := 148) dX12_bound_144 rfl ?_
        exact xs_gf (kj21 ((0))) trivial
def fn_X12_begin (m : Nat) (x0 : Int32) (x1 : Int32) (x2 : Int32) (u0 : xm_Y) : Option (Int32 × xm_Y) :=
  if x0 < 0 then (
  some ((-1), u0)) else (
  if (u0.1 150 0) ≤ x0 then (
  some ((-1), u0)) else (
  if x1 < 0 then (
  some ((-1), u0)) else (
  if (1) < x1 then (
  some ((-1), u0)) else (
  if x2 = (-2000000) then (
  xm_chk (xm_in (((2) * x0) + x1) 6) (xm_let (w_J u0 157 (Int32.toNatClampNeg (((2) * x0) + x1)) (Int32.toInt64 x2)) fun u6 =>
  ((if x2 = (-2000000) then (
  some ((1))) else (
  some ((0))) : Option (Int32)).bind fun q7 =>
  xm_chk (xm_in (((2) * x0) + x1) 6) (xm_let (w_I u6 158 (Int32.toNatClampNeg (((2) * x0) + x1)) (vp_nar .boolean q7)) fun u10 =>
  some ((0), u10))))) else (
  if x2 < (-1000000) then (
  some ((-1), u0)) else (
  if x2 ≤ (1000000) then (
  xm_chk (xm_in (((2) * x0) + x1) 6) (xm_let (w_J u0 157 (Int32.toNatClampNeg (((2) * x0) + x1)) (Int32.toInt64 x2)) fun u13 =>
  ((if x2 = (-2000000) then (
  some ((1))) else (
  some ((0))) : Option (Int32)).bind fun q14 =>
  xm_chk (xm_in (((2) * x0) + x1) 6) (xm_let (w_I u13 158 (Int32.toNatClampNeg (((2) * x0) + x1)) (vp_nar .boolean q14)) fun u17 =>
  some ((0), u17))))) else (
  some ((-1), u0))))))))
theorem en_X12_begin (m : Nat) (x0 : Int32) (x1 : Int32) (x2 : Int32) (u0 : xm_Y) : xs_ (fun x : Int32 => some (.int x)) sg_0 mt_X12_begin 0 [some (.ref 150), some (.int x0), some (.int x1), some (.int x2)] [] u0 0 0 (fn_X12_begin m x0 x1 x2 u0) := by
  refine xs_top ?_
  rw [fn_X12_begin]
  refine xs_iload_n (n := 1) dX12_begin_0 rfl rfl ?_
  refine xs_if_lt (n := 4) (tgt := 40) dX12_begin_1 rfl rfl (fun hc1 => ?_) (fun hc1 => ?_)
  · refine xs_iconst (n := 41) (v := (-1)) dX12_begin_40 rfl rfl ?_
    exact xs_iret dX12_begin_41 rfl rfl
  · refine xs_iload_n (n := 5) dX12_begin_4 rfl rfl ?_
    refine xs_aload_n (n := 6) dX12_begin_5 rfl rfl ?_
    refine ys_geti (n := 9) dX12_begin_6 rfl fl_X12_7 (Or.inl rfl) sh_150 ?_
    refine xs_icmp_ge (n := 12) (tgt := 40) dX12_begin_9 rfl rfl (fun hc2 => ?_) (fun hc2 => ?_)
    · refine xs_iconst (n := 41) (v := (-1)) dX12_begin_40 rfl rfl ?_
      exact xs_iret dX12_begin_41 rfl rfl
    · refine xs_iload_n (n := 13) dX12_begin_12 rfl rfl ?_
      refine xs_if_lt (n := 16) (tgt := 40) dX12_begin_13 rfl rfl (fun hc3 => ?_) (fun hc3 => ?_)
      · refine xs_iconst (n := 41) (v := (-1)) dX12_begin_40 rfl rfl ?_
        exact xs_iret dX12_begin_41 rfl rfl
      · refine xs_iload_n (n := 17) dX12_begin_16 rfl rfl ?_
        refine xs_iconst (n := 18) (v := (1)) dX12_begin_17 rfl rfl ?_
        refine xs_icmp_gt (n := 21) (tgt := 40) dX12_begin_18 rfl rfl (fun hc4 => ?_) (fun hc4 => ?_)
        · refine xs_iconst (n := 41) (v := (-1)) dX12_begin_40 rfl rfl ?_
          exact xs_iret dX12_begin_41 rfl rfl
        · refine xs_iload_n (n := 22) dX12_begin_21 rfl rfl ?_
          refine xs_ldc_w (n := 25) (v := (-2000000)) dX12_begin_22 rfl tw_1257 ?_
          refine xs_icmp_eq (n := 28) (tgt := 42) dX12_begin_25 rfl rfl (fun hc5 => ?_) (fun hc5 => ?_)
          · refine xs_aload_n (n := 43) dX12_begin_42 rfl rfl ?_
            refine ys_getr (n := 46) dX12_begin_43 rfl fl_X12_34 sh_150 rfl ?_
            refine xs_iconst (n := 47) (v := (2)) dX12_begin_46 rfl rfl ?_
            refine xs_iload_n (n := 48) dX12_begin_47 rfl rfl ?_
            refine xs_imul (n := 49) dX12_begin_48 rfl ?_
            refine xs_iload_n (n := 50) dX12_begin_49 rfl rfl ?_
            refine xs_iadd (n := 51) dX12_begin_50 rfl ?_
            refine xs_iload_n (n := 52) dX12_begin_51 rfl rfl ?_
            refine xs_i2l (n := 53) dX12_begin_52 rfl ?_
            refine ys_lastore (n := 54) dX12_begin_53 rfl sh_157 (fun u6 => ?_)
            refine xs_aload_n (n := 55) dX12_begin_54 rfl rfl ?_
            refine ys_getr (n := 58) dX12_begin_55 rfl fl_X12_37 sh_150 rfl ?_
            refine xs_iconst (n := 59) (v := (2)) dX12_begin_58 rfl rfl ?_
            refine xs_iload_n (n := 60) dX12_begin_59 rfl rfl ?_
            refine xs_imul (n := 61) dX12_begin_60 rfl ?_
            refine xs_iload_n (n := 62) dX12_begin_61 rfl rfl ?_
            refine xs_iadd (n := 63) dX12_begin_62 rfl ?_
            refine xs_iload_n (n := 64) dX12_begin_63 rfl rfl ?_
            refine xs_ldc_w (n := 67) (v := (-2000000)) dX12_begin_64 rfl tw_1257 ?_
            refine xs_join 75 (fun q7 => [none, none, none, none]) (fun q7 => [.int q7, .int (((2) * x0) + x1), .ref 158]) (fun q7 => u6) (fun q7 => ?_) (fun kj8 => ?_)
            · refine ys_bastore (n := 76) dX12_begin_75 rfl sh_158 (fun u10 => ?_)
              refine xs_iconst (n := 77) (v := (0)) dX12_begin_76 rfl rfl ?_
              exact xs_iret dX12_begin_77 rfl rfl
            · refine xs_icmp_ne (n := 70) (tgt := 74) dX12_begin_67 rfl rfl (fun hc9 => ?_) (fun hc9 => ?_)
              · refine xs_iconst (n := 71) (v := (1)) dX12_begin_70 rfl rfl ?_
                refine xs_goto (n := 75) dX12_begin_71 rfl ?_
                exact xs_gf (kj8 ((1))) trivial
              · refine xs_iconst (n := 75) (v := (0)) dX12_begin_74 rfl rfl ?_
                exact xs_gf (kj8 ((0))) trivial
          · refine xs_iload_n (n := 29) dX12_begin_28 rfl rfl ?_
            refine xs_ldc (n := 31) (v := (-1000000)) dX12_begin_29 rfl tw_1060 ?_
            refine xs_icmp_lt (n := 34) (tgt := 40) dX12_begin_31 rfl rfl (fun hc11 => ?_) (fun hc11 => ?_)
            · refine xs_iconst (n := 41) (v := (-1)) dX12_begin_40 rfl rfl ?_
              exact xs_iret dX12_begin_41 rfl rfl
            · refine xs_iload_n (n := 35) dX12_begin_34 rfl rfl ?_
              refine xs_ldc (n := 37) (v := (1000000)) dX12_begin_35 rfl tw_1061 ?_
              refine xs_icmp_le (n := 40) (tgt := 42) dX12_begin_37 rfl rfl (fun hc12 => ?_) (fun hc12 => ?_)
              · refine xs_aload_n (n := 43) dX12_begin_42 rfl rfl ?_
                refine ys_getr (n := 46) dX12_begin_43 rfl fl_X12_34 sh_150 rfl ?_
                refine xs_iconst (n := 47) (v := (2)) dX12_begin_46 rfl rfl ?_
                refine xs_iload_n (n := 48) dX12_begin_47 rfl rfl ?_
                refine xs_imul (n := 49) dX12_begin_48 rfl ?_
                refine xs_iload_n (n := 50) dX12_begin_49 rfl rfl ?_
                refine xs_iadd (n := 51) dX12_begin_50 rfl ?_
                refine xs_iload_n (n := 52) dX12_begin_51 rfl rfl ?_
                refine xs_i2l (n := 53) dX12_begin_52 rfl ?_
                refine ys_lastore (n := 54) dX12_begin_53 rfl sh_157 (fun u13 => ?_)
                refine xs_aload_n (n := 55) dX12_begin_54 rfl rfl ?_
                refine ys_getr (n := 58) dX12_begin_55 rfl fl_X12_37 sh_150 rfl ?_
                refine xs_iconst (n := 59) (v := (2)) dX12_begin_58 rfl rfl ?_
                refine xs_iload_n (n := 60) dX12_begin_59 rfl rfl ?_
                refine xs_imul (n := 61) dX12_begin_60 rfl ?_
                refine xs_iload_n (n := 62) dX12_begin_61 rfl rfl ?_
                refine xs_iadd (n := 63) dX12_begin_62 rfl ?_
                refine xs_iload_n (n := 64) dX12_begin_63 rfl rfl ?_
                refine xs_ldc_w (n := 67) (v := (-2000000)) dX12_begin_64 rfl tw_1257 ?_
                refine xs_join 75 (fun q14 => [none, none, none, none]) (fun q14 => [.int q14, .int (((2) * x0) + x1), .ref 158]) (fun q14 => u13) (fun q14 => ?_) (fun kj15 => ?_)
                · refine ys_bastore (n := 76) dX12_begin_75 rfl sh_158 (fun u17 => ?_)
                  refine xs_iconst (n := 77) (v := (0)) dX12_begin_76 rfl rfl ?_
                  exact xs_iret dX12_begin_77 rfl rfl
                · refine xs_icmp_ne (n := 70) (tgt := 74) dX12_begin_67 rfl rfl (fun hc16 => ?_) (fun hc16 => ?_)
                  · refine xs_iconst (n := 71) (v := (1)) dX12_begin_70 rfl rfl ?_
                    refine xs_goto (n := 75) dX12_begin_71 rfl ?_
                    exact xs_gf (kj15 ((1))) trivial
                  · refine xs_iconst (n := 75) (v := (0)) dX12_begin_74 rfl rfl ?_
                    exact xs_gf (kj15 ((0))) trivial
              · refine xs_iconst (n := 41) (v := (-1)) dX12_begin_40 rfl rfl ?_
                exact xs_iret dX12_begin_41 rfl rfl
def lp_X12_reach_18 (m : Nat) (a1 : Nat) (n1 : Nat) (c2 : Int32) (c3 : Int32) : Nat → Int32 → xm_Y → Option (Int32 × xm_Y)
  | 0, _, _ => none
  | n + 1, l4, u0 =>
  if (u0.1 150 0) ≤ l4 then (
  some (l4, u0)) else (
  xm_chk (xm_in (c2 + l4) n1) (
  xm_let (α := Int32) ((u0.1 a1 (Int32.toNatClampNeg (c2 + l4)))) fun v4 =>
  ((if v4 = 0 then (
  some (u0)) else (
  ((if v4 ≤ 0 then (
  some (((1) - c3))) else (
  some (c3)) : Option (Int32)).bind fun q8 =>
  xm_let (α := Int32) ((((2) * l4) + q8)) fun v11 =>
  ((if (u0.1 150 48) = 0 then (
  xm_chk (xm_in v11 6) (
  if (u0.1 170 (Int32.toNatClampNeg v11)) = 0 then (
  some ((0))) else (
  some ((1))))) else (
  some ((1))) : Option (Int32)).bind fun q12 =>
  xm_chk (q12 = 0 ∨ q12 = 1) (
  xm_let (w_I u0 150 48 q12) fun u16 =>
  xm_chk (xm_in v11 6) (
  ((if (u16.1 170 (Int32.toNatClampNeg v11)) = 0 then (
  xm_chk (xm_in v11 6) (
  some (((Int32.toInt64 v4) * (u16.2 169 (Int32.toNatClampNeg v11)))))) else (
  some ((0))) : Option (Int64)).bind fun q17 =>
  xm_let (w_J u16 150 49 ((u16.2 150 49) + q17)) fun u20 =>
  some (u20))))))) : Option (xm_Y)).bind fun q5 =>
  xm_let (α := Int32) (l4 + (1)) fun v21 =>
  lp_X12_reach_18 m a1 n1 c2 c3 n v21 q5)))
def fn_X12_reach (m : Nat) (w : Nat) (wn : Nat) (x0 : Int32) (x1 : Int32) (u0 : xm_Y) : Option (Unit × xm_Y) :=
  xm_let (w_I u0 150 48 (0)) fun u1 =>
  xm_chk (xm_in (x0 + (3)) wn) (
  xm_let (w_J u1 150 49 (Int32.toInt64 (u1.1 w (Int32.toNatClampNeg (x0 + (3)))))) fun u2 =>
  ((lp_X12_reach_18 m w wn x0 x1 m (0) u2).bind fun q22 =>
  some ((), q22.2)))
theorem el_X12_reach_18 (m : Nat) (a1 : Nat) (n1 : Nat) (c2 : Int32) (c3 : Int32) (ha1 : xsh_ a1 13 n1) (K : Int32 × xm_Y → Option (Unit × xm_Y)) (kE : ∀ q : Int32 × xm_Y, xs_ (fun _ : Unit => none) sg_0 mt_X12_reach 125 [none, none, none, none, none, none, none] [] q.2 0 0 (K q)) : ∀ (n : Nat) (l4 : Int32) (u0 : xm_Y), xs_ (fun _ : Unit => none) sg_0 mt_X12_reach 18 [some (.ref 150), some (.ref a1), some (.int c2), some (.int c3), some (.int l4), none, none] [] u0 0 0 ((lp_X12_reach_18 m a1 n1 c2 c3 n l4 u0).bind K) := by
  intro n
  induction n with
  | zero =>
    intro l4 u0
    exact xs_none
  | succ n ih =>
    intro l4 u0
    rw [lp_X12_reach_18]
    refine xs_iload (n := 20) dX12_reach_18 rfl rfl ?_
    refine xs_aload_n (n := 21) dX12_reach_20 rfl rfl ?_
    refine ys_geti (n := 24) dX12_reach_21 rfl fl_X12_7 (Or.inl rfl) sh_150 ?_
    refine xs_icmp_ge (n := 27) (tgt := 125) dX12_reach_24 rfl rfl (fun hc3 => ?_) (fun hc3 => ?_)
    · exact xs_gf (kE (l4, u0)) trivial
    · refine xs_aload_n (n := 28) dX12_reach_27 rfl rfl ?_
      refine xs_iload_n (n := 29) dX12_reach_28 rfl rfl ?_
      refine xs_iload (n := 31) dX12_reach_29 rfl rfl ?_
      refine xs_iadd (n := 32) dX12_reach_31 rfl ?_
      refine ys_iaload (n := 33) dX12_reach_32 rfl ha1 ?_
      refine xs_leti (fun v4 => ?_)
      refine xs_istore (n := 35) (lv' := [some (.ref 150), some (.ref a1), some (.int c2), some (.int c3), some (.int l4), some (.int v4), none]) dX12_reach_33 rfl (Nat.le_of_ble_eq_true rfl) rfl ?_
      refine xs_iload (n := 37) dX12_reach_35 rfl rfl ?_
      refine xs_join 119 (fun q5 => [some (.ref 150), some (.ref a1), some (.int c2), some (.int c3), some (.int l4), none, none]) (fun q5 => []) (fun q5 => q5) (fun q5 => ?_) (fun kj6 => ?_)
      · refine xs_iincl (n := 122) (dv := (1)) (fun v21 => [some (.ref 150), some (.ref a1), some (.int c2), some (.int c3), some (.int v21), none, none]) dX12_reach_119 rfl rfl rfl (Nat.le_of_ble_eq_true rfl) (fun _ => rfl) (fun v21 => ?_)
        refine xs_goto (n := 18) dX12_reach_122 rfl ?_
        exact xs_gf (ih v21 q5) (And.intro rfl (And.intro rfl (And.intro rfl (And.intro rfl (And.intro rfl trivial)))))
      · refine xs_if_eq (n := 40) (tgt := 119) dX12_reach_37 rfl rfl (fun hc7 => ?_) (fun hc7 => ?_)
        · exact xs_gf (kj6 (u0)) (And.intro rfl (And.intro rfl (And.intro rfl (And.intro rfl (And.intro rfl trivial)))))
        · refine xs_iconst (n := 41) (v := (2)) dX12_reach_40 rfl rfl ?_
          refine xs_iload (n := 43) dX12_reach_41 rfl rfl ?_
          refine xs_imul (n := 44) dX12_reach_43 rfl ?_
          refine xs_iload (n := 46) dX12_reach_44 rfl rfl ?_
          refine xs_join 56 (fun q8 => [some (.ref 150), some (.ref a1), some (.int c2), some (.int c3), some (.int l4), some (.int v4), none]) (fun q8 => [.int q8, .int ((2) * l4)]) (fun q8 => u0) (fun q8 => ?_) (fun kj9 => ?_)
          · refine xs_iadd (n := 57) dX12_reach_56 rfl ?_
            refine xs_leti (fun v11 => ?_)
            refine xs_istore (n := 59) (lv' := [some (.ref 150), some (.ref a1), some (.int c2), some (.int c3), some (.int l4), some (.int v4), some (.int v11)]) dX12_reach_57 rfl (Nat.le_of_ble_eq_true rfl) rfl ?_
            refine xs_aload_n (n := 60) dX12_reach_59 rfl rfl ?_
            refine xs_aload_n (n := 61) dX12_reach_60 rfl rfl ?_
            refine ys_geti (n := 64) dX12_reach_61 rfl fl_X12_322 (Or.inr rfl) sh_150 ?_
            refine xs_join 82 (fun q12 => [some (.ref 150), some (.ref a1), some (.int c2), some (.int c3), some (.int l4), some (.int v4), some (.int v11)]) (fun q12 => [.int q12, .ref 150]) (fun q12 => u0) (fun q12 => ?_) (fun kj13 => ?_)
            · refine ys_putz (n := 85) dX12_reach_82 rfl fl_X12_322 rfl sh_150 (fun u16 => ?_)
              refine xs_aload_n (n := 86) dX12_reach_85 rfl rfl ?_
              refine xs_dup (n := 87) dX12_reach_86 rfl rfl ?_
              refine ys_getl (n := 90) dX12_reach_87 rfl fl_X12_325 sh_150 ?_
              refine xs_aload_n (n := 91) dX12_reach_90 rfl rfl ?_
              refine ys_getr (n := 94) dX12_reach_91 rfl fl_X12_77 sh_150 rfl ?_
              refine xs_iload (n := 96) dX12_reach_94 rfl rfl ?_
              refine ys_baload (n := 97) dX12_reach_96 rfl sh_170 ?_
              refine xs_join 115 (fun q17 => [some (.ref 150), some (.ref a1), some (.int c2), some (.int c3), some (.int l4), none, none]) (fun q17 => [.long q17, .long (u16.2 150 49), .ref 150]) (fun q17 => u16) (fun q17 => ?_) (fun kj18 => ?_)
              · refine xs_ladd (n := 116) dX12_reach_115 rfl ?_
                refine ys_putl (n := 119) dX12_reach_116 rfl fl_X12_325 rfl sh_150 (fun u20 => ?_)
                exact xs_gf (kj6 (u20)) (And.intro rfl (And.intro rfl (And.intro rfl (And.intro rfl (And.intro rfl trivial)))))
              · refine xs_if_eq (n := 100) (tgt := 104) dX12_reach_97 rfl rfl (fun hc19 => ?_) (fun hc19 => ?_)
                · refine xs_iload (n := 106) dX12_reach_104 rfl rfl ?_
                  refine xs_i2l (n := 107) dX12_reach_106 rfl ?_
                  refine xs_aload_n (n := 108) dX12_reach_107 rfl rfl ?_
                  refine ys_getr (n := 111) dX12_reach_108 rfl fl_X12_74 sh_150 rfl ?_
                  refine xs_iload (n := 113) dX12_reach_111 rfl rfl ?_
                  refine ys_laload (n := 114) dX12_reach_113 rfl sh_169 ?_
                  refine xs_lmul (n := 115) dX12_reach_114 rfl ?_
                  exact xs_gf (kj18 (((Int32.toInt64 v4) * (u16.2 169 (Int32.toNatClampNeg v11))))) (And.intro rfl (And.intro rfl (And.intro rfl (And.intro rfl (And.intro rfl trivial)))))
                · refine xs_lconst (n := 101) (v := (0)) dX12_reach_100 rfl rfl ?_
                  refine xs_goto (n := 115) dX12_reach_101 rfl ?_
                  exact xs_gf (kj18 ((0))) (And.intro rfl (And.intro rfl (And.intro rfl (And.intro rfl (And.intro rfl trivial)))))
            · refine xs_if_ne (n := 67) (tgt := 77) dX12_reach_64 rfl rfl (fun hc14 => ?_) (fun hc14 => ?_)
              · refine xs_aload_n (n := 68) dX12_reach_67 rfl rfl ?_
                refine ys_getr (n := 71) dX12_reach_68 rfl fl_X12_77 sh_150 rfl ?_
                refine xs_iload (n := 73) dX12_reach_71 rfl rfl ?_
                refine ys_baload (n := 74) dX12_reach_73 rfl sh_170 ?_
                refine xs_if_eq (n := 77) (tgt := 81) dX12_reach_74 rfl rfl (fun hc15 => ?_) (fun hc15 => ?_)
                · refine xs_iconst (n := 82) (v := (0)) dX12_reach_81 rfl rfl ?_
                  exact xs_gf (kj13 ((0))) (And.intro rfl (And.intro rfl (And.intro rfl (And.intro rfl (And.intro rfl (And.intro rfl (And.intro rfl trivial)))))))
                · refine xs_iconst (n := 78) (v := (1)) dX12_reach_77 rfl rfl ?_
                  refine xs_goto (n := 82) dX12_reach_78 rfl ?_
                  exact xs_gf (kj13 ((1))) (And.intro rfl (And.intro rfl (And.intro rfl (And.intro rfl (And.intro rfl (And.intro rfl (And.intro rfl trivial)))))))
              · refine xs_iconst (n := 78) (v := (1)) dX12_reach_77 rfl rfl ?_
                refine xs_goto (n := 82) dX12_reach_78 rfl ?_
                exact xs_gf (kj13 ((1))) (And.intro rfl (And.intro rfl (And.intro rfl (And.intro rfl (And.intro rfl (And.intro rfl (And.intro rfl trivial)))))))
          · refine xs_if_le (n := 49) (tgt := 53) dX12_reach_46 rfl rfl (fun hc10 => ?_) (fun hc10 => ?_)
            · refine xs_iconst (n := 54) (v := (1)) dX12_reach_53 rfl rfl ?_
              refine xs_iload_n (n := 55) dX12_reach_54 rfl rfl ?_
              refine xs_isub (n := 56) dX12_reach_55 rfl ?_
              exact xs_gf (kj9 (((1) - c3))) (And.intro rfl (And.intro rfl (And.intro rfl (And.intro rfl (And.intro rfl (And.intro rfl trivial))))))
            · refine xs_iload_n (n := 50) dX12_reach_49 rfl rfl ?_
              refine xs_goto (n := 56) dX12_reach_50 rfl ?_
              exact xs_gf (kj9 (c3)) (And.intro rfl (And.intro rfl (And.intro rfl (And.intro rfl (And.intro rfl (And.intro rfl trivial))))))
theorem en_X12_reach (m : Nat) (w : Nat) (wn : Nat) (x0 : Int32) (x1 : Int32) (hw_ : xsh_ w 13 wn) (u0 : xm_Y) : xs_ (fun _ : Unit => none) sg_0 mt_X12_reach 0 [some (.ref 150), some (.ref w), some (.int x0), some (.int x1), none, none, none] [] u0 0 0 (fn_X12_reach m w wn x0 x1 u0) := by
  refine xs_top ?_
  rw [fn_X12_reach]
  refine xs_aload_n (n := 1) dX12_reach_0 rfl rfl ?_
  refine xs_iconst (n := 2) (v := (0)) dX12_reach_1 rfl rfl ?_
  refine ys_putzc (n := 5) dX12_reach_2 rfl fl_X12_322 rfl sh_150 (Or.inl rfl) (fun u1 => ?_)
  refine xs_aload_n (n := 6) dX12_reach_5 rfl rfl ?_
  refine xs_aload_n (n := 7) dX12_reach_6 rfl rfl ?_
  refine xs_iload_n (n := 8) dX12_reach_7 rfl rfl ?_
  refine xs_iconst (n := 9) (v := (3)) dX12_reach_8 rfl rfl ?_
  refine xs_iadd (n := 10) dX12_reach_9 rfl ?_
  refine ys_iaload (n := 11) dX12_reach_10 rfl hw_ ?_
  refine xs_i2l (n := 12) dX12_reach_11 rfl ?_
  refine ys_putl (n := 15) dX12_reach_12 rfl fl_X12_325 rfl sh_150 (fun u2 => ?_)
  refine xs_iconst (n := 16) (v := (0)) dX12_reach_15 rfl rfl ?_
  refine xs_istore (n := 18) (lv' := [some (.ref 150), some (.ref w), some (.int x0), some (.int x1), some (.int (0)), none, none]) dX12_reach_16 rfl (Nat.le_of_ble_eq_true rfl) rfl ?_
  refine xs_reg ?_
  refine xs_fg (lv' := [some (.ref 150), some (.ref w), some (.int x0), some (.int x1), some (.int (0)), none, none]) (And.intro rfl (And.intro rfl (And.intro rfl (And.intro rfl (And.intro rfl trivial))))) ?_
  refine el_X12_reach_18 m w wn x0 x1 hw_ _ (fun q22 => ?_) m (0) u2
  exact xs_vret dX12_reach_125 rfl rfl
def lp_X12_isPassed_4 (m : Nat) (c1 : Int32) : Nat → Int32 → Int32 → xm_Y → Option (Int32 × Int32 × xm_Y)
  | 0, _, _, _ => none
  | n + 1, l2, l3, u0 =>
  xm_chk (xm_in c1 5) (
  if (u0.1 151 (Int32.toNatClampNeg c1)) ≤ l3 then (
  some (l2, l3, u0)) else (
  ((fn_X12_reach m 152 120 ((((6) * c1) + l3) * (4)) (1) u0).bind fun q2 =>
  ((if l2 = 0 then (
  if (q2.2.1 150 48) = 0 then (
  if (0) ≤ (q2.2.2 150 49) then (
  some ((0))) else (
  some ((1)))) else (
  some ((0)))) else (
  some ((1))) : Option (Int32)).bind fun q3 =>
  xm_let (α := Int32) (l3 + (1)) fun v8 =>
  lp_X12_isPassed_4 m c1 n q3 v8 q2.2))))
def fn_X12_isPassed (m : Nat) (x0 : Int32) (u0 : xm_Y) : Option (Int32 × xm_Y) :=
  ((lp_X12_isPassed_4 m x0 m (0) (0) u0).bind fun q9 =>
  xm_chk (q9.1 = 0 ∨ q9.1 = 1) (some (q9.1, q9.2.2)))
theorem el_X12_isPassed_4 (m : Nat) (c1 : Int32) (K : Int32 × Int32 × xm_Y → Option (Int32 × xm_Y)) (kE : ∀ q : Int32 × Int32 × xm_Y, xs_ (fun x : Int32 => some (.int x)) sg_0 mt_X12_isPassed 63 [none, none, some (.int q.1), none] [] q.2.2 0 0 (K q)) : ∀ (n : Nat) (l2 : Int32) (l3 : Int32) (u0 : xm_Y), xs_ (fun x : Int32 => some (.int x)) sg_0 mt_X12_isPassed 4 [some (.ref 150), some (.int c1), some (.int l2), some (.int l3)] [] u0 0 0 ((lp_X12_isPassed_4 m c1 n l2 l3 u0).bind K) := by
  intro n
  induction n with
  | zero =>
    intro l2 l3 u0
    exact xs_none
  | succ n ih =>
    intro l2 l3 u0
    rw [lp_X12_isPassed_4]
    refine xs_iload_n (n := 5) dX12_isPassed_4 rfl rfl ?_
    refine xs_aload_n (n := 6) dX12_isPassed_5 rfl rfl ?_
    refine ys_getr (n := 9) dX12_isPassed_6 rfl fl_X12_13 sh_150 rfl ?_
    refine xs_iload_n (n := 10) dX12_isPassed_9 rfl rfl ?_
    refine ys_iaload (n := 11) dX12_isPassed_10 rfl sh_151 ?_
    refine xs_icmp_ge (n := 14) (tgt := 63) dX12_isPassed_11 rfl rfl (fun hc1 => ?_) (fun hc1 => ?_)
    · exact xs_gf (kE (l2, l3, u0)) (And.intro rfl trivial)
    · refine xs_aload_n (n := 15) dX12_isPassed_14 rfl rfl ?_
      refine xs_aload_n (n := 16) dX12_isPassed_15 rfl rfl ?_
      refine ys_getr (n := 19) dX12_isPassed_16 rfl fl_X12_17 sh_150 rfl ?_
      refine xs_bipush (n := 21) (v := (6)) dX12_isPassed_19 rfl rfl ?_
      refine xs_iload_n (n := 22) dX12_isPassed_21 rfl rfl ?_
      refine xs_imul (n := 23) dX12_isPassed_22 rfl ?_
      refine xs_iload_n (n := 24) dX12_isPassed_23 rfl rfl ?_
      refine xs_iadd (n := 25) dX12_isPassed_24 rfl ?_
      refine xs_iconst (n := 26) (v := (4)) dX12_isPassed_25 rfl rfl ?_
      refine xs_imul (n := 27) dX12_isPassed_26 rfl ?_
      refine xs_iconst (n := 28) (v := (1)) dX12_isPassed_27 rfl rfl ?_
      refine ys_callvv (n := 31) (N := mt_X12_reach) dX12_isPassed_28 rfl ok_X12_reach tw_1270 im_X12_reach se_X12_reach ⟨Nat.le_of_ble_eq_true rfl, Nat.le_of_ble_eq_true rfl⟩ [.ref 152, .int ((((6) * c1) + l3) * (4)), .int (1)] [] rfl rfl (Nat.le_of_ble_eq_true rfl) rfl (Nat.le_of_ble_eq_true rfl) (en_X12_reach m 152 120 ((((6) * c1) + l3) * (4)) (1) sh_152 u0) sh_150 (by decide) rfl (fun q2 => ?_)
      refine xs_iload_n (n := 32) dX12_isPassed_31 rfl rfl ?_
      refine xs_join 56 (fun q3 => [some (.ref 150), some (.int c1), none, some (.int l3)]) (fun q3 => [.int q3]) (fun q3 => q2.2) (fun q3 => ?_) (fun kj4 => ?_)
      · refine xs_istore_n (n := 57) (lv' := [some (.ref 150), some (.int c1), some (.int q3), some (.int l3)]) dX12_isPassed_56 rfl (Nat.le_of_ble_eq_true rfl) rfl ?_
        refine xs_iincl (n := 60) (dv := (1)) (fun v8 => [some (.ref 150), some (.int c1), some (.int q3), some (.int v8)]) dX12_isPassed_57 rfl rfl rfl (Nat.le_of_ble_eq_true rfl) (fun _ => rfl) (fun v8 => ?_)
        refine xs_goto (n := 4) dX12_isPassed_60 rfl ?_
        exact xs_gf (ih q3 v8 q2.2) (And.intro rfl (And.intro rfl (And.intro rfl (And.intro rfl trivial))))
      · refine xs_if_ne (n := 35) (tgt := 51) dX12_isPassed_32 rfl rfl (fun hc5 => ?_) (fun hc5 => ?_)
        · refine xs_aload_n (n := 36) dX12_isPassed_35 rfl rfl ?_
          refine ys_geti (n := 39) dX12_isPassed_36 rfl fl_X12_322 (Or.inr rfl) sh_150 ?_
          refine xs_if_ne (n := 42) (tgt := 55) dX12_isPassed_39 rfl rfl (fun hc6 => ?_) (fun hc6 => ?_)
          · refine xs_aload_n (n := 43) dX12_isPassed_42 rfl rfl ?_
            refine ys_getl (n := 46) dX12_isPassed_43 rfl fl_X12_325 sh_150 ?_
            refine xs_lconst (n := 47) (v := (0)) dX12_isPassed_46 rfl rfl ?_
            refine xs_lif_ge (n := 51) (pc1 := 48) (tgt := 55) dX12_isPassed_47 rfl dX12_isPassed_48 rfl rfl (fun hc7 => ?_) (fun hc7 => ?_)
            · refine xs_iconst (n := 56) (v := (0)) dX12_isPassed_55 rfl rfl ?_
              exact xs_gf (kj4 ((0))) (And.intro rfl (And.intro rfl (And.intro rfl trivial)))
            · refine xs_iconst (n := 52) (v := (1)) dX12_isPassed_51 rfl rfl ?_
              refine xs_goto (n := 56) dX12_isPassed_52 rfl ?_
              exact xs_gf (kj4 ((1))) (And.intro rfl (And.intro rfl (And.intro rfl trivial)))
          · refine xs_iconst (n := 56) (v := (0)) dX12_isPassed_55 rfl rfl ?_
            exact xs_gf (kj4 ((0))) (And.intro rfl (And.intro rfl (And.intro rfl trivial)))
        · refine xs_iconst (n := 52) (v := (1)) dX12_isPassed_51 rfl rfl ?_
          refine xs_goto (n := 56) dX12_isPassed_52 rfl ?_
          exact xs_gf (kj4 ((1))) (And.intro rfl (And.intro rfl (And.intro rfl trivial)))
theorem en_X12_isPassed (m : Nat) (x0 : Int32) (u0 : xm_Y) : xs_ (fun x : Int32 => some (.int x)) sg_0 mt_X12_isPassed 0 [some (.ref 150), some (.int x0), none, none] [] u0 0 0 (fn_X12_isPassed m x0 u0) := by
  refine xs_top ?_
  rw [fn_X12_isPassed]
  refine xs_iconst (n := 1) (v := (0)) dX12_isPassed_0 rfl rfl ?_
  refine xs_istore_n (n := 2) (lv' := [some (.ref 150), some (.int x0), some (.int (0)), none]) dX12_isPassed_1 rfl (Nat.le_of_ble_eq_true rfl) rfl ?_
  refine xs_iconst (n := 3) (v := (0)) dX12_isPassed_2 rfl rfl ?_
  refine xs_istore_n (n := 4) (lv' := [some (.ref 150), some (.int x0), some (.int (0)), some (.int (0))]) dX12_isPassed_3 rfl (Nat.le_of_ble_eq_true rfl) rfl ?_
  refine xs_reg ?_
  refine xs_fg (lv' := [some (.ref 150), some (.int x0), some (.int (0)), some (.int (0))]) (And.intro rfl (And.intro rfl (And.intro rfl (And.intro rfl trivial)))) ?_
  refine el_X12_isPassed_4 m x0 _ (fun q9 => ?_) m (0) (0) u0
  refine xs_iload_n (n := 64) dX12_isPassed_63 rfl rfl ?_
  exact xs_zret dX12_isPassed_64 rfl rfl
def fn_X12_isChanged (m : Nat) (x0 : Int32) (u0 : xm_Y) : Option (Int32 × xm_Y) :=
  xm_chk (xm_in x0 6) (
  xm_chk (xm_in x0 6) (
  ((if (u0.1 172 (Int32.toNatClampNeg x0)) = (u0.1 170 (Int32.toNatClampNeg x0)) then (
  xm_chk (xm_in x0 6) (
  if (u0.1 172 (Int32.toNatClampNeg x0)) = 0 then (
  xm_chk (xm_in x0 6) (
  xm_chk (xm_in x0 6) (
  if (u0.2 171 (Int32.toNatClampNeg x0)) = (u0.2 169 (Int32.toNatClampNeg x0)) then (
  some ((0))) else (
  some ((1)))))) else (
  some ((0))))) else (
  some ((1))) : Option (Int32)).bind fun q1 =>
  xm_chk (q1 = 0 ∨ q1 = 1) (some (q1, u0)))))
theorem en_X12_isChanged (m : Nat) (x0 : Int32) (u0 : xm_Y) : xs_ (fun x : Int32 => some (.int x)) sg_0 mt_X12_isChanged 0 [some (.ref 150), some (.int x0)] [] u0 0 0 (fn_X12_isChanged m x0 u0) := by
  refine xs_top ?_
  rw [fn_X12_isChanged]
  refine xs_aload_n (n := 1) dX12_isChanged_0 rfl rfl ?_
  refine ys_getr (n := 4) dX12_isChanged_1 rfl fl_X12_83 sh_150 rfl ?_
  refine xs_iload_n (n := 5) dX12_isChanged_4 rfl rfl ?_
  refine ys_baload (n := 6) dX12_isChanged_5 rfl sh_172 ?_
  refine xs_aload_n (n := 7) dX12_isChanged_6 rfl rfl ?_
  refine ys_getr (n := 10) dX12_isChanged_7 rfl fl_X12_77 sh_150 rfl ?_
  refine xs_iload_n (n := 11) dX12_isChanged_10 rfl rfl ?_
  refine ys_baload (n := 12) dX12_isChanged_11 rfl sh_170 ?_
  refine xs_join 45 (fun q1 => [none, none]) (fun q1 => [.int q1]) (fun q1 => u0) (fun q1 => ?_) (fun kj2 => ?_)
  · exact xs_zret dX12_isChanged_45 rfl rfl
  · refine xs_icmp_ne (n := 15) (tgt := 40) dX12_isChanged_12 rfl rfl (fun hc3 => ?_) (fun hc3 => ?_)
    · refine xs_aload_n (n := 16) dX12_isChanged_15 rfl rfl ?_
      refine ys_getr (n := 19) dX12_isChanged_16 rfl fl_X12_83 sh_150 rfl ?_
      refine xs_iload_n (n := 20) dX12_isChanged_19 rfl rfl ?_
      refine ys_baload (n := 21) dX12_isChanged_20 rfl sh_172 ?_
      refine xs_if_ne (n := 24) (tgt := 44) dX12_isChanged_21 rfl rfl (fun hc4 => ?_) (fun hc4 => ?_)
      · refine xs_aload_n (n := 25) dX12_isChanged_24 rfl rfl ?_
        refine ys_getr (n := 28) dX12_isChanged_25 rfl fl_X12_80 sh_150 rfl ?_
        refine xs_iload_n (n := 29) dX12_isChanged_28 rfl rfl ?_
        refine ys_laload (n := 30) dX12_isChanged_29 rfl sh_171 ?_
        refine xs_aload_n (n := 31) dX12_isChanged_30 rfl rfl ?_
        refine ys_getr (n := 34) dX12_isChanged_31 rfl fl_X12_74 sh_150 rfl ?_
        refine xs_iload_n (n := 35) dX12_isChanged_34 rfl rfl ?_
        refine ys_laload (n := 36) dX12_isChanged_35 rfl sh_169 ?_
        refine xs_lif_eq (n := 40) (pc1 := 37) (tgt := 44) dX12_isChanged_36 rfl dX12_isChanged_37 rfl rfl (fun hc5 => ?_) (fun hc5 => ?_)
        · refine xs_iconst (n := 45) (v := (0)) dX12_isChanged_44 rfl rfl ?_
          exact xs_gf (kj2 ((0))) trivial
        · refine xs_iconst (n := 41) (v := (1)) dX12_isChanged_40 rfl rfl ?_
          refine xs_goto (n := 45) dX12_isChanged_41 rfl ?_
          exact xs_gf (kj2 ((1))) trivial
      · refine xs_iconst (n := 45) (v := (0)) dX12_isChanged_44 rfl rfl ?_
        exact xs_gf (kj2 ((0))) trivial
    · refine xs_iconst (n := 41) (v := (1)) dX12_isChanged_40 rfl rfl ?_
      refine xs_goto (n := 45) dX12_isChanged_41 rfl ?_
      exact xs_gf (kj2 ((1))) trivial
def lp_X12_goRound_2 (m : Nat) : Nat → Int32 → xm_Y → Option (Int32 × xm_Y)
  | 0, _, _ => none
  | n + 1, l1, u0 =>
  if (6) ≤ l1 then (
  some (l1, u0)) else (
  xm_chk (xm_in l1 6) (
  xm_chk (xm_in l1 6) (xm_let (w_J u0 171 (Int32.toNatClampNeg l1) (u0.2 169 (Int32.toNatClampNeg l1))) fun u2 =>
  xm_chk (xm_in l1 6) (
  xm_chk (xm_in l1 6) (xm_let (w_I u2 172 (Int32.toNatClampNeg l1) (vp_nar .boolean (u2.1 170 (Int32.toNatClampNeg l1)))) fun u3 =>
  xm_let (α := Int32) (l1 + (1)) fun v4 =>
  lp_X12_goRound_2 m n v4 u3)))))
def lp_X12_goRound_61 (m : Nat) (c1 : Int32) : Nat → Int32 → xm_Y → Option (Int32 × xm_Y)
  | 0, _, _ => none
  | n + 1, l2, u0 =>
  if ((2) * (u0.1 150 0)) ≤ l2 then (
  some (l2, u0)) else (
  xm_chk (¬ (2) = 0) (
  xm_chk (¬ (2) = 0) (
  ((fn_X12_reach m 153 60 ((((3) * c1) + (l2 / (2))) * (4)) (l2 - l2 / (2) * (2)) u0).bind fun q12 =>
  xm_chk (xm_in l2 6) (
  ((if (q12.2.1 172 (Int32.toNatClampNeg l2)) = 0 then (
  if (q12.2.1 150 48) = 0 then (
  some ((0))) else (
  some ((1)))) else (
  some ((1))) : Option (Int32)).bind fun q13 =>
  xm_chk (xm_in l2 6) (xm_let (w_I q12.2 172 (Int32.toNatClampNeg l2) (vp_nar .boolean q13)) fun u17 =>
  xm_chk (¬ (2) = 0) (
  ((if (l2 - l2 / (2) * (2)) = 0 then (
  xm_chk (xm_in l2 6) (
  if (u17.2 171 (Int32.toNatClampNeg l2)) ≤ (u17.2 150 49) then (
  some ((0))) else (
  some ((1))))) else (
  xm_chk (xm_in l2 6) (
  if (u17.2 150 49) ≤ (u17.2 171 (Int32.toNatClampNeg l2)) then (
  some ((0))) else (
  some ((1))))) : Option (Int32)).bind fun q18 =>
  ((if (u17.1 150 48) = 0 then (
  if q18 = 0 then (
  xm_chk (xm_in l2 6) (
  some ((u17.2 171 (Int32.toNatClampNeg l2))))) else (
  some ((u17.2 150 49)))) else (
  xm_chk (xm_in l2 6) (
  some ((u17.2 171 (Int32.toNatClampNeg l2))))) : Option (Int64)).bind fun q23 =>
  xm_chk (xm_in l2 6) (xm_let (w_J u17 171 (Int32.toNatClampNeg l2) q23) fun u27 =>
  xm_let (α := Int32) (l2 + (1)) fun v28 =>
  lp_X12_goRound_61 m c1 n v28 u27)))))))))))
def lp_X12_goRound_40 (m : Nat) : Nat → Int32 → xm_Y → Option (Int32 × xm_Y)
  | 0, _, _ => none
  | n + 1, l1, u0 =>
  if (u0.1 150 1) ≤ l1 then (
  some (l1, u0)) else (
  ((fn_X12_isPassed m l1 u0).bind fun q7 =>
  ((if q7.1 = 0 then (
  ((lp_X12_goRound_61 m l1 m (0) q7.2).bind fun q29 =>
  some (q29.2))) else (
  some (q7.2)) : Option (xm_Y)).bind fun q8 =>
  xm_let (α := Int32) (l1 + (1)) fun v30 =>
  lp_X12_goRound_40 m n v30 q8)))
def lp_X12_goRound_212 (m : Nat) : Nat → Int32 → Int32 → xm_Y → Option (Int32 × Int32 × xm_Y)
  | 0, _, _, _ => none
  | n + 1, l1, l2, u0 =>
  if ((2) * (u0.1 150 0)) ≤ l2 then (
  some (l1, l2, u0)) else (
  ((if l1 = 0 then (
  ((fn_X12_isChanged m l2 u0).bind fun q36 =>
  if q36.1 = 0 then (
  some ((0), q36.2)) else (
  some ((1), q36.2)))) else (
  some ((1), u0)) : Option (Int32 × xm_Y)).bind fun q33 =>
  xm_let (α := Int32) (l2 + (1)) fun v38 =>
  lp_X12_goRound_212 m n q33.1 v38 q33.2))
def fn_X12_goRound (m : Nat) (u0 : xm_Y) : Option (Int32 × xm_Y) :=
  ((lp_X12_goRound_2 m m (0) u0).bind fun q5 =>
  ((lp_X12_goRound_40 m m (0) q5.2).bind fun q31 =>
  ((lp_X12_goRound_212 m m (0) (0) q31.2).bind fun q39 =>
  xm_chk (q39.1 = 0 ∨ q39.1 = 1) (some (q39.1, q39.2.2)))))
theorem el_X12_goRound_2 (m : Nat) (K : Int32 × xm_Y → Option (Int32 × xm_Y)) (kE : ∀ q : Int32 × xm_Y, xs_ (fun x : Int32 => some (.int x)) sg_0 mt_X12_goRound 38 [some (.ref 150), none, none, none] [] q.2 0 0 (K q)) : ∀ (n : Nat) (l1 : Int32) (u0 : xm_Y), xs_ (fun x : Int32 => some (.int x)) sg_0 mt_X12_goRound 2 [some (.ref 150), some (.int l1), none, none] [] u0 0 0 ((lp_X12_goRound_2 m n l1 u0).bind K) := by
  intro n
  induction n with
  | zero =>
    intro l1 u0
    exact xs_none
  | succ n ih =>
    intro l1 u0
    rw [lp_X12_goRound_2]
    refine xs_iload_n (n := 3) dX12_goRound_2 rfl rfl ?_
    refine xs_bipush (n := 5) (v := (6)) dX12_goRound_3 rfl rfl ?_
    refine xs_icmp_ge (n := 8) (tgt := 38) dX12_goRound_5 rfl rfl (fun hc1 => ?_) (fun hc1 => ?_)
    · exact xs_gf (kE (l1, u0)) (And.intro rfl trivial)
    · refine xs_aload_n (n := 9) dX12_goRound_8 rfl rfl ?_
      refine ys_getr (n := 12) dX12_goRound_9 rfl fl_X12_80 sh_150 rfl ?_
      refine xs_iload_n (n := 13) dX12_goRound_12 rfl rfl ?_
      refine xs_aload_n (n := 14) dX12_goRound_13 rfl rfl ?_
      refine ys_getr (n := 17) dX12_goRound_14 rfl fl_X12_74 sh_150 rfl ?_
      refine xs_iload_n (n := 18) dX12_goRound_17 rfl rfl ?_
      refine ys_laload (n := 19) dX12_goRound_18 rfl sh_169 ?_
      refine ys_lastore (n := 20) dX12_goRound_19 rfl sh_171 (fun u2 => ?_)
      refine xs_aload_n (n := 21) dX12_goRound_20 rfl rfl ?_
      refine ys_getr (n := 24) dX12_goRound_21 rfl fl_X12_83 sh_150 rfl ?_
      refine xs_iload_n (n := 25) dX12_goRound_24 rfl rfl ?_
      refine xs_aload_n (n := 26) dX12_goRound_25 rfl rfl ?_
      refine ys_getr (n := 29) dX12_goRound_26 rfl fl_X12_77 sh_150 rfl ?_
      refine xs_iload_n (n := 30) dX12_goRound_29 rfl rfl ?_
      refine ys_baload (n := 31) dX12_goRound_30 rfl sh_170 ?_
      refine ys_bastore (n := 32) dX12_goRound_31 rfl sh_172 (fun u3 => ?_)
      refine xs_iincl (n := 35) (dv := (1)) (fun v4 => [some (.ref 150), some (.int v4), none, none]) dX12_goRound_32 rfl rfl rfl (Nat.le_of_ble_eq_true rfl) (fun _ => rfl) (fun v4 => ?_)
      refine xs_goto (n := 2) dX12_goRound_35 rfl ?_
      exact xs_gf (ih v4 u3) (And.intro rfl (And.intro rfl trivial))
theorem el_X12_goRound_61 (m : Nat) (c1 : Int32) (K : Int32 × xm_Y → Option (Int32 × xm_Y)) (kE : ∀ q : Int32 × xm_Y, xs_ (fun x : Int32 => some (.int x)) sg_0 mt_X12_goRound 202 [some (.ref 150), some (.int c1), none, none] [] q.2 0 0 (K q)) : ∀ (n : Nat) (l2 : Int32) (u0 : xm_Y), xs_ (fun x : Int32 => some (.int x)) sg_0 mt_X12_goRound 61 [some (.ref 150), some (.int c1), some (.int l2), none] [] u0 0 0 ((lp_X12_goRound_61 m c1 n l2 u0).bind K) := by
  intro n
  induction n with
  | zero =>
    intro l2 u0
    exact xs_none
  | succ n ih =>
    intro l2 u0
    rw [lp_X12_goRound_61]
    refine xs_iload_n (n := 62) dX12_goRound_61 rfl rfl ?_
    refine xs_iconst (n := 63) (v := (2)) dX12_goRound_62 rfl rfl ?_
    refine xs_aload_n (n := 64) dX12_goRound_63 rfl rfl ?_
    refine ys_geti (n := 67) dX12_goRound_64 rfl fl_X12_7 (Or.inl rfl) sh_150 ?_
    refine xs_imul (n := 68) dX12_goRound_67 rfl ?_
    refine xs_icmp_ge (n := 71) (tgt := 202) dX12_goRound_68 rfl rfl (fun hc11 => ?_) (fun hc11 => ?_)
    · exact xs_gf (kE (l2, u0)) (And.intro rfl (And.intro rfl trivial))
    · refine xs_aload_n (n := 72) dX12_goRound_71 rfl rfl ?_
      refine xs_aload_n (n := 73) dX12_goRound_72 rfl rfl ?_
      refine ys_getr (n := 76) dX12_goRound_73 rfl fl_X12_20 sh_150 rfl ?_
      refine xs_iconst (n := 77) (v := (3)) dX12_goRound_76 rfl rfl ?_
      refine xs_iload_n (n := 78) dX12_goRound_77 rfl rfl ?_
      refine xs_imul (n := 79) dX12_goRound_78 rfl ?_
      refine xs_iload_n (n := 80) dX12_goRound_79 rfl rfl ?_
      refine xs_iconst (n := 81) (v := (2)) dX12_goRound_80 rfl rfl ?_
      refine xs_idiv (n := 82) dX12_goRound_81 rfl (fun _ => ?_)
      refine xs_iadd (n := 83) dX12_goRound_82 rfl ?_
      refine xs_iconst (n := 84) (v := (4)) dX12_goRound_83 rfl rfl ?_
      refine xs_imul (n := 85) dX12_goRound_84 rfl ?_
      refine xs_iload_n (n := 86) dX12_goRound_85 rfl rfl ?_
      refine xs_iconst (n := 87) (v := (2)) dX12_goRound_86 rfl rfl ?_
      refine xs_irem (n := 88) dX12_goRound_87 rfl (fun _ => ?_)
      refine ys_callvv (n := 91) (N := mt_X12_reach) dX12_goRound_88 rfl ok_X12_reach tw_1270 im_X12_reach se_X12_reach ⟨Nat.le_of_ble_eq_true rfl, Nat.le_of_ble_eq_true rfl⟩ [.ref 153, .int ((((3) * c1) + (l2 / (2))) * (4)), .int (l2 - l2 / (2) * (2))] [] rfl rfl (Nat.le_of_ble_eq_true rfl) rfl (Nat.le_of_ble_eq_true rfl) (en_X12_reach m 153 60 ((((3) * c1) + (l2 / (2))) * (4)) (l2 - l2 / (2) * (2)) sh_153 u0) sh_150 (by decide) rfl (fun q12 => ?_)
      refine xs_aload_n (n := 92) dX12_goRound_91 rfl rfl ?_
      refine ys_getr (n := 95) dX12_goRound_92 rfl fl_X12_83 sh_150 rfl ?_
      refine xs_iload_n (n := 96) dX12_goRound_95 rfl rfl ?_
      refine xs_aload_n (n := 97) dX12_goRound_96 rfl rfl ?_
      refine ys_getr (n := 100) dX12_goRound_97 rfl fl_X12_83 sh_150 rfl ?_
      refine xs_iload_n (n := 101) dX12_goRound_100 rfl rfl ?_
      refine ys_baload (n := 102) dX12_goRound_101 rfl sh_172 ?_
      refine xs_join 117 (fun q13 => [some (.ref 150), some (.int c1), some (.int l2), none]) (fun q13 => [.int q13, .int l2, .ref 172]) (fun q13 => q12.2) (fun q13 => ?_) (fun kj14 => ?_)
      · refine ys_bastore (n := 118) dX12_goRound_117 rfl sh_172 (fun u17 => ?_)
        refine xs_iload_n (n := 119) dX12_goRound_118 rfl rfl ?_
        refine xs_iconst (n := 120) (v := (2)) dX12_goRound_119 rfl rfl ?_
        refine xs_irem (n := 121) dX12_goRound_120 rfl (fun _ => ?_)
        refine xs_join 165 (fun q18 => [some (.ref 150), some (.int c1), some (.int l2), none]) (fun q18 => [.int q18]) (fun q18 => u17) (fun q18 => ?_) (fun kj19 => ?_)
        · refine xs_istore_n (n := 166) (lv' := [some (.ref 150), some (.int c1), some (.int l2), some (.int q18)]) dX12_goRound_165 rfl (Nat.le_of_ble_eq_true rfl) rfl ?_
          refine xs_aload_n (n := 167) dX12_goRound_166 rfl rfl ?_
          refine ys_getr (n := 170) dX12_goRound_167 rfl fl_X12_80 sh_150 rfl ?_
          refine xs_iload_n (n := 171) dX12_goRound_170 rfl rfl ?_
          refine xs_aload_n (n := 172) dX12_goRound_171 rfl rfl ?_
          refine ys_geti (n := 175) dX12_goRound_172 rfl fl_X12_322 (Or.inr rfl) sh_150 ?_
          refine xs_join 195 (fun q23 => [some (.ref 150), some (.int c1), some (.int l2), none]) (fun q23 => [.long q23, .int l2, .ref 171]) (fun q23 => u17) (fun q23 => ?_) (fun kj24 => ?_)
          · refine ys_lastore (n := 196) dX12_goRound_195 rfl sh_171 (fun u27 => ?_)
            refine xs_iincl (n := 199) (dv := (1)) (fun v28 => [some (.ref 150), some (.int c1), some (.int v28), none]) dX12_goRound_196 rfl rfl rfl (Nat.le_of_ble_eq_true rfl) (fun _ => rfl) (fun v28 => ?_)
            refine xs_goto (n := 61) dX12_goRound_199 rfl ?_
            exact xs_gf (ih v28 u27) (And.intro rfl (And.intro rfl (And.intro rfl trivial)))
          · refine xs_if_ne (n := 178) (tgt := 189) dX12_goRound_175 rfl rfl (fun hc25 => ?_) (fun hc25 => ?_)
            · refine xs_iload_n (n := 179) dX12_goRound_178 rfl rfl ?_
              refine xs_if_eq (n := 182) (tgt := 189) dX12_goRound_179 rfl rfl (fun hc26 => ?_) (fun hc26 => ?_)
              · refine xs_aload_n (n := 190) dX12_goRound_189 rfl rfl ?_
                refine ys_getr (n := 193) dX12_goRound_190 rfl fl_X12_80 sh_150 rfl ?_
                refine xs_iload_n (n := 194) dX12_goRound_193 rfl rfl ?_
                refine ys_laload (n := 195) dX12_goRound_194 rfl sh_171 ?_
                exact xs_gf (kj24 ((u17.2 171 (Int32.toNatClampNeg l2)))) (And.intro rfl (And.intro rfl (And.intro rfl trivial)))
              · refine xs_aload_n (n := 183) dX12_goRound_182 rfl rfl ?_
                refine ys_getl (n := 186) dX12_goRound_183 rfl fl_X12_325 sh_150 ?_
                refine xs_goto (n := 195) dX12_goRound_186 rfl ?_
                exact xs_gf (kj24 ((u17.2 150 49))) (And.intro rfl (And.intro rfl (And.intro rfl trivial)))
            · refine xs_aload_n (n := 190) dX12_goRound_189 rfl rfl ?_
              refine ys_getr (n := 193) dX12_goRound_190 rfl fl_X12_80 sh_150 rfl ?_
              refine xs_iload_n (n := 194) dX12_goRound_193 rfl rfl ?_
              refine ys_laload (n := 195) dX12_goRound_194 rfl sh_171 ?_
              exact xs_gf (kj24 ((u17.2 171 (Int32.toNatClampNeg l2)))) (And.intro rfl (And.intro rfl (And.intro rfl trivial)))
        · refine xs_if_ne (n := 124) (tgt := 146) dX12_goRound_121 rfl rfl (fun hc20 => ?_) (fun hc20 => ?_)
          · refine xs_aload_n (n := 125) dX12_goRound_124 rfl rfl ?_
            refine ys_getl (n := 128) dX12_goRound_125 rfl fl_X12_325 sh_150 ?_
            refine xs_aload_n (n := 129) dX12_goRound_128 rfl rfl ?_
            refine ys_getr (n := 132) dX12_goRound_129 rfl fl_X12_80 sh_150 rfl ?_
            refine xs_iload_n (n := 133) dX12_goRound_132 rfl rfl ?_
            refine ys_laload (n := 134) dX12_goRound_133 rfl sh_171 ?_
            refine xs_lif_ge (n := 138) (pc1 := 135) (tgt := 142) dX12_goRound_134 rfl dX12_goRound_135 rfl rfl (fun hc21 => ?_) (fun hc21 => ?_)
            · refine xs_iconst (n := 143) (v := (0)) dX12_goRound_142 rfl rfl ?_
              refine xs_goto (n := 165) dX12_goRound_143 rfl ?_
              exact xs_gf (kj19 ((0))) (And.intro rfl (And.intro rfl (And.intro rfl trivial)))
            · refine xs_iconst (n := 139) (v := (1)) dX12_goRound_138 rfl rfl ?_
              refine xs_goto (n := 165) dX12_goRound_139 rfl ?_
              exact xs_gf (kj19 ((1))) (And.intro rfl (And.intro rfl (And.intro rfl trivial)))
          · refine xs_aload_n (n := 147) dX12_goRound_146 rfl rfl ?_
            refine ys_getl (n := 150) dX12_goRound_147 rfl fl_X12_325 sh_150 ?_
            refine xs_aload_n (n := 151) dX12_goRound_150 rfl rfl ?_
            refine ys_getr (n := 154) dX12_goRound_151 rfl fl_X12_80 sh_150 rfl ?_
            refine xs_iload_n (n := 155) dX12_goRound_154 rfl rfl ?_
            refine ys_laload (n := 156) dX12_goRound_155 rfl sh_171 ?_
            refine xs_lif_le (n := 160) (pc1 := 157) (tgt := 164) dX12_goRound_156 rfl dX12_goRound_157 rfl rfl (fun hc22 => ?_) (fun hc22 => ?_)
            · refine xs_iconst (n := 165) (v := (0)) dX12_goRound_164 rfl rfl ?_
              exact xs_gf (kj19 ((0))) (And.intro rfl (And.intro rfl (And.intro rfl trivial)))
            · refine xs_iconst (n := 161) (v := (1)) dX12_goRound_160 rfl rfl ?_
              refine xs_goto (n := 165) dX12_goRound_161 rfl ?_
              exact xs_gf (kj19 ((1))) (And.intro rfl (And.intro rfl (And.intro rfl trivial)))
      · refine xs_if_ne (n := 105) (tgt := 112) dX12_goRound_102 rfl rfl (fun hc15 => ?_) (fun hc15 => ?_)
        · refine xs_aload_n (n := 106) dX12_goRound_105 rfl rfl ?_
          refine ys_geti (n := 109) dX12_goRound_106 rfl fl_X12_322 (Or.inr rfl) sh_150 ?_
          refine xs_if_eq (n := 112) (tgt := 116) dX12_goRound_109 rfl rfl (fun hc16 => ?_) (fun hc16 => ?_)
          · refine xs_iconst (n := 117) (v := (0)) dX12_goRound_116 rfl rfl ?_
            exact xs_gf (kj14 ((0))) (And.intro rfl (And.intro rfl (And.intro rfl trivial)))
          · refine xs_iconst (n := 113) (v := (1)) dX12_goRound_112 rfl rfl ?_
            refine xs_goto (n := 117) dX12_goRound_113 rfl ?_
            exact xs_gf (kj14 ((1))) (And.intro rfl (And.intro rfl (And.intro rfl trivial)))
        · refine xs_iconst (n := 113) (v := (1)) dX12_goRound_112 rfl rfl ?_
          refine xs_goto (n := 117) dX12_goRound_113 rfl ?_
          exact xs_gf (kj14 ((1))) (And.intro rfl (And.intro rfl (And.intro rfl trivial)))
theorem el_X12_goRound_40 (m : Nat) (K : Int32 × xm_Y → Option (Int32 × xm_Y)) (kE : ∀ q : Int32 × xm_Y, xs_ (fun x : Int32 => some (.int x)) sg_0 mt_X12_goRound 208 [some (.ref 150), none, none, none] [] q.2 0 0 (K q)) : ∀ (n : Nat) (l1 : Int32) (u0 : xm_Y), xs_ (fun x : Int32 => some (.int x)) sg_0 mt_X12_goRound 40 [some (.ref 150), some (.int l1), none, none] [] u0 0 0 ((lp_X12_goRound_40 m n l1 u0).bind K) := by
  intro n
  induction n with
  | zero =>
    intro l1 u0
    exact xs_none
  | succ n ih =>
    intro l1 u0
    rw [lp_X12_goRound_40]
    refine xs_iload_n (n := 41) dX12_goRound_40 rfl rfl ?_
    refine xs_aload_n (n := 42) dX12_goRound_41 rfl rfl ?_
    refine ys_geti (n := 45) dX12_goRound_42 rfl fl_X12_135 (Or.inl rfl) sh_150 ?_
    refine xs_icmp_ge (n := 48) (tgt := 208) dX12_goRound_45 rfl rfl (fun hc6 => ?_) (fun hc6 => ?_)
    · exact xs_gf (kE (l1, u0)) (And.intro rfl trivial)
    · refine xs_aload_n (n := 49) dX12_goRound_48 rfl rfl ?_
      refine xs_iload_n (n := 50) dX12_goRound_49 rfl rfl ?_
      refine ys_callvi (n := 53) (N := mt_X12_isPassed) dX12_goRound_50 rfl ok_X12_isPassed tw_1266 im_X12_isPassed se_X12_isPassed ⟨Nat.le_of_ble_eq_true rfl, Nat.le_of_ble_eq_true rfl⟩ [.int l1] [] rfl rfl (Nat.le_of_ble_eq_true rfl) rfl (Nat.le_of_ble_eq_true rfl) (en_X12_isPassed m l1 u0) sh_150 (by decide) rfl (fun q7 => ?_)
      refine xs_join 202 (fun q8 => [some (.ref 150), some (.int l1), none, none]) (fun q8 => []) (fun q8 => q8) (fun q8 => ?_) (fun kj9 => ?_)
      · refine xs_iincl (n := 205) (dv := (1)) (fun v30 => [some (.ref 150), some (.int v30), none, none]) dX12_goRound_202 rfl rfl rfl (Nat.le_of_ble_eq_true rfl) (fun _ => rfl) (fun v30 => ?_)
        refine xs_goto (n := 40) dX12_goRound_205 rfl ?_
        exact xs_gf (ih v30 q8) (And.intro rfl (And.intro rfl trivial))
      · refine xs_if_eq (n := 56) (tgt := 59) dX12_goRound_53 rfl rfl (fun hc10 => ?_) (fun hc10 => ?_)
        · refine xs_iconst (n := 60) (v := (0)) dX12_goRound_59 rfl rfl ?_
          refine xs_istore_n (n := 61) (lv' := [some (.ref 150), some (.int l1), some (.int (0)), none]) dX12_goRound_60 rfl (Nat.le_of_ble_eq_true rfl) rfl ?_
          refine xs_reg ?_
          refine xs_fg (lv' := [some (.ref 150), some (.int l1), some (.int (0)), none]) (And.intro rfl (And.intro rfl (And.intro rfl trivial))) ?_
          refine el_X12_goRound_61 m l1 _ (fun q29 => ?_) m (0) q7.2
          exact xs_gf (kj9 (q29.2)) (And.intro rfl (And.intro rfl trivial))
        · refine xs_goto (n := 202) dX12_goRound_56 rfl ?_
          exact xs_gf (kj9 (q7.2)) (And.intro rfl (And.intro rfl trivial))
theorem el_X12_goRound_212 (m : Nat) (K : Int32 × Int32 × xm_Y → Option (Int32 × xm_Y)) (kE : ∀ q : Int32 × Int32 × xm_Y, xs_ (fun x : Int32 => some (.int x)) sg_0 mt_X12_goRound 246 [none, some (.int q.1), none, none] [] q.2.2 0 0 (K q)) : ∀ (n : Nat) (l1 : Int32) (l2 : Int32) (u0 : xm_Y), xs_ (fun x : Int32 => some (.int x)) sg_0 mt_X12_goRound 212 [some (.ref 150), some (.int l1), some (.int l2), none] [] u0 0 0 ((lp_X12_goRound_212 m n l1 l2 u0).bind K) := by
  intro n
  induction n with
  | zero =>
    intro l1 l2 u0
    exact xs_none
  | succ n ih =>
    intro l1 l2 u0
    rw [lp_X12_goRound_212]
    refine xs_iload_n (n := 213) dX12_goRound_212 rfl rfl ?_
    refine xs_iconst (n := 214) (v := (2)) dX12_goRound_213 rfl rfl ?_
    refine xs_aload_n (n := 215) dX12_goRound_214 rfl rfl ?_
    refine ys_geti (n := 218) dX12_goRound_215 rfl fl_X12_7 (Or.inl rfl) sh_150 ?_
    refine xs_imul (n := 219) dX12_goRound_218 rfl ?_
    refine xs_icmp_ge (n := 222) (tgt := 246) dX12_goRound_219 rfl rfl (fun hc32 => ?_) (fun hc32 => ?_)
    · exact xs_gf (kE (l1, l2, u0)) (And.intro rfl trivial)
    · refine xs_iload_n (n := 223) dX12_goRound_222 rfl rfl ?_
      refine xs_join 239 (fun q33 => [some (.ref 150), none, some (.int l2), none]) (fun q33 => [.int q33.1]) (fun q33 => q33.2) (fun q33 => ?_) (fun kj34 => ?_)
      · refine xs_istore_n (n := 240) (lv' := [some (.ref 150), some (.int q33.1), some (.int l2), none]) dX12_goRound_239 rfl (Nat.le_of_ble_eq_true rfl) rfl ?_
        refine xs_iincl (n := 243) (dv := (1)) (fun v38 => [some (.ref 150), some (.int q33.1), some (.int v38), none]) dX12_goRound_240 rfl rfl rfl (Nat.le_of_ble_eq_true rfl) (fun _ => rfl) (fun v38 => ?_)
        refine xs_goto (n := 212) dX12_goRound_243 rfl ?_
        exact xs_gf (ih q33.1 v38 q33.2) (And.intro rfl (And.intro rfl (And.intro rfl trivial)))
      · refine xs_if_ne (n := 226) (tgt := 234) dX12_goRound_223 rfl rfl (fun hc35 => ?_) (fun hc35 => ?_)
        · refine xs_aload_n (n := 227) dX12_goRound_226 rfl rfl ?_
          refine xs_iload_n (n := 228) dX12_goRound_227 rfl rfl ?_
          refine ys_callvi (n := 231) (N := mt_X12_isChanged) dX12_goRound_228 rfl ok_X12_isChanged tw_1274 im_X12_isChanged se_X12_isChanged ⟨Nat.le_of_ble_eq_true rfl, Nat.le_of_ble_eq_true rfl⟩ [.int l2] [] rfl rfl (Nat.le_of_ble_eq_true rfl) rfl (Nat.le_of_ble_eq_true rfl) (en_X12_isChanged m l2 u0) sh_150 (by decide) rfl (fun q36 => ?_)
          refine xs_if_eq (n := 234) (tgt := 238) dX12_goRound_231 rfl rfl (fun hc37 => ?_) (fun hc37 => ?_)
          · refine xs_iconst (n := 239) (v := (0)) dX12_goRound_238 rfl rfl ?_
            exact xs_gf (kj34 ((0), q36.2)) (And.intro rfl (And.intro rfl trivial))
          · refine xs_iconst (n := 235) (v := (1)) dX12_goRound_234 rfl rfl ?_
            refine xs_goto (n := 239) dX12_goRound_235 rfl ?_
            exact xs_gf (kj34 ((1), q36.2)) (And.intro rfl (And.intro rfl trivial))
        · refine xs_iconst (n := 235) (v := (1)) dX12_goRound_234 rfl rfl ?_
          refine xs_goto (n := 239) dX12_goRound_235 rfl ?_
          exact xs_gf (kj34 ((1), u0)) (And.intro rfl (And.intro rfl trivial))
theorem en_X12_goRound (m : Nat) (u0 : xm_Y) : xs_ (fun x : Int32 => some (.int x)) sg_0 mt_X12_goRound 0 [some (.ref 150), none, none, none] [] u0 0 0 (fn_X12_goRound m u0) := by
  refine xs_top ?_
  rw [fn_X12_goRound]
  refine xs_iconst (n := 1) (v := (0)) dX12_goRound_0 rfl rfl ?_
  refine xs_istore_n (n := 2) (lv' := [some (.ref 150), some (.int (0)), none, none]) dX12_goRound_1 rfl (Nat.le_of_ble_eq_true rfl) rfl ?_
  refine xs_reg ?_
  refine xs_fg (lv' := [some (.ref 150), some (.int (0)), none, none]) (And.intro rfl (And.intro rfl trivial)) ?_
  refine el_X12_goRound_2 m _ (fun q5 => ?_) m (0) u0
  refine xs_iconst (n := 39) (v := (0)) dX12_goRound_38 rfl rfl ?_
  refine xs_istore_n (n := 40) (lv' := [some (.ref 150), some (.int (0)), none, none]) dX12_goRound_39 rfl (Nat.le_of_ble_eq_true rfl) rfl ?_
  refine xs_reg ?_
  refine xs_fg (lv' := [some (.ref 150), some (.int (0)), none, none]) (And.intro rfl (And.intro rfl trivial)) ?_
  refine el_X12_goRound_40 m _ (fun q31 => ?_) m (0) q5.2
  refine xs_iconst (n := 209) (v := (0)) dX12_goRound_208 rfl rfl ?_
  refine xs_istore_n (n := 210) (lv' := [some (.ref 150), some (.int (0)), none, none]) dX12_goRound_209 rfl (Nat.le_of_ble_eq_true rfl) rfl ?_
  refine xs_iconst (n := 211) (v := (0)) dX12_goRound_210 rfl rfl ?_
  refine xs_istore_n (n := 212) (lv' := [some (.ref 150), some (.int (0)), some (.int (0)), none]) dX12_goRound_211 rfl (Nat.le_of_ble_eq_true rfl) rfl ?_
  refine xs_reg ?_
  refine xs_fg (lv' := [some (.ref 150), some (.int (0)), some (.int (0)), none]) (And.intro rfl (And.intro rfl (And.intro rfl trivial))) ?_
  refine el_X12_goRound_212 m _ (fun q39 => ?_) m (0) (0) q31.2
  refine xs_iload_n (n := 247) dX12_goRound_246 rfl rfl ?_
  exact xs_zret dX12_goRound_247 rfl rfl
