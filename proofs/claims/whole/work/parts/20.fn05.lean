def lp_X9_isInside_2 (m : Nat) (u0 : xm_Y) : Nat → Int32 → Option ((Int32 × xm_Y) ⊕ (Int32))
  | 0, _ => none
  | n + 1, l1 =>
  if ((4 : Int32) * (u0.1 136 2)) ≤ l1 then (
  some (.inr (l1))) else (
  xm_chk (xm_in l1 48) (
  xm_chk (xm_in (0 : Int32) 4) (
  xm_chk (xm_in (l1 + (1 : Int32)) 48) (
  xm_chk (xm_in (1 : Int32) 4) (
  xm_chk (xm_in (l1 + (2 : Int32)) 48) (
  xm_chk (xm_in (2 : Int32) 4) (
  xm_chk (xm_in (l1 + (3 : Int32)) 48) (
  xm_chk (xm_in (3 : Int32) 4) (
  if (0 : Int64) ≤ (((((u0.2 137 (Int32.toNatClampNeg l1)) * (u0.2 138 (Int32.toNatClampNeg (0 : Int32)))) + ((u0.2 137 (Int32.toNatClampNeg (l1 + (1 : Int32)))) * (u0.2 138 (Int32.toNatClampNeg (1 : Int32))))) + ((u0.2 137 (Int32.toNatClampNeg (l1 + (2 : Int32)))) * (u0.2 138 (Int32.toNatClampNeg (2 : Int32))))) + ((u0.2 137 (Int32.toNatClampNeg (l1 + (3 : Int32)))) * (u0.2 138 (Int32.toNatClampNeg (3 : Int32))))) then (
  xm_let (α := Int32) (l1 + (4 : Int32)) fun v3 =>
  lp_X9_isInside_2 m u0 n v3) else (
  some (.inl ((0 : Int32), u0))))))))))))
def fn_X9_isInside (m : Nat) (u0 : xm_Y) : Option (Int32 × xm_Y) :=
  ((lp_X9_isInside_2 m u0 m (0 : Int32)).bind (Sum.elim (fun r => some r) (fun q4 =>
  some ((1 : Int32), u0))))
theorem el_X9_isInside_2 (m : Nat) (u0 : xm_Y) (K : (Int32 × xm_Y) ⊕ (Int32) → Option (Int32 × xm_Y)) (hK : ∀ r, K (.inl r) = some r) (kE : ∀ q : Int32, xs_ (fun x : Int32 => some (.int x)) sg_0 mt_X9_isInside 86 [none, none] [] u0 0 0 (K (.inr q))) : ∀ (n : Nat) (l1 : Int32), xs_ (fun x : Int32 => some (.int x)) sg_0 mt_X9_isInside 2 [some (.ref 136), some (.int l1)] [] u0 0 0 ((lp_X9_isInside_2 m u0 n l1).bind K) := by
  intro n
  induction n with
  | zero =>
    intro l1
    exact xs_none
  | succ n ih =>
    intro l1
    rw [lp_X9_isInside_2]
    refine xs_iload_n (n := 3) dX9_isInside_2 rfl rfl ?_
    refine xs_iconst (n := 4) (v := (4 : Int32)) dX9_isInside_3 rfl rfl ?_
    refine xs_aload_n (n := 5) dX9_isInside_4 rfl rfl ?_
    refine ys_geti (n := 8) dX9_isInside_5 rfl fl_X9_86 (Or.inl rfl) sh_136 ?_
    refine xs_imul (n := 9) dX9_isInside_8 rfl ?_
    refine xs_icmp_ge (n := 12) (tgt := 86) dX9_isInside_9 rfl rfl (fun hc1 => ?_) (fun hc1 => ?_)
    · exact xs_gf (xs_end (kE (l1))) trivial
    · refine xs_aload_n (n := 13) dX9_isInside_12 rfl rfl ?_
      refine ys_getr (n := 16) dX9_isInside_13 rfl fl_X9_11 sh_136 rfl ?_
      refine xs_iload_n (n := 17) dX9_isInside_16 rfl rfl ?_
      refine ys_laload (n := 18) dX9_isInside_17 rfl sh_137 ?_
      refine xs_aload_n (n := 19) dX9_isInside_18 rfl rfl ?_
      refine ys_getr (n := 22) dX9_isInside_19 rfl fl_X9_15 sh_136 rfl ?_
      refine xs_iconst (n := 23) (v := (0 : Int32)) dX9_isInside_22 rfl rfl ?_
      refine ys_laload (n := 24) dX9_isInside_23 rfl sh_138 ?_
      refine xs_lmul (n := 25) dX9_isInside_24 rfl ?_
      refine xs_aload_n (n := 26) dX9_isInside_25 rfl rfl ?_
      refine ys_getr (n := 29) dX9_isInside_26 rfl fl_X9_11 sh_136 rfl ?_
      refine xs_iload_n (n := 30) dX9_isInside_29 rfl rfl ?_
      refine xs_iconst (n := 31) (v := (1 : Int32)) dX9_isInside_30 rfl rfl ?_
      refine xs_iadd (n := 32) dX9_isInside_31 rfl ?_
      refine ys_laload (n := 33) dX9_isInside_32 rfl sh_137 ?_
      refine xs_aload_n (n := 34) dX9_isInside_33 rfl rfl ?_
      refine ys_getr (n := 37) dX9_isInside_34 rfl fl_X9_15 sh_136 rfl ?_
      refine xs_iconst (n := 38) (v := (1 : Int32)) dX9_isInside_37 rfl rfl ?_
      refine ys_laload (n := 39) dX9_isInside_38 rfl sh_138 ?_
      refine xs_lmul (n := 40) dX9_isInside_39 rfl ?_
      refine xs_ladd (n := 41) dX9_isInside_40 rfl ?_
      refine xs_aload_n (n := 42) dX9_isInside_41 rfl rfl ?_
      refine ys_getr (n := 45) dX9_isInside_42 rfl fl_X9_11 sh_136 rfl ?_
      refine xs_iload_n (n := 46) dX9_isInside_45 rfl rfl ?_
      refine xs_iconst (n := 47) (v := (2 : Int32)) dX9_isInside_46 rfl rfl ?_
      refine xs_iadd (n := 48) dX9_isInside_47 rfl ?_
      refine ys_laload (n := 49) dX9_isInside_48 rfl sh_137 ?_
      refine xs_aload_n (n := 50) dX9_isInside_49 rfl rfl ?_
      refine ys_getr (n := 53) dX9_isInside_50 rfl fl_X9_15 sh_136 rfl ?_
      refine xs_iconst (n := 54) (v := (2 : Int32)) dX9_isInside_53 rfl rfl ?_
      refine ys_laload (n := 55) dX9_isInside_54 rfl sh_138 ?_
      refine xs_lmul (n := 56) dX9_isInside_55 rfl ?_
      refine xs_ladd (n := 57) dX9_isInside_56 rfl ?_
      refine xs_aload_n (n := 58) dX9_isInside_57 rfl rfl ?_
      refine ys_getr (n := 61) dX9_isInside_58 rfl fl_X9_11 sh_136 rfl ?_
      refine xs_iload_n (n := 62) dX9_isInside_61 rfl rfl ?_
      refine xs_iconst (n := 63) (v := (3 : Int32)) dX9_isInside_62 rfl rfl ?_
      refine xs_iadd (n := 64) dX9_isInside_63 rfl ?_
      refine ys_laload (n := 65) dX9_isInside_64 rfl sh_137 ?_
      refine xs_aload_n (n := 66) dX9_isInside_65 rfl rfl ?_
      refine ys_getr (n := 69) dX9_isInside_66 rfl fl_X9_15 sh_136 rfl ?_
      refine xs_iconst (n := 70) (v := (3 : Int32)) dX9_isInside_69 rfl rfl ?_
      refine ys_laload (n := 71) dX9_isInside_70 rfl sh_138 ?_
      refine xs_lmul (n := 72) dX9_isInside_71 rfl ?_
      refine xs_ladd (n := 73) dX9_isInside_72 rfl ?_
      refine xs_lconst (n := 74) (v := (0 : Int64)) dX9_isInside_73 rfl rfl ?_
      refine xs_lif_ge (n := 78) (pc1 := 75) (tgt := 80) dX9_isInside_74 rfl dX9_isInside_75 rfl rfl (fun hc2 => ?_) (fun hc2 => ?_)
      · refine xs_iincl (n := 83) (dv := (4 : Int32)) (fun v3 => [some (.ref 136), some (.int v3)]) dX9_isInside_80 rfl rfl rfl (Nat.le_of_ble_eq_true rfl) (fun _ => rfl) (fun v3 => ?_)
        refine xs_goto (n := 2) dX9_isInside_83 rfl ?_
        exact xs_gf (ih v3) (And.intro rfl (And.intro rfl trivial))
      · refine xs_iconst (n := 79) (v := (0 : Int32)) dX9_isInside_78 rfl rfl ?_
        exact xs_zretc dX9_isInside_79 rfl (Or.inl rfl) (hK _)
theorem en_X9_isInside (m : Nat) (u0 : xm_Y) : xs_ (fun x : Int32 => some (.int x)) sg_0 mt_X9_isInside 0 [some (.ref 136), none] [] u0 0 0 (fn_X9_isInside m u0) := by
  refine xs_top ?_
  rw [fn_X9_isInside]
  refine xs_iconst (n := 1) (v := (0 : Int32)) dX9_isInside_0 rfl rfl ?_
  refine xs_istore_n (n := 2) (lv' := [some (.ref 136), some (.int (0 : Int32))]) dX9_isInside_1 rfl (Nat.le_of_ble_eq_true rfl) rfl ?_
  refine xs_reg ?_
  refine xs_fg (lv' := [some (.ref 136), some (.int (0 : Int32))]) (And.intro rfl (And.intro rfl trivial)) ?_
  refine el_X9_isInside_2 m u0 _ (fun _ => rfl) (fun q4 => ?_) m (0 : Int32)
  refine xs_inr ?_
  refine xs_iconst (n := 87) (v := (1 : Int32)) dX9_isInside_86 rfl rfl ?_
  exact xs_zretc dX9_isInside_87 rfl (Or.inr rfl) rfl
def lp_X9_commonPart_9 (m : Nat) (u0 : xm_Y) : Nat → Int64 → Int64 → Int32 → Option (Int64 × Int64 × Int32)
  | 0, _, _, _ => none
  | n + 1, l4, l6, l8 =>
  if (100 : Int32) ≤ l8 then (
  some (l4, l6, l8)) else (
  if l6 = (0 : Int64) then (
  some (l4, l6, l8)) else (
  xm_chk (¬ l6 = 0) (
  xm_let (α := Int64) ((l4 - l4 / l6 * l6)) fun v3 =>
  xm_let (α := Int32) (l8 + (1 : Int32)) fun v4 =>
  lp_X9_commonPart_9 m u0 n l6 v3 v4)))
def fn_X9_commonPart (m : Nat) (x0 : Int64) (x1 : Int64) (u0 : xm_Y) : Option (Int64 × xm_Y) :=
  ((lp_X9_commonPart_9 m u0 m x0 x1 (0 : Int32)).bind fun q5 =>
  some (q5.1, u0))
theorem el_X9_commonPart_9 (m : Nat) (u0 : xm_Y) (K : Int64 × Int64 × Int32 → Option (Int64 × xm_Y)) (kE : ∀ q : Int64 × Int64 × Int32, xs_ (fun x : Int64 => some (.long x)) sg_0 mt_X9_commonPart 44 [none, none, none, none, some (.long q.1), none, none, none, none, none, none] [] u0 0 0 (K q)) : ∀ (n : Nat) (l4 : Int64) (l6 : Int64) (l8 : Int32), xs_ (fun x : Int64 => some (.long x)) sg_0 mt_X9_commonPart 9 [none, none, none, none, some (.long l4), none, some (.long l6), none, some (.int l8), none, none] [] u0 0 0 ((lp_X9_commonPart_9 m u0 n l4 l6 l8).bind K) := by
  intro n
  induction n with
  | zero =>
    intro l4 l6 l8
    exact xs_none
  | succ n ih =>
    intro l4 l6 l8
    rw [lp_X9_commonPart_9]
    refine xs_iload (n := 11) dX9_commonPart_9 rfl rfl ?_
    refine xs_bipush (n := 13) (v := (100 : Int32)) dX9_commonPart_11 rfl rfl ?_
    refine xs_icmp_ge (n := 16) (tgt := 44) dX9_commonPart_13 rfl rfl (fun hc1 => ?_) (fun hc1 => ?_)
    · exact xs_gf (xs_end (kE (l4, l6, l8))) (And.intro rfl trivial)
    · refine xs_lload (n := 18) dX9_commonPart_16 rfl rfl ?_
      refine xs_lconst (n := 19) (v := (0 : Int64)) dX9_commonPart_18 rfl rfl ?_
      refine xs_lif_eq (n := 23) (pc1 := 20) (tgt := 44) dX9_commonPart_19 rfl dX9_commonPart_20 rfl rfl (fun hc2 => ?_) (fun hc2 => ?_)
      · exact xs_gf (xs_end (kE (l4, l6, l8))) (And.intro rfl trivial)
      · refine xs_lload (n := 25) dX9_commonPart_23 rfl rfl ?_
        refine xs_lload (n := 27) dX9_commonPart_25 rfl rfl ?_
        refine xs_lrem (n := 28) dX9_commonPart_27 rfl (fun _ => ?_)
        refine xs_letl (fun v3 => ?_)
        refine xs_lstore (n := 30) (lv' := [none, none, none, none, some (.long l4), none, some (.long l6), none, some (.int l8), some (.long v3), none]) dX9_commonPart_28 rfl (Nat.le_of_ble_eq_true rfl) rfl ?_
        refine xs_lload (n := 32) dX9_commonPart_30 rfl rfl ?_
        refine xs_lstore (n := 34) (lv' := [none, none, none, none, some (.long l6), none, some (.long l6), none, some (.int l8), some (.long v3), none]) dX9_commonPart_32 rfl (Nat.le_of_ble_eq_true rfl) rfl ?_
        refine xs_lload (n := 36) dX9_commonPart_34 rfl rfl ?_
        refine xs_lstore (n := 38) (lv' := [none, none, none, none, some (.long l6), none, some (.long v3), none, some (.int l8), some (.long v3), none]) dX9_commonPart_36 rfl (Nat.le_of_ble_eq_true rfl) rfl ?_
        refine xs_iincl (n := 41) (dv := (1 : Int32)) (fun v4 => [none, none, none, none, some (.long l6), none, some (.long v3), none, some (.int v4), some (.long v3), none]) dX9_commonPart_38 rfl rfl rfl (Nat.le_of_ble_eq_true rfl) (fun _ => rfl) (fun v4 => ?_)
        refine xs_goto (n := 9) dX9_commonPart_41 rfl ?_
        exact xs_gf (ih l6 v3 v4) (And.intro rfl (And.intro rfl (And.intro rfl trivial)))
theorem en_X9_commonPart (m : Nat) (x0 : Int64) (x1 : Int64) (u0 : xm_Y) : xs_ (fun x : Int64 => some (.long x)) sg_0 mt_X9_commonPart 0 [some (.long x0), none, some (.long x1), none, none, none, none, none, none, none, none] [] u0 0 0 (fn_X9_commonPart m x0 x1 u0) := by
  refine xs_top ?_
  rw [fn_X9_commonPart]
  refine xs_lload_n (n := 1) dX9_commonPart_0 rfl rfl ?_
  refine xs_lstore (n := 3) (lv' := [some (.long x0), none, some (.long x1), none, some (.long x0), none, none, none, none, none, none]) dX9_commonPart_1 rfl (Nat.le_of_ble_eq_true rfl) rfl ?_
  refine xs_lload_n (n := 4) dX9_commonPart_3 rfl rfl ?_
  refine xs_lstore (n := 6) (lv' := [some (.long x0), none, some (.long x1), none, some (.long x0), none, some (.long x1), none, none, none, none]) dX9_commonPart_4 rfl (Nat.le_of_ble_eq_true rfl) rfl ?_
  refine xs_iconst (n := 7) (v := (0 : Int32)) dX9_commonPart_6 rfl rfl ?_
  refine xs_istore (n := 9) (lv' := [some (.long x0), none, some (.long x1), none, some (.long x0), none, some (.long x1), none, some (.int (0 : Int32)), none, none]) dX9_commonPart_7 rfl (Nat.le_of_ble_eq_true rfl) rfl ?_
  refine xs_reg ?_
  refine xs_fg (lv' := [none, none, none, none, some (.long x0), none, some (.long x1), none, some (.int (0 : Int32)), none, none]) (And.intro rfl (And.intro rfl (And.intro rfl trivial))) ?_
  refine el_X9_commonPart_9 m u0 _ (fun q5 => ?_) m x0 x1 (0 : Int32)
  refine xs_lload (n := 46) dX9_commonPart_44 rfl rfl ?_
  exact xs_lret dX9_commonPart_46 rfl rfl
def lp_X9_shrink_4 (m : Nat) : Nat → Int64 → Int32 → xm_Y → Option (Int64 × Int32 × xm_Y)
  | 0, _, _, _ => none
  | n + 1, l1, l3, u0 =>
  if (4 : Int32) ≤ l3 then (
  some (l1, l3, u0)) else (
  xm_chk (xm_in l3 4) (
  ((fn_J9_abs_067f4 m (u0.2 138 (Int32.toNatClampNeg l3)) u0).bind fun q2 =>
  ((fn_X9_commonPart m l1 q2.1 q2.2).bind fun q3 =>
  xm_let (α := Int32) (l3 + (1 : Int32)) fun v4 =>
  lp_X9_shrink_4 m n q3.1 v4 q3.2))))
def lp_X9_shrink_37 (m : Nat) (c1 : Int64) : Nat → Int32 → xm_Y → Option (Int32 × xm_Y)
  | 0, _, _ => none
  | n + 1, l3, u0 =>
  if (4 : Int32) ≤ l3 then (
  some (l3, u0)) else (
  xm_chk (xm_in l3 4) (
  xm_chk (¬ c1 = 0) (
  xm_chk (xm_in l3 4) (xm_let (w_J u0 138 (Int32.toNatClampNeg l3) ((u0.2 138 (Int32.toNatClampNeg l3)) / c1)) fun u10 =>
  xm_let (α := Int32) (l3 + (1 : Int32)) fun v11 =>
  lp_X9_shrink_37 m c1 n v11 u10))))
def fn_X9_shrink (m : Nat) (u0 : xm_Y) : Option (Unit × xm_Y) :=
  ((lp_X9_shrink_4 m m (0 : Int64) (0 : Int32) u0).bind fun q5 =>
  ((if q5.1 ≤ (1 : Int64) then (
  some (q5.2.2)) else (
  ((lp_X9_shrink_37 m q5.1 m (0 : Int32) q5.2.2).bind fun q12 =>
  some (q12.2))) : Option (xm_Y)).bind fun q6 =>
  some ((), q6)))
theorem el_X9_shrink_4 (m : Nat) (K : Int64 × Int32 × xm_Y → Option (Unit × xm_Y)) (kE : ∀ q : Int64 × Int32 × xm_Y, xs_ (fun _ : Unit => none) sg_0 mt_X9_shrink 29 [some (.ref 136), some (.long q.1), none, none] [] q.2.2 0 0 (K q)) : ∀ (n : Nat) (l1 : Int64) (l3 : Int32) (u0 : xm_Y), xs_ (fun _ : Unit => none) sg_0 mt_X9_shrink 4 [some (.ref 136), some (.long l1), none, some (.int l3)] [] u0 0 0 ((lp_X9_shrink_4 m n l1 l3 u0).bind K) := by
  intro n
  induction n with
  | zero =>
    intro l1 l3 u0
    exact xs_none
  | succ n ih =>
    intro l1 l3 u0
    rw [lp_X9_shrink_4]
    refine xs_iload_n (n := 5) dX9_shrink_4 rfl rfl ?_
    refine xs_iconst (n := 6) (v := (4 : Int32)) dX9_shrink_5 rfl rfl ?_
    refine xs_icmp_ge (n := 9) (tgt := 29) dX9_shrink_6 rfl rfl (fun hc1 => ?_) (fun hc1 => ?_)
    · exact xs_gf (xs_end (kE (l1, l3, u0))) (And.intro rfl (And.intro rfl trivial))
    · refine xs_lload_n (n := 10) dX9_shrink_9 rfl rfl ?_
      refine xs_aload_n (n := 11) dX9_shrink_10 rfl rfl ?_
      refine ys_getr (n := 14) dX9_shrink_11 rfl fl_X9_15 sh_136 rfl ?_
      refine xs_iload_n (n := 15) dX9_shrink_14 rfl rfl ?_
      refine ys_laload (n := 16) dX9_shrink_15 rfl sh_138 ?_
      refine ys_callsl (n := 19) (N := mt_J9_abs_067f4) dX9_shrink_16 rfl ok_J9_abs_067f4 tw_529 st_J9_abs_067f4 ⟨Nat.le_of_ble_eq_true rfl, Nat.le_of_ble_eq_true rfl⟩ [.long (u0.2 138 (Int32.toNatClampNeg l3))] [.long l1] rfl rfl (Nat.le_of_ble_eq_true rfl) rfl (Nat.le_of_ble_eq_true rfl) (en_J9_abs_067f4 m (u0.2 138 (Int32.toNatClampNeg l3)) u0) (fun q2 => ?_)
      refine ys_callsl (n := 22) (N := mt_X9_commonPart) dX9_shrink_19 rfl ok_X9_commonPart tw_540 st_X9_commonPart ⟨Nat.le_of_ble_eq_true rfl, Nat.le_of_ble_eq_true rfl⟩ [.long l1, .long q2.1] [] rfl rfl (Nat.le_of_ble_eq_true rfl) rfl (Nat.le_of_ble_eq_true rfl) (en_X9_commonPart m l1 q2.1 q2.2) (fun q3 => ?_)
      refine xs_lstore_n (n := 23) (lv' := [some (.ref 136), some (.long q3.1), none, some (.int l3)]) dX9_shrink_22 rfl (Nat.le_of_ble_eq_true rfl) rfl ?_
      refine xs_iincl (n := 26) (dv := (1 : Int32)) (fun v4 => [some (.ref 136), some (.long q3.1), none, some (.int v4)]) dX9_shrink_23 rfl rfl rfl (Nat.le_of_ble_eq_true rfl) (fun _ => rfl) (fun v4 => ?_)
      refine xs_goto (n := 4) dX9_shrink_26 rfl ?_
      exact xs_gf (ih q3.1 v4 q3.2) (And.intro rfl (And.intro rfl (And.intro rfl trivial)))
theorem el_X9_shrink_37 (m : Nat) (c1 : Int64) (K : Int32 × xm_Y → Option (Unit × xm_Y)) (kE : ∀ q : Int32 × xm_Y, xs_ (fun _ : Unit => none) sg_0 mt_X9_shrink 58 [none, none, none, none] [] q.2 0 0 (K q)) : ∀ (n : Nat) (l3 : Int32) (u0 : xm_Y), xs_ (fun _ : Unit => none) sg_0 mt_X9_shrink 37 [some (.ref 136), some (.long c1), none, some (.int l3)] [] u0 0 0 ((lp_X9_shrink_37 m c1 n l3 u0).bind K) := by
  intro n
  induction n with
  | zero =>
    intro l3 u0
    exact xs_none
  | succ n ih =>
    intro l3 u0
    rw [lp_X9_shrink_37]
    refine xs_iload_n (n := 38) dX9_shrink_37 rfl rfl ?_
    refine xs_iconst (n := 39) (v := (4 : Int32)) dX9_shrink_38 rfl rfl ?_
    refine xs_icmp_ge (n := 42) (tgt := 58) dX9_shrink_39 rfl rfl (fun hc9 => ?_) (fun hc9 => ?_)
    · exact xs_gf (xs_end (kE (l3, u0))) trivial
    · refine xs_aload_n (n := 43) dX9_shrink_42 rfl rfl ?_
      refine ys_getr (n := 46) dX9_shrink_43 rfl fl_X9_15 sh_136 rfl ?_
      refine xs_iload_n (n := 47) dX9_shrink_46 rfl rfl ?_
      refine xs_dup2_11 (n := 48) dX9_shrink_47 rfl rfl rfl ?_
      refine ys_laload (n := 49) dX9_shrink_48 rfl sh_138 ?_
      refine xs_lload_n (n := 50) dX9_shrink_49 rfl rfl ?_
      refine xs_ldiv (n := 51) dX9_shrink_50 rfl (fun _ => ?_)
      refine ys_lastore (n := 52) dX9_shrink_51 rfl sh_138 (fun u10 => ?_)
      refine xs_iincl (n := 55) (dv := (1 : Int32)) (fun v11 => [some (.ref 136), some (.long c1), none, some (.int v11)]) dX9_shrink_52 rfl rfl rfl (Nat.le_of_ble_eq_true rfl) (fun _ => rfl) (fun v11 => ?_)
      refine xs_goto (n := 37) dX9_shrink_55 rfl ?_
      exact xs_gf (ih v11 u10) (And.intro rfl (And.intro rfl (And.intro rfl trivial)))
theorem en_X9_shrink (m : Nat) (u0 : xm_Y) : xs_ (fun _ : Unit => none) sg_0 mt_X9_shrink 0 [some (.ref 136), none, none, none] [] u0 0 0 (fn_X9_shrink m u0) := by
  refine xs_top ?_
  rw [fn_X9_shrink]
  refine xs_lconst (n := 1) (v := (0 : Int64)) dX9_shrink_0 rfl rfl ?_
  refine xs_lstore_n (n := 2) (lv' := [some (.ref 136), some (.long (0 : Int64)), none, none]) dX9_shrink_1 rfl (Nat.le_of_ble_eq_true rfl) rfl ?_
  refine xs_iconst (n := 3) (v := (0 : Int32)) dX9_shrink_2 rfl rfl ?_
  refine xs_istore_n (n := 4) (lv' := [some (.ref 136), some (.long (0 : Int64)), none, some (.int (0 : Int32))]) dX9_shrink_3 rfl (Nat.le_of_ble_eq_true rfl) rfl ?_
  refine xs_reg ?_
  refine xs_fg (lv' := [some (.ref 136), some (.long (0 : Int64)), none, some (.int (0 : Int32))]) (And.intro rfl (And.intro rfl (And.intro rfl trivial))) ?_
  refine el_X9_shrink_4 m _ (fun q5 => ?_) m (0 : Int64) (0 : Int32) u0
  refine xs_lload_n (n := 30) dX9_shrink_29 rfl rfl ?_
  refine xs_lconst (n := 31) (v := (1 : Int64)) dX9_shrink_30 rfl rfl ?_
  refine xs_join 58 (fun q6 => [none, none, none, none]) (fun q6 => []) (fun q6 => q6) (fun q6 => ?_) (fun kj7 => ?_)
  · exact xs_vret dX9_shrink_58 rfl rfl
  · refine xs_lif_le (n := 35) (pc1 := 32) (tgt := 58) dX9_shrink_31 rfl dX9_shrink_32 rfl rfl (fun hc8 => ?_) (fun hc8 => ?_)
    · exact xs_gf (xs_end (kj7 (q5.2.2))) trivial
    · refine xs_iconst (n := 36) (v := (0 : Int32)) dX9_shrink_35 rfl rfl ?_
      refine xs_istore_n (n := 37) (lv' := [some (.ref 136), some (.long q5.1), none, some (.int (0 : Int32))]) dX9_shrink_36 rfl (Nat.le_of_ble_eq_true rfl) rfl ?_
      refine xs_reg ?_
      refine xs_fg (lv' := [some (.ref 136), some (.long q5.1), none, some (.int (0 : Int32))]) (And.intro rfl (And.intro rfl (And.intro rfl trivial))) ?_
      refine el_X9_shrink_37 m q5.1 _ (fun q12 => ?_) m (0 : Int32) q5.2.2
      exact xs_gf (xs_end (kj7 (q12.2))) trivial
def lp_X6_hasPoint_2 (m : Nat) (b0 : Nat) (u0 : xm_Y) : Nat → Int32 → Option ((Int32 × xm_Y) ⊕ (Int32))
  | 0, _ => none
  | n + 1, l2 =>
  if ((4 : Int32) * (u0.1 (6 + 24 * b0) 1)) ≤ l2 then (
  some (.inr (l2))) else (
  xm_chk (xm_in l2 512) (
  xm_chk (xm_in (0 : Int32) 4) (
  if (u0.2 (7 + 24 * b0) (Int32.toNatClampNeg l2)) = (u0.2 138 (Int32.toNatClampNeg (0 : Int32))) then (
  xm_chk (xm_in (l2 + (1 : Int32)) 512) (
  xm_chk (xm_in (1 : Int32) 4) (
  if (u0.2 (7 + 24 * b0) (Int32.toNatClampNeg (l2 + (1 : Int32)))) = (u0.2 138 (Int32.toNatClampNeg (1 : Int32))) then (
  xm_chk (xm_in (l2 + (2 : Int32)) 512) (
  xm_chk (xm_in (2 : Int32) 4) (
  if (u0.2 (7 + 24 * b0) (Int32.toNatClampNeg (l2 + (2 : Int32)))) = (u0.2 138 (Int32.toNatClampNeg (2 : Int32))) then (
  xm_chk (xm_in (l2 + (3 : Int32)) 512) (
  xm_chk (xm_in (3 : Int32) 4) (
  if (u0.2 (7 + 24 * b0) (Int32.toNatClampNeg (l2 + (3 : Int32)))) = (u0.2 138 (Int32.toNatClampNeg (3 : Int32))) then (
  some (.inl ((1 : Int32), u0))) else (
  xm_let (α := Int32) (l2 + (4 : Int32)) fun v6 =>
  lp_X6_hasPoint_2 m b0 u0 n v6)))) else (
  xm_let (α := Int32) (l2 + (4 : Int32)) fun v7 =>
  lp_X6_hasPoint_2 m b0 u0 n v7)))) else (
  xm_let (α := Int32) (l2 + (4 : Int32)) fun v8 =>
  lp_X6_hasPoint_2 m b0 u0 n v8)))) else (
  xm_let (α := Int32) (l2 + (4 : Int32)) fun v9 =>
  lp_X6_hasPoint_2 m b0 u0 n v9))))
def fn_X6_hasPoint (m : Nat) (bb : Nat) (u0 : xm_Y) : Option (Int32 × xm_Y) :=
  ((lp_X6_hasPoint_2 m bb u0 m (0 : Int32)).bind (Sum.elim (fun r => some r) (fun q10 =>
  some ((0 : Int32), u0))))
theorem el_X6_hasPoint_2 (m : Nat) (b0 : Nat) (hb0 : b0 < 5) (u0 : xm_Y) (K : (Int32 × xm_Y) ⊕ (Int32) → Option (Int32 × xm_Y)) (hK : ∀ r, K (.inl r) = some r) (kE : ∀ q : Int32, xs_ (fun x : Int32 => some (.int x)) sg_0 mt_X6_hasPoint 78 [none, none, none] [] u0 0 0 (K (.inr q))) : ∀ (n : Nat) (l2 : Int32), xs_ (fun x : Int32 => some (.int x)) sg_0 mt_X6_hasPoint 2 [some (.ref (6 + 24 * b0)), some (.ref 138), some (.int l2)] [] u0 0 0 ((lp_X6_hasPoint_2 m b0 u0 n l2).bind K) := by
  intro n
  induction n with
  | zero =>
    intro l2
    exact xs_none
  | succ n ih =>
    intro l2
    rw [lp_X6_hasPoint_2]
    refine xs_iload_n (n := 3) dX6_hasPoint_2 rfl rfl ?_
    refine xs_iconst (n := 4) (v := (4 : Int32)) dX6_hasPoint_3 rfl rfl ?_
    refine xs_aload_n (n := 5) dX6_hasPoint_4 rfl rfl ?_
    refine ys_geti (n := 8) dX6_hasPoint_5 rfl fl_X6_13 (Or.inl rfl) (bp_s hb0) ?_
    refine xs_imul (n := 9) dX6_hasPoint_8 rfl ?_
    refine xs_icmp_ge (n := 12) (tgt := 78) dX6_hasPoint_9 rfl rfl (fun hc1 => ?_) (fun hc1 => ?_)
    · exact xs_gf (xs_end (kE (l2))) trivial
    · refine xs_aload_n (n := 13) dX6_hasPoint_12 rfl rfl ?_
      refine ys_getr (n := 16) dX6_hasPoint_13 rfl fl_X6_9 (bp_s hb0) (bp_r0 hb0) ?_
      refine xs_iload_n (n := 17) dX6_hasPoint_16 rfl rfl ?_
      refine ys_laload (n := 18) dX6_hasPoint_17 rfl (bq_s hb0) ?_
      refine xs_aload_n (n := 19) dX6_hasPoint_18 rfl rfl ?_
      refine xs_iconst (n := 20) (v := (0 : Int32)) dX6_hasPoint_19 rfl rfl ?_
      refine ys_laload (n := 21) dX6_hasPoint_20 rfl sh_138 ?_
      refine xs_lif_ne (n := 25) (pc1 := 22) (tgt := 72) dX6_hasPoint_21 rfl dX6_hasPoint_22 rfl rfl (fun hc2 => ?_) (fun hc2 => ?_)
      · refine xs_aload_n (n := 26) dX6_hasPoint_25 rfl rfl ?_
        refine ys_getr (n := 29) dX6_hasPoint_26 rfl fl_X6_9 (bp_s hb0) (bp_r0 hb0) ?_
        refine xs_iload_n (n := 30) dX6_hasPoint_29 rfl rfl ?_
        refine xs_iconst (n := 31) (v := (1 : Int32)) dX6_hasPoint_30 rfl rfl ?_
        refine xs_iadd (n := 32) dX6_hasPoint_31 rfl ?_
        refine ys_laload (n := 33) dX6_hasPoint_32 rfl (bq_s hb0) ?_
        refine xs_aload_n (n := 34) dX6_hasPoint_33 rfl rfl ?_
        refine xs_iconst (n := 35) (v := (1 : Int32)) dX6_hasPoint_34 rfl rfl ?_
        refine ys_laload (n := 36) dX6_hasPoint_35 rfl sh_138 ?_
        refine xs_lif_ne (n := 40) (pc1 := 37) (tgt := 72) dX6_hasPoint_36 rfl dX6_hasPoint_37 rfl rfl (fun hc3 => ?_) (fun hc3 => ?_)
        · refine xs_aload_n (n := 41) dX6_hasPoint_40 rfl rfl ?_
          refine ys_getr (n := 44) dX6_hasPoint_41 rfl fl_X6_9 (bp_s hb0) (bp_r0 hb0) ?_
          refine xs_iload_n (n := 45) dX6_hasPoint_44 rfl rfl ?_
          refine xs_iconst (n := 46) (v := (2 : Int32)) dX6_hasPoint_45 rfl rfl ?_
          refine xs_iadd (n := 47) dX6_hasPoint_46 rfl ?_
          refine ys_laload (n := 48) dX6_hasPoint_47 rfl (bq_s hb0) ?_
          refine xs_aload_n (n := 49) dX6_hasPoint_48 rfl rfl ?_
          refine xs_iconst (n := 50) (v := (2 : Int32)) dX6_hasPoint_49 rfl rfl ?_
          refine ys_laload (n := 51) dX6_hasPoint_50 rfl sh_138 ?_
          refine xs_lif_ne (n := 55) (pc1 := 52) (tgt := 72) dX6_hasPoint_51 rfl dX6_hasPoint_52 rfl rfl (fun hc4 => ?_) (fun hc4 => ?_)
          · refine xs_aload_n (n := 56) dX6_hasPoint_55 rfl rfl ?_
            refine ys_getr (n := 59) dX6_hasPoint_56 rfl fl_X6_9 (bp_s hb0) (bp_r0 hb0) ?_
            refine xs_iload_n (n := 60) dX6_hasPoint_59 rfl rfl ?_
            refine xs_iconst (n := 61) (v := (3 : Int32)) dX6_hasPoint_60 rfl rfl ?_
            refine xs_iadd (n := 62) dX6_hasPoint_61 rfl ?_
            refine ys_laload (n := 63) dX6_hasPoint_62 rfl (bq_s hb0) ?_
            refine xs_aload_n (n := 64) dX6_hasPoint_63 rfl rfl ?_
            refine xs_iconst (n := 65) (v := (3 : Int32)) dX6_hasPoint_64 rfl rfl ?_
            refine ys_laload (n := 66) dX6_hasPoint_65 rfl sh_138 ?_
            refine xs_lif_ne (n := 70) (pc1 := 67) (tgt := 72) dX6_hasPoint_66 rfl dX6_hasPoint_67 rfl rfl (fun hc5 => ?_) (fun hc5 => ?_)
            · refine xs_iconst (n := 71) (v := (1 : Int32)) dX6_hasPoint_70 rfl rfl ?_
              exact xs_zretc dX6_hasPoint_71 rfl (Or.inr rfl) (hK _)
            · refine xs_iincl (n := 75) (dv := (4 : Int32)) (fun v6 => [some (.ref (6 + 24 * b0)), some (.ref 138), some (.int v6)]) dX6_hasPoint_72 rfl rfl rfl (Nat.le_of_ble_eq_true rfl) (fun _ => rfl) (fun v6 => ?_)
              refine xs_goto (n := 2) dX6_hasPoint_75 rfl ?_
              exact xs_gf (ih v6) (And.intro rfl (And.intro rfl (And.intro rfl trivial)))
          · refine xs_iincl (n := 75) (dv := (4 : Int32)) (fun v7 => [some (.ref (6 + 24 * b0)), some (.ref 138), some (.int v7)]) dX6_hasPoint_72 rfl rfl rfl (Nat.le_of_ble_eq_true rfl) (fun _ => rfl) (fun v7 => ?_)
            refine xs_goto (n := 2) dX6_hasPoint_75 rfl ?_
            exact xs_gf (ih v7) (And.intro rfl (And.intro rfl (And.intro rfl trivial)))
        · refine xs_iincl (n := 75) (dv := (4 : Int32)) (fun v8 => [some (.ref (6 + 24 * b0)), some (.ref 138), some (.int v8)]) dX6_hasPoint_72 rfl rfl rfl (Nat.le_of_ble_eq_true rfl) (fun _ => rfl) (fun v8 => ?_)
          refine xs_goto (n := 2) dX6_hasPoint_75 rfl ?_
          exact xs_gf (ih v8) (And.intro rfl (And.intro rfl (And.intro rfl trivial)))
      · refine xs_iincl (n := 75) (dv := (4 : Int32)) (fun v9 => [some (.ref (6 + 24 * b0)), some (.ref 138), some (.int v9)]) dX6_hasPoint_72 rfl rfl rfl (Nat.le_of_ble_eq_true rfl) (fun _ => rfl) (fun v9 => ?_)
        refine xs_goto (n := 2) dX6_hasPoint_75 rfl ?_
        exact xs_gf (ih v9) (And.intro rfl (And.intro rfl (And.intro rfl trivial)))
theorem en_X6_hasPoint (m : Nat) (bb : Nat) (hb : bb < 5) (u0 : xm_Y) : xs_ (fun x : Int32 => some (.int x)) sg_0 mt_X6_hasPoint 0 [some (.ref (6 + 24 * bb)), some (.ref 138), none] [] u0 0 0 (fn_X6_hasPoint m bb u0) := by
  refine xs_top ?_
  rw [fn_X6_hasPoint]
  refine xs_iconst (n := 1) (v := (0 : Int32)) dX6_hasPoint_0 rfl rfl ?_
  refine xs_istore_n (n := 2) (lv' := [some (.ref (6 + 24 * bb)), some (.ref 138), some (.int (0 : Int32))]) dX6_hasPoint_1 rfl (Nat.le_of_ble_eq_true rfl) rfl ?_
  refine xs_reg ?_
  refine xs_fg (lv' := [some (.ref (6 + 24 * bb)), some (.ref 138), some (.int (0 : Int32))]) (And.intro rfl (And.intro rfl (And.intro rfl trivial))) ?_
  refine el_X6_hasPoint_2 m bb hb u0 _ (fun _ => rfl) (fun q10 => ?_) m (0 : Int32)
  refine xs_inr ?_
  refine xs_iconst (n := 79) (v := (0 : Int32)) dX6_hasPoint_78 rfl rfl ?_
  exact xs_zretc dX6_hasPoint_79 rfl (Or.inl rfl) rfl
def fn_X6_add (m : Nat) (bb : Nat) (u0 : xm_Y) : Option (Unit × xm_Y) :=
  if (128 : Int32) ≤ (u0.1 (6 + 24 * bb) 1) then (
  some ((), u0)) else (
  ((fn_X6_hasPoint m bb u0).bind fun q2 =>
  if q2.1 = 0 then (
  xm_chk (0 ≤ (0 : Int32) ∧ 0 ≤ ((4 : Int32) * (q2.2.1 (6 + 24 * bb) 1)) ∧ 0 ≤ (4 : Int32) ∧ (Int32.toNatClampNeg (0 : Int32)) + (Int32.toNatClampNeg (4 : Int32)) ≤ 4 ∧ (Int32.toNatClampNeg ((4 : Int32) * (q2.2.1 (6 + 24 * bb) 1))) + (Int32.toNatClampNeg (4 : Int32)) ≤ 512) (xm_let (cp_J q2.2 138 (7 + 24 * bb) (Int32.toNatClampNeg (0 : Int32)) (Int32.toNatClampNeg ((4 : Int32) * (q2.2.1 (6 + 24 * bb) 1))) (Int32.toNatClampNeg (4 : Int32))) fun u4 =>
  xm_let (w_I u4 (6 + 24 * bb) 1 ((u4.1 (6 + 24 * bb) 1) + (1 : Int32))) fun u5 =>
  xm_chk (xm_in (3 : Int32) 4) (
  ((if (u5.2 138 (Int32.toNatClampNeg (3 : Int32))) ≤ (0 : Int64) then (
  some (u5)) else (
  xm_let (w_I u5 (6 + 24 * bb) 2 (u5.1 (6 + 24 * bb) 1)) fun u9 =>
  some (u9)) : Option (xm_Y)).bind fun q6 =>
  some ((), q6))))) else (
  some ((), q2.2))))
theorem en_X6_add (m : Nat) (bb : Nat) (hb : bb < 5) (u0 : xm_Y) : xs_ (fun _ : Unit => none) sg_0 mt_X6_add 0 [some (.ref (6 + 24 * bb)), some (.ref 138)] [] u0 0 0 (fn_X6_add m bb u0) := by
  refine xs_top ?_
  rw [fn_X6_add]
  refine xs_aload_n (n := 1) dX6_add_0 rfl rfl ?_
  refine ys_geti (n := 4) dX6_add_1 rfl fl_X6_13 (Or.inl rfl) (bp_s hb) ?_
  refine xs_sipush (n := 7) (v := (128 : Int32)) dX6_add_4 rfl rfl ?_
  refine xs_icmp_ge (n := 10) (tgt := 18) dX6_add_7 rfl rfl (fun hc1 => ?_) (fun hc1 => ?_)
  · exact xs_vret dX6_add_18 rfl rfl
  · refine xs_aload_n (n := 11) dX6_add_10 rfl rfl ?_
    refine xs_aload_n (n := 12) dX6_add_11 rfl rfl ?_
    refine ys_callvi (n := 15) (N := mt_X6_hasPoint) dX6_add_12 rfl ok_X6_hasPoint tw_547 im_X6_hasPoint se_X6_hasPoint ⟨Nat.le_of_ble_eq_true rfl, Nat.le_of_ble_eq_true rfl⟩ [.ref 138] [] rfl rfl (Nat.le_of_ble_eq_true rfl) rfl (Nat.le_of_ble_eq_true rfl) (en_X6_hasPoint m bb hb u0) (bp_s hb) (by decide) rfl (fun q2 => ?_)
    refine xs_if_eq (n := 18) (tgt := 19) dX6_add_15 rfl rfl (fun hc3 => ?_) (fun hc3 => ?_)
    · refine xs_aload_n (n := 20) dX6_add_19 rfl rfl ?_
      refine xs_iconst (n := 21) (v := (0 : Int32)) dX6_add_20 rfl rfl ?_
      refine xs_aload_n (n := 22) dX6_add_21 rfl rfl ?_
      refine ys_getr (n := 25) dX6_add_22 rfl fl_X6_9 (bp_s hb) (bp_r0 hb) ?_
      refine xs_iconst (n := 26) (v := (4 : Int32)) dX6_add_25 rfl rfl ?_
      refine xs_aload_n (n := 27) dX6_add_26 rfl rfl ?_
      refine ys_geti (n := 30) dX6_add_27 rfl fl_X6_13 (Or.inl rfl) (bp_s hb) ?_
      refine xs_imul (n := 31) dX6_add_30 rfl ?_
      refine xs_iconst (n := 32) (v := (4 : Int32)) dX6_add_31 rfl rfl ?_
      refine ys_copyl (n := 35) dX6_add_32 rfl tw_551 sh_138 (bq_s hb) (Nat.le_of_ble_eq_true rfl) (Nat.le_of_ble_eq_true rfl) (fun u4 => ?_)
      refine xs_aload_n (n := 36) dX6_add_35 rfl rfl ?_
      refine xs_dup (n := 37) dX6_add_36 rfl rfl ?_
      refine ys_geti (n := 40) dX6_add_37 rfl fl_X6_13 (Or.inl rfl) (bp_s hb) ?_
      refine xs_iconst (n := 41) (v := (1 : Int32)) dX6_add_40 rfl rfl ?_
      refine xs_iadd (n := 42) dX6_add_41 rfl ?_
      refine ys_puti (n := 45) dX6_add_42 rfl fl_X6_13 rfl (bp_s hb) (fun u5 => ?_)
      refine xs_aload_n (n := 46) dX6_add_45 rfl rfl ?_
      refine xs_iconst (n := 47) (v := (3 : Int32)) dX6_add_46 rfl rfl ?_
      refine ys_laload (n := 48) dX6_add_47 rfl sh_138 ?_
      refine xs_lconst (n := 49) (v := (0 : Int64)) dX6_add_48 rfl rfl ?_
      refine xs_join 61 (fun q6 => [none, none]) (fun q6 => []) (fun q6 => q6) (fun q6 => ?_) (fun kj7 => ?_)
      · exact xs_vret dX6_add_61 rfl rfl
      · refine xs_lif_le (n := 53) (pc1 := 50) (tgt := 61) dX6_add_49 rfl dX6_add_50 rfl rfl (fun hc8 => ?_) (fun hc8 => ?_)
        · exact xs_gf (xs_end (kj7 (u5))) trivial
        · refine xs_aload_n (n := 54) dX6_add_53 rfl rfl ?_
          refine xs_aload_n (n := 55) dX6_add_54 rfl rfl ?_
          refine ys_geti (n := 58) dX6_add_55 rfl fl_X6_13 (Or.inl rfl) (bp_s hb) ?_
          refine ys_puti (n := 61) dX6_add_58 rfl fl_X6_17 rfl (bp_s hb) (fun u9 => ?_)
          exact xs_gf (xs_end (kj7 (u9))) trivial
    · exact xs_vret dX6_add_18 rfl rfl
def lp_X9_findCorners_27 (m : Nat) (b1 : Nat) (c2 : Int32) (c3 : Int32) : Nat → Int32 → xm_Y → Option (Int32 × xm_Y)
  | 0, _, _ => none
  | n + 1, l4, u0 =>
  if (u0.1 136 1) ≤ l4 then (
  some (l4, u0)) else (
  ((fn_X9_meet m ((4 : Int32) * c2) ((4 : Int32) * c3) ((4 : Int32) * l4) u0).bind fun q6 =>
  ((if q6.1 = 0 then (
  some (q6.2)) else (
  ((fn_X9_isInside m q6.2).bind fun q10 =>
  if q10.1 = 0 then (
  some (q10.2)) else (
  ((fn_X9_shrink m q10.2).bind fun q12 =>
  ((fn_X6_add m b1 q12.2).bind fun q13 =>
  some (q13.2)))))) : Option (xm_Y)).bind fun q7 =>
  xm_let (α := Int32) (l4 + (1 : Int32)) fun v14 =>
  lp_X9_findCorners_27 m b1 c2 c3 n v14 q7)))
def lp_X9_findCorners_14 (m : Nat) (b1 : Nat) (c2 : Int32) : Nat → Int32 → xm_Y → Option (Int32 × xm_Y)
  | 0, _, _ => none
  | n + 1, l3, u0 =>
  if (u0.1 136 1) ≤ l3 then (
  some (l3, u0)) else (
  xm_let (α := Int32) ((l3 + (1 : Int32))) fun v4 =>
  ((lp_X9_findCorners_27 m b1 c2 l3 m v4 u0).bind fun q15 =>
  xm_let (α := Int32) (l3 + (1 : Int32)) fun v16 =>
  lp_X9_findCorners_14 m b1 c2 n v16 q15.2))
def lp_X9_findCorners_2 (m : Nat) (b1 : Nat) : Nat → Int32 → xm_Y → Option (Int32 × xm_Y)
  | 0, _, _ => none
  | n + 1, l2, u0 =>
  if (u0.1 136 1) ≤ l2 then (
  some (l2, u0)) else (
  xm_let (α := Int32) ((l2 + (1 : Int32))) fun v2 =>
  ((lp_X9_findCorners_14 m b1 l2 m v2 u0).bind fun q17 =>
  xm_let (α := Int32) (l2 + (1 : Int32)) fun v18 =>
  lp_X9_findCorners_2 m b1 n v18 q17.2))
def fn_X9_findCorners (m : Nat) (bb : Nat) (u0 : xm_Y) : Option (Unit × xm_Y) :=
  ((lp_X9_findCorners_2 m bb m (0 : Int32) u0).bind fun q19 =>
  some ((), q19.2))
theorem el_X9_findCorners_27 (m : Nat) (b1 : Nat) (c2 : Int32) (c3 : Int32) (hb1 : b1 < 5) (K : Int32 × xm_Y → Option (Unit × xm_Y)) (kE : ∀ q : Int32 × xm_Y, xs_ (fun _ : Unit => none) sg_0 mt_X9_findCorners 78 [some (.ref 136), some (.ref (6 + 24 * b1)), some (.int c2), some (.int c3), none] [] q.2 0 0 (K q)) : ∀ (n : Nat) (l4 : Int32) (u0 : xm_Y), xs_ (fun _ : Unit => none) sg_0 mt_X9_findCorners 27 [some (.ref 136), some (.ref (6 + 24 * b1)), some (.int c2), some (.int c3), some (.int l4)] [] u0 0 0 ((lp_X9_findCorners_27 m b1 c2 c3 n l4 u0).bind K) := by
  intro n
  induction n with
  | zero =>
    intro l4 u0
    exact xs_none
  | succ n ih =>
    intro l4 u0
    rw [lp_X9_findCorners_27]
    refine xs_iload (n := 29) dX9_findCorners_27 rfl rfl ?_
    refine xs_aload_n (n := 30) dX9_findCorners_29 rfl rfl ?_
    refine ys_geti (n := 33) dX9_findCorners_30 rfl fl_X9_48 (Or.inl rfl) sh_136 ?_
    refine xs_icmp_ge (n := 36) (tgt := 78) dX9_findCorners_33 rfl rfl (fun hc5 => ?_) (fun hc5 => ?_)
    · exact xs_gf (xs_end (kE (l4, u0))) (And.intro rfl (And.intro rfl (And.intro rfl (And.intro rfl trivial))))
    · refine xs_aload_n (n := 37) dX9_findCorners_36 rfl rfl ?_
      refine xs_iconst (n := 38) (v := (4 : Int32)) dX9_findCorners_37 rfl rfl ?_
      refine xs_iload_n (n := 39) dX9_findCorners_38 rfl rfl ?_
      refine xs_imul (n := 40) dX9_findCorners_39 rfl ?_
      refine xs_iconst (n := 41) (v := (4 : Int32)) dX9_findCorners_40 rfl rfl ?_
      refine xs_iload_n (n := 42) dX9_findCorners_41 rfl rfl ?_
      refine xs_imul (n := 43) dX9_findCorners_42 rfl ?_
      refine xs_iconst (n := 44) (v := (4 : Int32)) dX9_findCorners_43 rfl rfl ?_
      refine xs_iload (n := 46) dX9_findCorners_44 rfl rfl ?_
      refine xs_imul (n := 47) dX9_findCorners_46 rfl ?_
      refine ys_callvi (n := 50) (N := mt_X9_meet) dX9_findCorners_47 rfl ok_X9_meet tw_521 im_X9_meet se_X9_meet ⟨Nat.le_of_ble_eq_true rfl, Nat.le_of_ble_eq_true rfl⟩ [.int ((4 : Int32) * c2), .int ((4 : Int32) * c3), .int ((4 : Int32) * l4)] [] rfl rfl (Nat.le_of_ble_eq_true rfl) rfl (Nat.le_of_ble_eq_true rfl) (en_X9_meet m ((4 : Int32) * c2) ((4 : Int32) * c3) ((4 : Int32) * l4) u0) sh_136 (by decide) rfl (fun q6 => ?_)
      refine xs_join 72 (fun q7 => [some (.ref 136), some (.ref (6 + 24 * b1)), some (.int c2), some (.int c3), some (.int l4)]) (fun q7 => []) (fun q7 => q7) (fun q7 => ?_) (fun kj8 => ?_)
      · refine xs_iincl (n := 75) (dv := (1 : Int32)) (fun v14 => [some (.ref 136), some (.ref (6 + 24 * b1)), some (.int c2), some (.int c3), some (.int v14)]) dX9_findCorners_72 rfl rfl rfl (Nat.le_of_ble_eq_true rfl) (fun _ => rfl) (fun v14 => ?_)
        refine xs_goto (n := 27) dX9_findCorners_75 rfl ?_
        exact xs_gf (ih v14 q7) (And.intro rfl (And.intro rfl (And.intro rfl (And.intro rfl (And.intro rfl trivial)))))
      · refine xs_if_eq (n := 53) (tgt := 72) dX9_findCorners_50 rfl rfl (fun hc9 => ?_) (fun hc9 => ?_)
        · exact xs_gf (xs_end (kj8 (q6.2))) (And.intro rfl (And.intro rfl (And.intro rfl (And.intro rfl (And.intro rfl trivial)))))
        · refine xs_aload_n (n := 54) dX9_findCorners_53 rfl rfl ?_
          refine ys_callvi (n := 57) (N := mt_X9_isInside) dX9_findCorners_54 rfl ok_X9_isInside tw_532 im_X9_isInside se_X9_isInside ⟨Nat.le_of_ble_eq_true rfl, Nat.le_of_ble_eq_true rfl⟩ [] [] rfl rfl (Nat.le_of_ble_eq_true rfl) rfl (Nat.le_of_ble_eq_true rfl) (en_X9_isInside m q6.2) sh_136 (by decide) rfl (fun q10 => ?_)
          refine xs_if_eq (n := 60) (tgt := 72) dX9_findCorners_57 rfl rfl (fun hc11 => ?_) (fun hc11 => ?_)
          · exact xs_gf (xs_end (kj8 (q10.2))) (And.intro rfl (And.intro rfl (And.intro rfl (And.intro rfl (And.intro rfl trivial)))))
          · refine xs_aload_n (n := 61) dX9_findCorners_60 rfl rfl ?_
            refine ys_callvv (n := 64) (N := mt_X9_shrink) dX9_findCorners_61 rfl ok_X9_shrink tw_536 im_X9_shrink se_X9_shrink ⟨Nat.le_of_ble_eq_true rfl, Nat.le_of_ble_eq_true rfl⟩ [] [] rfl rfl (Nat.le_of_ble_eq_true rfl) rfl (Nat.le_of_ble_eq_true rfl) (en_X9_shrink m q10.2) sh_136 (by decide) rfl (fun q12 => ?_)
            refine xs_aload_n (n := 65) dX9_findCorners_64 rfl rfl ?_
            refine xs_aload_n (n := 66) dX9_findCorners_65 rfl rfl ?_
            refine ys_getr (n := 69) dX9_findCorners_66 rfl fl_X9_15 sh_136 rfl ?_
            refine ys_callvv (n := 72) (N := mt_X6_add) dX9_findCorners_69 rfl ok_X6_add tw_543 im_X6_add se_X6_add ⟨Nat.le_of_ble_eq_true rfl, Nat.le_of_ble_eq_true rfl⟩ [.ref 138] [] rfl rfl (Nat.le_of_ble_eq_true rfl) rfl (Nat.le_of_ble_eq_true rfl) (en_X6_add m b1 hb1 q12.2) (bp_s hb1) (by decide) rfl (fun q13 => ?_)
            exact xs_gf (xs_end (kj8 (q13.2))) (And.intro rfl (And.intro rfl (And.intro rfl (And.intro rfl (And.intro rfl trivial)))))
theorem el_X9_findCorners_14 (m : Nat) (b1 : Nat) (c2 : Int32) (hb1 : b1 < 5) (K : Int32 × xm_Y → Option (Unit × xm_Y)) (kE : ∀ q : Int32 × xm_Y, xs_ (fun _ : Unit => none) sg_0 mt_X9_findCorners 84 [some (.ref 136), some (.ref (6 + 24 * b1)), some (.int c2), none, none] [] q.2 0 0 (K q)) : ∀ (n : Nat) (l3 : Int32) (u0 : xm_Y), xs_ (fun _ : Unit => none) sg_0 mt_X9_findCorners 14 [some (.ref 136), some (.ref (6 + 24 * b1)), some (.int c2), some (.int l3), none] [] u0 0 0 ((lp_X9_findCorners_14 m b1 c2 n l3 u0).bind K) := by
  intro n
  induction n with
  | zero =>
    intro l3 u0
    exact xs_none
  | succ n ih =>
    intro l3 u0
    rw [lp_X9_findCorners_14]
    refine xs_iload_n (n := 15) dX9_findCorners_14 rfl rfl ?_
    refine xs_aload_n (n := 16) dX9_findCorners_15 rfl rfl ?_
    refine ys_geti (n := 19) dX9_findCorners_16 rfl fl_X9_48 (Or.inl rfl) sh_136 ?_
    refine xs_icmp_ge (n := 22) (tgt := 84) dX9_findCorners_19 rfl rfl (fun hc3 => ?_) (fun hc3 => ?_)
    · exact xs_gf (xs_end (kE (l3, u0))) (And.intro rfl (And.intro rfl (And.intro rfl trivial)))
    · refine xs_iload_n (n := 23) dX9_findCorners_22 rfl rfl ?_
      refine xs_iconst (n := 24) (v := (1 : Int32)) dX9_findCorners_23 rfl rfl ?_
      refine xs_iadd (n := 25) dX9_findCorners_24 rfl ?_
      refine xs_leti (fun v4 => ?_)
      refine xs_istore (n := 27) (lv' := [some (.ref 136), some (.ref (6 + 24 * b1)), some (.int c2), some (.int l3), some (.int v4)]) dX9_findCorners_25 rfl (Nat.le_of_ble_eq_true rfl) rfl ?_
      refine xs_reg ?_
      refine xs_fg (lv' := [some (.ref 136), some (.ref (6 + 24 * b1)), some (.int c2), some (.int l3), some (.int v4)]) (And.intro rfl (And.intro rfl (And.intro rfl (And.intro rfl (And.intro rfl trivial))))) ?_
      refine el_X9_findCorners_27 m b1 c2 l3 hb1 _ (fun q15 => ?_) m v4 u0
      refine xs_iincl (n := 81) (dv := (1 : Int32)) (fun v16 => [some (.ref 136), some (.ref (6 + 24 * b1)), some (.int c2), some (.int v16), none]) dX9_findCorners_78 rfl rfl rfl (Nat.le_of_ble_eq_true rfl) (fun _ => rfl) (fun v16 => ?_)
      refine xs_goto (n := 14) dX9_findCorners_81 rfl ?_
      exact xs_gf (ih v16 q15.2) (And.intro rfl (And.intro rfl (And.intro rfl (And.intro rfl trivial))))
theorem el_X9_findCorners_2 (m : Nat) (b1 : Nat) (hb1 : b1 < 5) (K : Int32 × xm_Y → Option (Unit × xm_Y)) (kE : ∀ q : Int32 × xm_Y, xs_ (fun _ : Unit => none) sg_0 mt_X9_findCorners 90 [none, none, none, none, none] [] q.2 0 0 (K q)) : ∀ (n : Nat) (l2 : Int32) (u0 : xm_Y), xs_ (fun _ : Unit => none) sg_0 mt_X9_findCorners 2 [some (.ref 136), some (.ref (6 + 24 * b1)), some (.int l2), none, none] [] u0 0 0 ((lp_X9_findCorners_2 m b1 n l2 u0).bind K) := by
  intro n
  induction n with
  | zero =>
    intro l2 u0
    exact xs_none
  | succ n ih =>
    intro l2 u0
    rw [lp_X9_findCorners_2]
    refine xs_iload_n (n := 3) dX9_findCorners_2 rfl rfl ?_
    refine xs_aload_n (n := 4) dX9_findCorners_3 rfl rfl ?_
    refine ys_geti (n := 7) dX9_findCorners_4 rfl fl_X9_48 (Or.inl rfl) sh_136 ?_
    refine xs_icmp_ge (n := 10) (tgt := 90) dX9_findCorners_7 rfl rfl (fun hc1 => ?_) (fun hc1 => ?_)
    · exact xs_gf (xs_end (kE (l2, u0))) trivial
    · refine xs_iload_n (n := 11) dX9_findCorners_10 rfl rfl ?_
      refine xs_iconst (n := 12) (v := (1 : Int32)) dX9_findCorners_11 rfl rfl ?_
      refine xs_iadd (n := 13) dX9_findCorners_12 rfl ?_
      refine xs_leti (fun v2 => ?_)
      refine xs_istore_n (n := 14) (lv' := [some (.ref 136), some (.ref (6 + 24 * b1)), some (.int l2), some (.int v2), none]) dX9_findCorners_13 rfl (Nat.le_of_ble_eq_true rfl) rfl ?_
      refine xs_reg ?_
      refine xs_fg (lv' := [some (.ref 136), some (.ref (6 + 24 * b1)), some (.int l2), some (.int v2), none]) (And.intro rfl (And.intro rfl (And.intro rfl (And.intro rfl trivial)))) ?_
      refine el_X9_findCorners_14 m b1 l2 hb1 _ (fun q17 => ?_) m v2 u0
      refine xs_iincl (n := 87) (dv := (1 : Int32)) (fun v18 => [some (.ref 136), some (.ref (6 + 24 * b1)), some (.int v18), none, none]) dX9_findCorners_84 rfl rfl rfl (Nat.le_of_ble_eq_true rfl) (fun _ => rfl) (fun v18 => ?_)
      refine xs_goto (n := 2) dX9_findCorners_87 rfl ?_
      exact xs_gf (ih v18 q17.2) (And.intro rfl (And.intro rfl (And.intro rfl trivial)))
theorem en_X9_findCorners (m : Nat) (bb : Nat) (hb : bb < 5) (u0 : xm_Y) : xs_ (fun _ : Unit => none) sg_0 mt_X9_findCorners 0 [some (.ref 136), some (.ref (6 + 24 * bb)), none, none, none] [] u0 0 0 (fn_X9_findCorners m bb u0) := by
  refine xs_top ?_
  rw [fn_X9_findCorners]
  refine xs_iconst (n := 1) (v := (0 : Int32)) dX9_findCorners_0 rfl rfl ?_
  refine xs_istore_n (n := 2) (lv' := [some (.ref 136), some (.ref (6 + 24 * bb)), some (.int (0 : Int32)), none, none]) dX9_findCorners_1 rfl (Nat.le_of_ble_eq_true rfl) rfl ?_
  refine xs_reg ?_
  refine xs_fg (lv' := [some (.ref 136), some (.ref (6 + 24 * bb)), some (.int (0 : Int32)), none, none]) (And.intro rfl (And.intro rfl (And.intro rfl trivial))) ?_
  refine el_X9_findCorners_2 m bb hb _ (fun q19 => ?_) m (0 : Int32) u0
  exact xs_vret dX9_findCorners_90 rfl rfl
def fn_X6_isEmpty (m : Nat) (bb : Nat) (u0 : xm_Y) : Option (Int32 × xm_Y) :=
  ((if (u0.1 (6 + 24 * bb) 2) = 0 then (
  some ((1 : Int32))) else (
  some ((0 : Int32))) : Option (Int32)).bind fun q1 =>
  xm_chk (q1 = 0 ∨ q1 = 1) (some (q1, u0)))
theorem en_X6_isEmpty (m : Nat) (bb : Nat) (hb : bb < 5) (u0 : xm_Y) : xs_ (fun x : Int32 => some (.int x)) sg_0 mt_X6_isEmpty 0 [some (.ref (6 + 24 * bb))] [] u0 0 0 (fn_X6_isEmpty m bb u0) := by
  refine xs_top ?_
  rw [fn_X6_isEmpty]
  refine xs_aload_n (n := 1) dX6_isEmpty_0 rfl rfl ?_
  refine ys_geti (n := 4) dX6_isEmpty_1 rfl fl_X6_17 (Or.inl rfl) (bp_s hb) ?_
  refine xs_join 12 (fun q1 => [none]) (fun q1 => [.int q1]) (fun q1 => u0) (fun q1 => ?_) (fun kj2 => ?_)
  · exact xs_zret dX6_isEmpty_12 rfl rfl
  · refine xs_if_ne (n := 7) (tgt := 11) dX6_isEmpty_4 rfl rfl (fun hc3 => ?_) (fun hc3 => ?_)
    · refine xs_iconst (n := 8) (v := (1 : Int32)) dX6_isEmpty_7 rfl rfl ?_
      refine xs_goto (n := 12) dX6_isEmpty_8 rfl ?_
      exact xs_gf (xs_end (kj2 ((1 : Int32)))) trivial
    · refine xs_iconst (n := 12) (v := (0 : Int32)) dX6_isEmpty_11 rfl rfl ?_
      exact xs_gf (xs_end (kj2 ((0 : Int32)))) trivial
def fn_X9_follow (m : Nat) (x0 : Int32) (x1 : Int32) (x2 : Int32) (u0 : xm_Y) : Option (Int32 × xm_Y) :=
  ((fn_X9_cross m x0 x1 (0 : Int32) u0).bind fun q1 =>
  xm_chk (xm_in (0 : Int32) 4) (xm_let (w_J q1.2 138 (Int32.toNatClampNeg (0 : Int32)) ((Int32.toInt64 x2) * q1.1)) fun u2 =>
  ((fn_X9_cross m x0 x1 (1 : Int32) u2).bind fun q3 =>
  xm_chk (xm_in (1 : Int32) 4) (xm_let (w_J q3.2 138 (Int32.toNatClampNeg (1 : Int32)) ((Int32.toInt64 x2) * q3.1)) fun u4 =>
  ((fn_X9_cross m x0 x1 (2 : Int32) u4).bind fun q5 =>
  xm_chk (xm_in (2 : Int32) 4) (xm_let (w_J q5.2 138 (Int32.toNatClampNeg (2 : Int32)) ((Int32.toInt64 x2) * q5.1)) fun u6 =>
  xm_chk (xm_in (3 : Int32) 4) (xm_let (w_J u6 138 (Int32.toNatClampNeg (3 : Int32)) (0 : Int64)) fun u7 =>
  xm_chk (xm_in (0 : Int32) 4) (
  ((if (u7.2 138 (Int32.toNatClampNeg (0 : Int32))) = (0 : Int64) then (
  xm_chk (xm_in (1 : Int32) 4) (
  if (u7.2 138 (Int32.toNatClampNeg (1 : Int32))) = (0 : Int64) then (
  xm_chk (xm_in (2 : Int32) 4) (
  if (u7.2 138 (Int32.toNatClampNeg (2 : Int32))) = (0 : Int64) then (
  some ((0 : Int32))) else (
  some ((1 : Int32))))) else (
  some ((1 : Int32))))) else (
  some ((1 : Int32))) : Option (Int32)).bind fun q8 =>
  xm_chk (q8 = 0 ∨ q8 = 1) (some (q8, u7)))))))))))
theorem en_X9_follow (m : Nat) (x0 : Int32) (x1 : Int32) (x2 : Int32) (u0 : xm_Y) : xs_ (fun x : Int32 => some (.int x)) sg_0 mt_X9_follow 0 [some (.ref 136), some (.int x0), some (.int x1), some (.int x2)] [] u0 0 0 (fn_X9_follow m x0 x1 x2 u0) := by
  refine xs_top ?_
  rw [fn_X9_follow]
  refine xs_aload_n (n := 1) dX9_follow_0 rfl rfl ?_
  refine ys_getr (n := 4) dX9_follow_1 rfl fl_X9_15 sh_136 rfl ?_
  refine xs_iconst (n := 5) (v := (0 : Int32)) dX9_follow_4 rfl rfl ?_
  refine xs_iload_n (n := 6) dX9_follow_5 rfl rfl ?_
  refine xs_i2l (n := 7) dX9_follow_6 rfl ?_
  refine xs_aload_n (n := 8) dX9_follow_7 rfl rfl ?_
  refine xs_iload_n (n := 9) dX9_follow_8 rfl rfl ?_
  refine xs_iload_n (n := 10) dX9_follow_9 rfl rfl ?_
  refine xs_iconst (n := 11) (v := (0 : Int32)) dX9_follow_10 rfl rfl ?_
  refine ys_callvl (n := 14) (N := mt_X9_cross) dX9_follow_11 rfl ok_X9_cross tw_525 im_X9_cross se_X9_cross ⟨Nat.le_of_ble_eq_true rfl, Nat.le_of_ble_eq_true rfl⟩ [.int x0, .int x1, .int (0 : Int32)] [.long (Int32.toInt64 x2), .int (0 : Int32), .ref 138] rfl rfl (Nat.le_of_ble_eq_true rfl) rfl (Nat.le_of_ble_eq_true rfl) (en_X9_cross m x0 x1 (0 : Int32) u0) sh_136 (by decide) rfl (fun q1 => ?_)
  refine xs_lmul (n := 15) dX9_follow_14 rfl ?_
  refine ys_lastore (n := 16) dX9_follow_15 rfl sh_138 (fun u2 => ?_)
  refine xs_aload_n (n := 17) dX9_follow_16 rfl rfl ?_
  refine ys_getr (n := 20) dX9_follow_17 rfl fl_X9_15 sh_136 rfl ?_
  refine xs_iconst (n := 21) (v := (1 : Int32)) dX9_follow_20 rfl rfl ?_
  refine xs_iload_n (n := 22) dX9_follow_21 rfl rfl ?_
  refine xs_i2l (n := 23) dX9_follow_22 rfl ?_
  refine xs_aload_n (n := 24) dX9_follow_23 rfl rfl ?_
  refine xs_iload_n (n := 25) dX9_follow_24 rfl rfl ?_
  refine xs_iload_n (n := 26) dX9_follow_25 rfl rfl ?_
  refine xs_iconst (n := 27) (v := (1 : Int32)) dX9_follow_26 rfl rfl ?_
  refine ys_callvl (n := 30) (N := mt_X9_cross) dX9_follow_27 rfl ok_X9_cross tw_525 im_X9_cross se_X9_cross ⟨Nat.le_of_ble_eq_true rfl, Nat.le_of_ble_eq_true rfl⟩ [.int x0, .int x1, .int (1 : Int32)] [.long (Int32.toInt64 x2), .int (1 : Int32), .ref 138] rfl rfl (Nat.le_of_ble_eq_true rfl) rfl (Nat.le_of_ble_eq_true rfl) (en_X9_cross m x0 x1 (1 : Int32) u2) sh_136 (by decide) rfl (fun q3 => ?_)
  refine xs_lmul (n := 31) dX9_follow_30 rfl ?_
  refine ys_lastore (n := 32) dX9_follow_31 rfl sh_138 (fun u4 => ?_)
  refine xs_aload_n (n := 33) dX9_follow_32 rfl rfl ?_
  refine ys_getr (n := 36) dX9_follow_33 rfl fl_X9_15 sh_136 rfl ?_
  refine xs_iconst (n := 37) (v := (2 : Int32)) dX9_follow_36 rfl rfl ?_
  refine xs_iload_n (n := 38) dX9_follow_37 rfl rfl ?_
  refine xs_i2l (n := 39) dX9_follow_38 rfl ?_
  refine xs_aload_n (n := 40) dX9_follow_39 rfl rfl ?_
  refine xs_iload_n (n := 41) dX9_follow_40 rfl rfl ?_
  refine xs_iload_n (n := 42) dX9_follow_41 rfl rfl ?_
  refine xs_iconst (n := 43) (v := (2 : Int32)) dX9_follow_42 rfl rfl ?_
  refine ys_callvl (n := 46) (N := mt_X9_cross) dX9_follow_43 rfl ok_X9_cross tw_525 im_X9_cross se_X9_cross ⟨Nat.le_of_ble_eq_true rfl, Nat.le_of_ble_eq_true rfl⟩ [.int x0, .int x1, .int (2 : Int32)] [.long (Int32.toInt64 x2), .int (2 : Int32), .ref 138] rfl rfl (Nat.le_of_ble_eq_true rfl) rfl (Nat.le_of_ble_eq_true rfl) (en_X9_cross m x0 x1 (2 : Int32) u4) sh_136 (by decide) rfl (fun q5 => ?_)
  refine xs_lmul (n := 47) dX9_follow_46 rfl ?_
  refine ys_lastore (n := 48) dX9_follow_47 rfl sh_138 (fun u6 => ?_)
  refine xs_aload_n (n := 49) dX9_follow_48 rfl rfl ?_
  refine ys_getr (n := 52) dX9_follow_49 rfl fl_X9_15 sh_136 rfl ?_
  refine xs_iconst (n := 53) (v := (3 : Int32)) dX9_follow_52 rfl rfl ?_
  refine xs_lconst (n := 54) (v := (0 : Int64)) dX9_follow_53 rfl rfl ?_
  refine ys_lastore (n := 55) dX9_follow_54 rfl sh_138 (fun u7 => ?_)
  refine xs_aload_n (n := 56) dX9_follow_55 rfl rfl ?_
  refine ys_getr (n := 59) dX9_follow_56 rfl fl_X9_15 sh_136 rfl ?_
  refine xs_iconst (n := 60) (v := (0 : Int32)) dX9_follow_59 rfl rfl ?_
  refine ys_laload (n := 61) dX9_follow_60 rfl sh_138 ?_
  refine xs_lconst (n := 62) (v := (0 : Int64)) dX9_follow_61 rfl rfl ?_
  refine xs_join 93 (fun q8 => [none, none, none, none]) (fun q8 => [.int q8]) (fun q8 => u7) (fun q8 => ?_) (fun kj9 => ?_)
  · exact xs_zret dX9_follow_93 rfl rfl
  · refine xs_lif_ne (n := 66) (pc1 := 63) (tgt := 88) dX9_follow_62 rfl dX9_follow_63 rfl rfl (fun hc10 => ?_) (fun hc10 => ?_)
    · refine xs_aload_n (n := 67) dX9_follow_66 rfl rfl ?_
      refine ys_getr (n := 70) dX9_follow_67 rfl fl_X9_15 sh_136 rfl ?_
      refine xs_iconst (n := 71) (v := (1 : Int32)) dX9_follow_70 rfl rfl ?_
      refine ys_laload (n := 72) dX9_follow_71 rfl sh_138 ?_
      refine xs_lconst (n := 73) (v := (0 : Int64)) dX9_follow_72 rfl rfl ?_
      refine xs_lif_ne (n := 77) (pc1 := 74) (tgt := 88) dX9_follow_73 rfl dX9_follow_74 rfl rfl (fun hc11 => ?_) (fun hc11 => ?_)
      · refine xs_aload_n (n := 78) dX9_follow_77 rfl rfl ?_
        refine ys_getr (n := 81) dX9_follow_78 rfl fl_X9_15 sh_136 rfl ?_
        refine xs_iconst (n := 82) (v := (2 : Int32)) dX9_follow_81 rfl rfl ?_
        refine ys_laload (n := 83) dX9_follow_82 rfl sh_138 ?_
        refine xs_lconst (n := 84) (v := (0 : Int64)) dX9_follow_83 rfl rfl ?_
        refine xs_lif_eq (n := 88) (pc1 := 85) (tgt := 92) dX9_follow_84 rfl dX9_follow_85 rfl rfl (fun hc12 => ?_) (fun hc12 => ?_)
        · refine xs_iconst (n := 93) (v := (0 : Int32)) dX9_follow_92 rfl rfl ?_
          exact xs_gf (xs_end (kj9 ((0 : Int32)))) trivial
        · refine xs_iconst (n := 89) (v := (1 : Int32)) dX9_follow_88 rfl rfl ?_
          refine xs_goto (n := 93) dX9_follow_89 rfl ?_
          exact xs_gf (xs_end (kj9 ((1 : Int32)))) trivial
      · refine xs_iconst (n := 89) (v := (1 : Int32)) dX9_follow_88 rfl rfl ?_
        refine xs_goto (n := 93) dX9_follow_89 rfl ?_
        exact xs_gf (xs_end (kj9 ((1 : Int32)))) trivial
    · refine xs_iconst (n := 89) (v := (1 : Int32)) dX9_follow_88 rfl rfl ?_
      refine xs_goto (n := 93) dX9_follow_89 rfl ?_
      exact xs_gf (xs_end (kj9 ((1 : Int32)))) trivial
def lp_X9_findDirections_25 (m : Nat) (b1 : Nat) (c2 : Int32) (c3 : Int32) : Nat → Int32 → xm_Y → Option (Int32 × xm_Y)
  | 0, _, _ => none
  | n + 1, l4, u0 =>
  if (1 : Int32) < l4 then (
  some (l4, u0)) else (
  ((fn_X9_follow m ((4 : Int32) * c2) ((4 : Int32) * c3) l4 u0).bind fun q5 =>
  ((if q5.1 = 0 then (
  some (q5.2)) else (
  ((fn_X9_isInside m q5.2).bind fun q9 =>
  if q9.1 = 0 then (
  some (q9.2)) else (
  ((fn_X9_shrink m q9.2).bind fun q11 =>
  ((fn_X6_add m b1 q11.2).bind fun q12 =>
  some (q12.2)))))) : Option (xm_Y)).bind fun q6 =>
  xm_let (α := Int32) (l4 + (2 : Int32)) fun v13 =>
  lp_X9_findDirections_25 m b1 c2 c3 n v13 q6)))
def lp_X9_findDirections_14 (m : Nat) (b1 : Nat) (c2 : Int32) : Nat → Int32 → xm_Y → Option (Int32 × xm_Y)
  | 0, _, _ => none
  | n + 1, l3, u0 =>
  if (u0.1 136 1) ≤ l3 then (
  some (l3, u0)) else (
  ((lp_X9_findDirections_25 m b1 c2 l3 m (-1 : Int32) u0).bind fun q14 =>
  xm_let (α := Int32) (l3 + (1 : Int32)) fun v15 =>
  lp_X9_findDirections_14 m b1 c2 n v15 q14.2))
def lp_X9_findDirections_2 (m : Nat) (b1 : Nat) : Nat → Int32 → xm_Y → Option (Int32 × xm_Y)
  | 0, _, _ => none
  | n + 1, l2, u0 =>
  if (u0.1 136 1) ≤ l2 then (
  some (l2, u0)) else (
  xm_let (α := Int32) ((l2 + (1 : Int32))) fun v2 =>
  ((lp_X9_findDirections_14 m b1 l2 m v2 u0).bind fun q16 =>
  xm_let (α := Int32) (l2 + (1 : Int32)) fun v17 =>
  lp_X9_findDirections_2 m b1 n v17 q16.2))
def fn_X9_findDirections (m : Nat) (bb : Nat) (u0 : xm_Y) : Option (Unit × xm_Y) :=
  ((lp_X9_findDirections_2 m bb m (0 : Int32) u0).bind fun q18 =>
  some ((), q18.2))
theorem el_X9_findDirections_25 (m : Nat) (b1 : Nat) (c2 : Int32) (c3 : Int32) (hb1 : b1 < 5) (K : Int32 × xm_Y → Option (Unit × xm_Y)) (kE : ∀ q : Int32 × xm_Y, xs_ (fun _ : Unit => none) sg_0 mt_X9_findDirections 71 [some (.ref 136), some (.ref (6 + 24 * b1)), some (.int c2), some (.int c3), none] [] q.2 0 0 (K q)) : ∀ (n : Nat) (l4 : Int32) (u0 : xm_Y), xs_ (fun _ : Unit => none) sg_0 mt_X9_findDirections 25 [some (.ref 136), some (.ref (6 + 24 * b1)), some (.int c2), some (.int c3), some (.int l4)] [] u0 0 0 ((lp_X9_findDirections_25 m b1 c2 c3 n l4 u0).bind K) := by
  intro n
  induction n with
  | zero =>
    intro l4 u0
    exact xs_none
  | succ n ih =>
    intro l4 u0
    rw [lp_X9_findDirections_25]
    refine xs_iload (n := 27) dX9_findDirections_25 rfl rfl ?_
    refine xs_iconst (n := 28) (v := (1 : Int32)) dX9_findDirections_27 rfl rfl ?_
    refine xs_icmp_gt (n := 31) (tgt := 71) dX9_findDirections_28 rfl rfl (fun hc4 => ?_) (fun hc4 => ?_)
    · exact xs_gf (xs_end (kE (l4, u0))) (And.intro rfl (And.intro rfl (And.intro rfl (And.intro rfl trivial))))
    · refine xs_aload_n (n := 32) dX9_findDirections_31 rfl rfl ?_
      refine xs_iconst (n := 33) (v := (4 : Int32)) dX9_findDirections_32 rfl rfl ?_
      refine xs_iload_n (n := 34) dX9_findDirections_33 rfl rfl ?_
      refine xs_imul (n := 35) dX9_findDirections_34 rfl ?_
      refine xs_iconst (n := 36) (v := (4 : Int32)) dX9_findDirections_35 rfl rfl ?_
      refine xs_iload_n (n := 37) dX9_findDirections_36 rfl rfl ?_
      refine xs_imul (n := 38) dX9_findDirections_37 rfl ?_
      refine xs_iload (n := 40) dX9_findDirections_38 rfl rfl ?_
      refine ys_callvi (n := 43) (N := mt_X9_follow) dX9_findDirections_40 rfl ok_X9_follow tw_560 im_X9_follow se_X9_follow ⟨Nat.le_of_ble_eq_true rfl, Nat.le_of_ble_eq_true rfl⟩ [.int ((4 : Int32) * c2), .int ((4 : Int32) * c3), .int l4] [] rfl rfl (Nat.le_of_ble_eq_true rfl) rfl (Nat.le_of_ble_eq_true rfl) (en_X9_follow m ((4 : Int32) * c2) ((4 : Int32) * c3) l4 u0) sh_136 (by decide) rfl (fun q5 => ?_)
      refine xs_join 65 (fun q6 => [some (.ref 136), some (.ref (6 + 24 * b1)), some (.int c2), some (.int c3), some (.int l4)]) (fun q6 => []) (fun q6 => q6) (fun q6 => ?_) (fun kj7 => ?_)
      · refine xs_iincl (n := 68) (dv := (2 : Int32)) (fun v13 => [some (.ref 136), some (.ref (6 + 24 * b1)), some (.int c2), some (.int c3), some (.int v13)]) dX9_findDirections_65 rfl rfl rfl (Nat.le_of_ble_eq_true rfl) (fun _ => rfl) (fun v13 => ?_)
        refine xs_goto (n := 25) dX9_findDirections_68 rfl ?_
        exact xs_gf (ih v13 q6) (And.intro rfl (And.intro rfl (And.intro rfl (And.intro rfl (And.intro rfl trivial)))))
      · refine xs_if_eq (n := 46) (tgt := 65) dX9_findDirections_43 rfl rfl (fun hc8 => ?_) (fun hc8 => ?_)
        · exact xs_gf (xs_end (kj7 (q5.2))) (And.intro rfl (And.intro rfl (And.intro rfl (And.intro rfl (And.intro rfl trivial)))))
        · refine xs_aload_n (n := 47) dX9_findDirections_46 rfl rfl ?_
          refine ys_callvi (n := 50) (N := mt_X9_isInside) dX9_findDirections_47 rfl ok_X9_isInside tw_532 im_X9_isInside se_X9_isInside ⟨Nat.le_of_ble_eq_true rfl, Nat.le_of_ble_eq_true rfl⟩ [] [] rfl rfl (Nat.le_of_ble_eq_true rfl) rfl (Nat.le_of_ble_eq_true rfl) (en_X9_isInside m q5.2) sh_136 (by decide) rfl (fun q9 => ?_)
          refine xs_if_eq (n := 53) (tgt := 65) dX9_findDirections_50 rfl rfl (fun hc10 => ?_) (fun hc10 => ?_)
          · exact xs_gf (xs_end (kj7 (q9.2))) (And.intro rfl (And.intro rfl (And.intro rfl (And.intro rfl (And.intro rfl trivial)))))
          · refine xs_aload_n (n := 54) dX9_findDirections_53 rfl rfl ?_
            refine ys_callvv (n := 57) (N := mt_X9_shrink) dX9_findDirections_54 rfl ok_X9_shrink tw_536 im_X9_shrink se_X9_shrink ⟨Nat.le_of_ble_eq_true rfl, Nat.le_of_ble_eq_true rfl⟩ [] [] rfl rfl (Nat.le_of_ble_eq_true rfl) rfl (Nat.le_of_ble_eq_true rfl) (en_X9_shrink m q9.2) sh_136 (by decide) rfl (fun q11 => ?_)
            refine xs_aload_n (n := 58) dX9_findDirections_57 rfl rfl ?_
            refine xs_aload_n (n := 59) dX9_findDirections_58 rfl rfl ?_
            refine ys_getr (n := 62) dX9_findDirections_59 rfl fl_X9_15 sh_136 rfl ?_
            refine ys_callvv (n := 65) (N := mt_X6_add) dX9_findDirections_62 rfl ok_X6_add tw_543 im_X6_add se_X6_add ⟨Nat.le_of_ble_eq_true rfl, Nat.le_of_ble_eq_true rfl⟩ [.ref 138] [] rfl rfl (Nat.le_of_ble_eq_true rfl) rfl (Nat.le_of_ble_eq_true rfl) (en_X6_add m b1 hb1 q11.2) (bp_s hb1) (by decide) rfl (fun q12 => ?_)
            exact xs_gf (xs_end (kj7 (q12.2))) (And.intro rfl (And.intro rfl (And.intro rfl (And.intro rfl (And.intro rfl trivial)))))
theorem el_X9_findDirections_14 (m : Nat) (b1 : Nat) (c2 : Int32) (hb1 : b1 < 5) (K : Int32 × xm_Y → Option (Unit × xm_Y)) (kE : ∀ q : Int32 × xm_Y, xs_ (fun _ : Unit => none) sg_0 mt_X9_findDirections 77 [some (.ref 136), some (.ref (6 + 24 * b1)), some (.int c2), none, none] [] q.2 0 0 (K q)) : ∀ (n : Nat) (l3 : Int32) (u0 : xm_Y), xs_ (fun _ : Unit => none) sg_0 mt_X9_findDirections 14 [some (.ref 136), some (.ref (6 + 24 * b1)), some (.int c2), some (.int l3), none] [] u0 0 0 ((lp_X9_findDirections_14 m b1 c2 n l3 u0).bind K) := by
  intro n
  induction n with
  | zero =>
    intro l3 u0
    exact xs_none
  | succ n ih =>
    intro l3 u0
    rw [lp_X9_findDirections_14]
    refine xs_iload_n (n := 15) dX9_findDirections_14 rfl rfl ?_
    refine xs_aload_n (n := 16) dX9_findDirections_15 rfl rfl ?_
    refine ys_geti (n := 19) dX9_findDirections_16 rfl fl_X9_48 (Or.inl rfl) sh_136 ?_
    refine xs_icmp_ge (n := 22) (tgt := 77) dX9_findDirections_19 rfl rfl (fun hc3 => ?_) (fun hc3 => ?_)
    · exact xs_gf (xs_end (kE (l3, u0))) (And.intro rfl (And.intro rfl (And.intro rfl trivial)))
    · refine xs_iconst (n := 23) (v := (-1 : Int32)) dX9_findDirections_22 rfl rfl ?_
      refine xs_istore (n := 25) (lv' := [some (.ref 136), some (.ref (6 + 24 * b1)), some (.int c2), some (.int l3), some (.int (-1 : Int32))]) dX9_findDirections_23 rfl (Nat.le_of_ble_eq_true rfl) rfl ?_
      refine xs_reg ?_
      refine xs_fg (lv' := [some (.ref 136), some (.ref (6 + 24 * b1)), some (.int c2), some (.int l3), some (.int (-1 : Int32))]) (And.intro rfl (And.intro rfl (And.intro rfl (And.intro rfl (And.intro rfl trivial))))) ?_
      refine el_X9_findDirections_25 m b1 c2 l3 hb1 _ (fun q14 => ?_) m (-1 : Int32) u0
      refine xs_iincl (n := 74) (dv := (1 : Int32)) (fun v15 => [some (.ref 136), some (.ref (6 + 24 * b1)), some (.int c2), some (.int v15), none]) dX9_findDirections_71 rfl rfl rfl (Nat.le_of_ble_eq_true rfl) (fun _ => rfl) (fun v15 => ?_)
      refine xs_goto (n := 14) dX9_findDirections_74 rfl ?_
      exact xs_gf (ih v15 q14.2) (And.intro rfl (And.intro rfl (And.intro rfl (And.intro rfl trivial))))
theorem el_X9_findDirections_2 (m : Nat) (b1 : Nat) (hb1 : b1 < 5) (K : Int32 × xm_Y → Option (Unit × xm_Y)) (kE : ∀ q : Int32 × xm_Y, xs_ (fun _ : Unit => none) sg_0 mt_X9_findDirections 83 [none, none, none, none, none] [] q.2 0 0 (K q)) : ∀ (n : Nat) (l2 : Int32) (u0 : xm_Y), xs_ (fun _ : Unit => none) sg_0 mt_X9_findDirections 2 [some (.ref 136), some (.ref (6 + 24 * b1)), some (.int l2), none, none] [] u0 0 0 ((lp_X9_findDirections_2 m b1 n l2 u0).bind K) := by
  intro n
  induction n with
  | zero =>
    intro l2 u0
    exact xs_none
  | succ n ih =>
    intro l2 u0
    rw [lp_X9_findDirections_2]
    refine xs_iload_n (n := 3) dX9_findDirections_2 rfl rfl ?_
    refine xs_aload_n (n := 4) dX9_findDirections_3 rfl rfl ?_
    refine ys_geti (n := 7) dX9_findDirections_4 rfl fl_X9_48 (Or.inl rfl) sh_136 ?_
    refine xs_icmp_ge (n := 10) (tgt := 83) dX9_findDirections_7 rfl rfl (fun hc1 => ?_) (fun hc1 => ?_)
    · exact xs_gf (xs_end (kE (l2, u0))) trivial
    · refine xs_iload_n (n := 11) dX9_findDirections_10 rfl rfl ?_
      refine xs_iconst (n := 12) (v := (1 : Int32)) dX9_findDirections_11 rfl rfl ?_
      refine xs_iadd (n := 13) dX9_findDirections_12 rfl ?_
      refine xs_leti (fun v2 => ?_)
      refine xs_istore_n (n := 14) (lv' := [some (.ref 136), some (.ref (6 + 24 * b1)), some (.int l2), some (.int v2), none]) dX9_findDirections_13 rfl (Nat.le_of_ble_eq_true rfl) rfl ?_
      refine xs_reg ?_
      refine xs_fg (lv' := [some (.ref 136), some (.ref (6 + 24 * b1)), some (.int l2), some (.int v2), none]) (And.intro rfl (And.intro rfl (And.intro rfl (And.intro rfl trivial)))) ?_
      refine el_X9_findDirections_14 m b1 l2 hb1 _ (fun q16 => ?_) m v2 u0
      refine xs_iincl (n := 80) (dv := (1 : Int32)) (fun v17 => [some (.ref 136), some (.ref (6 + 24 * b1)), some (.int v17), none, none]) dX9_findDirections_77 rfl rfl rfl (Nat.le_of_ble_eq_true rfl) (fun _ => rfl) (fun v17 => ?_)
      refine xs_goto (n := 2) dX9_findDirections_80 rfl ?_
      exact xs_gf (ih v17 q16.2) (And.intro rfl (And.intro rfl (And.intro rfl trivial)))
theorem en_X9_findDirections (m : Nat) (bb : Nat) (hb : bb < 5) (u0 : xm_Y) : xs_ (fun _ : Unit => none) sg_0 mt_X9_findDirections 0 [some (.ref 136), some (.ref (6 + 24 * bb)), none, none, none] [] u0 0 0 (fn_X9_findDirections m bb u0) := by
  refine xs_top ?_
  rw [fn_X9_findDirections]
  refine xs_iconst (n := 1) (v := (0 : Int32)) dX9_findDirections_0 rfl rfl ?_
  refine xs_istore_n (n := 2) (lv' := [some (.ref 136), some (.ref (6 + 24 * bb)), some (.int (0 : Int32)), none, none]) dX9_findDirections_1 rfl (Nat.le_of_ble_eq_true rfl) rfl ?_
  refine xs_reg ?_
  refine xs_fg (lv' := [some (.ref 136), some (.ref (6 + 24 * bb)), some (.int (0 : Int32)), none, none]) (And.intro rfl (And.intro rfl (And.intro rfl trivial))) ?_
  refine el_X9_findDirections_2 m bb hb _ (fun q18 => ?_) m (0 : Int32) u0
  exact xs_vret dX9_findDirections_83 rfl rfl
