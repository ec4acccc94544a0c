def lp_X12_ring_16 (m : Nat) : Nat → Int32 → xm_Y → Option (Int32 × xm_Y)
  | 0, _, _ => none
  | n + 1, l2, u0 =>
  if (32768) ≤ l2 then (
  some (l2, u0)) else (
  xm_chk (xm_in l2 32768) (xm_let (w_I u0 166 (Int32.toNatClampNeg l2) (0)) fun u4 =>
  xm_let (α := Int32) (l2 + (1)) fun v5 =>
  lp_X12_ring_16 m n v5 u4))
def lp_X12_ring_37 (m : Nat) : Nat → Int32 → xm_Y → Option (Int32 × xm_Y)
  | 0, _, _ => none
  | n + 1, l2, u0 =>
  if (3) ≤ l2 then (
  some (l2, u0)) else (
  xm_chk (xm_in l2 3) (
  xm_chk (xm_in l2 3) (xm_let (w_J u0 167 (Int32.toNatClampNeg l2) (u0.2 154 (Int32.toNatClampNeg l2))) fun u8 =>
  xm_let (α := Int32) (l2 + (1)) fun v9 =>
  lp_X12_ring_37 m n v9 u8)))
def lp_X12_ring_72 (m : Nat) (c1 : Int32) : Nat → Int32 → xm_Y → Option ((Int32 × xm_Y) ⊕ (Int32 × xm_Y))
  | 0, _, _ => none
  | n + 1, l3, u0 =>
  if c1 < l3 then (
  some (.inr (l3, u0))) else (
  ((fn_X12_turnFrom m 167 u0).bind fun q13 =>
  if q13.1 = (1) then (
  ((fn_X12_keep m l3 q13.2).bind fun q15 =>
  if q15.1 < 0 then (
  xm_let (α := Int32) (l3 + (1)) fun v17 =>
  lp_X12_ring_72 m c1 n v17 q15.2) else (
  xm_let (w_I q15.2 150 26 q15.1) fun u18 =>
  some (.inl ((l3 - q15.1), u18))))) else (
  some (.inl (q13.1, q13.2)))))
def fn_X12_ring (m : Nat) (x0 : Int32) (u0 : xm_Y) : Option (Int32 × xm_Y) :=
  if x0 < (1) then (
  some ((-1), u0)) else (
  if x0 ≤ (10000) then (
  ((lp_X12_ring_16 m m (0) u0).bind fun q6 =>
  ((lp_X12_ring_37 m m (0) q6.2).bind fun q10 =>
  ((fn_X12_keep m (0) q10.2).bind fun q11 =>
  ((lp_X12_ring_72 m x0 m (1) q11.2).bind (Sum.elim (fun r => some r) (fun q19 =>
  some ((0), q19.2)))))))) else (
  some ((-1), u0)))
theorem el_X12_ring_16 (m : Nat) (c1 : Int32) (K : Int32 × xm_Y → Option (Int32 × xm_Y)) (kE : ∀ q : Int32 × xm_Y, xs_ (fun x : Int32 => some (.int x)) sg_0 mt_X12_ring 35 [some (.ref 150), some (.int c1), none, none, none] [] q.2 0 0 (K q)) : ∀ (n : Nat) (l2 : Int32) (u0 : xm_Y), xs_ (fun x : Int32 => some (.int x)) sg_0 mt_X12_ring 16 [some (.ref 150), some (.int c1), some (.int l2), none, none] [] u0 0 0 ((lp_X12_ring_16 m n l2 u0).bind K) := by
  intro n
  induction n with
  | zero =>
    intro l2 u0
    exact xs_none
  | succ n ih =>
    intro l2 u0
    rw [lp_X12_ring_16]
    refine xs_iload_n (n := 17) dX12_ring_16 rfl rfl ?_
    refine xs_ldc (n := 19) (v := (32768)) dX12_ring_17 rfl tw_867 ?_
    refine xs_icmp_ge (n := 22) (tgt := 35) dX12_ring_19 rfl rfl (fun hc3 => ?_) (fun hc3 => ?_)
    · exact xs_gf (kE (l2, u0)) (And.intro rfl (And.intro rfl trivial))
    · refine xs_aload_n (n := 23) dX12_ring_22 rfl rfl ?_
      refine ys_getr (n := 26) dX12_ring_23 rfl fl_X12_62 sh_150 rfl ?_
      refine xs_iload_n (n := 27) dX12_ring_26 rfl rfl ?_
      refine xs_iconst (n := 28) (v := (0)) dX12_ring_27 rfl rfl ?_
      refine ys_iastore (n := 29) dX12_ring_28 rfl sh_166 (fun u4 => ?_)
      refine xs_iincl (n := 32) (dv := (1)) (fun v5 => [some (.ref 150), some (.int c1), some (.int v5), none, none]) dX12_ring_29 rfl rfl rfl (Nat.le_of_ble_eq_true rfl) (fun _ => rfl) (fun v5 => ?_)
      refine xs_goto (n := 16) dX12_ring_32 rfl ?_
      exact xs_gf (ih v5 u4) (And.intro rfl (And.intro rfl (And.intro rfl trivial)))
theorem el_X12_ring_37 (m : Nat) (c1 : Int32) (K : Int32 × xm_Y → Option (Int32 × xm_Y)) (kE : ∀ q : Int32 × xm_Y, xs_ (fun x : Int32 => some (.int x)) sg_0 mt_X12_ring 60 [some (.ref 150), some (.int c1), none, none, none] [] q.2 0 0 (K q)) : ∀ (n : Nat) (l2 : Int32) (u0 : xm_Y), xs_ (fun x : Int32 => some (.int x)) sg_0 mt_X12_ring 37 [some (.ref 150), some (.int c1), some (.int l2), none, none] [] u0 0 0 ((lp_X12_ring_37 m n l2 u0).bind K) := by
  intro n
  induction n with
  | zero =>
    intro l2 u0
    exact xs_none
  | succ n ih =>
    intro l2 u0
    rw [lp_X12_ring_37]
    refine xs_iload_n (n := 38) dX12_ring_37 rfl rfl ?_
    refine xs_iconst (n := 39) (v := (3)) dX12_ring_38 rfl rfl ?_
    refine xs_icmp_ge (n := 42) (tgt := 60) dX12_ring_39 rfl rfl (fun hc7 => ?_) (fun hc7 => ?_)
    · exact xs_gf (kE (l2, u0)) (And.intro rfl (And.intro rfl trivial))
    · refine xs_aload_n (n := 43) dX12_ring_42 rfl rfl ?_
      refine ys_getr (n := 46) dX12_ring_43 rfl fl_X12_68 sh_150 rfl ?_
      refine xs_iload_n (n := 47) dX12_ring_46 rfl rfl ?_
      refine xs_aload_n (n := 48) dX12_ring_47 rfl rfl ?_
      refine ys_getr (n := 51) dX12_ring_48 rfl fl_X12_23 sh_150 rfl ?_
      refine xs_iload_n (n := 52) dX12_ring_51 rfl rfl ?_
      refine ys_laload (n := 53) dX12_ring_52 rfl sh_154 ?_
      refine ys_lastore (n := 54) dX12_ring_53 rfl sh_167 (fun u8 => ?_)
      refine xs_iincl (n := 57) (dv := (1)) (fun v9 => [some (.ref 150), some (.int c1), some (.int v9), none, none]) dX12_ring_54 rfl rfl rfl (Nat.le_of_ble_eq_true rfl) (fun _ => rfl) (fun v9 => ?_)
      refine xs_goto (n := 37) dX12_ring_57 rfl ?_
      exact xs_gf (ih v9 u8) (And.intro rfl (And.intro rfl (And.intro rfl trivial)))
theorem el_X12_ring_72 (m : Nat) (c1 : Int32) (K : (Int32 × xm_Y) ⊕ (Int32 × xm_Y) → Option (Int32 × xm_Y)) (hK : ∀ r, K (.inl r) = some r) (kE : ∀ q : Int32 × xm_Y, xs_ (fun x : Int32 => some (.int x)) sg_0 mt_X12_ring 125 [none, none, none, none, none] [] q.2 0 0 (K (.inr q))) : ∀ (n : Nat) (l3 : Int32) (u0 : xm_Y), xs_ (fun x : Int32 => some (.int x)) sg_0 mt_X12_ring 72 [some (.ref 150), some (.int c1), none, some (.int l3), none] [] u0 0 0 ((lp_X12_ring_72 m c1 n l3 u0).bind K) := by
  intro n
  induction n with
  | zero =>
    intro l3 u0
    exact xs_none
  | succ n ih =>
    intro l3 u0
    rw [lp_X12_ring_72]
    refine xs_iload_n (n := 73) dX12_ring_72 rfl rfl ?_
    refine xs_iload_n (n := 74) dX12_ring_73 rfl rfl ?_
    refine xs_icmp_gt (n := 77) (tgt := 125) dX12_ring_74 rfl rfl (fun hc12 => ?_) (fun hc12 => ?_)
    · exact xs_gf (kE (l3, u0)) trivial
    · refine xs_aload_n (n := 78) dX12_ring_77 rfl rfl ?_
      refine xs_aload_n (n := 79) dX12_ring_78 rfl rfl ?_
      refine ys_getr (n := 82) dX12_ring_79 rfl fl_X12_68 sh_150 rfl ?_
      refine ys_callvi (n := 85) (N := mt_X12_turnFrom) dX12_ring_82 rfl ok_X12_turnFrom tw_1070 im_X12_turnFrom se_X12_turnFrom ⟨Nat.le_of_ble_eq_true rfl, Nat.le_of_ble_eq_true rfl⟩ [.ref 167] [] rfl rfl (Nat.le_of_ble_eq_true rfl) rfl (Nat.le_of_ble_eq_true rfl) (en_X12_turnFrom m 167 sh_167 u0) sh_150 (by decide) rfl (fun q13 => ?_)
      refine xs_istore (n := 87) (lv' := [some (.ref 150), some (.int c1), none, some (.int l3), some (.int q13.1)]) dX12_ring_85 rfl (Nat.le_of_ble_eq_true rfl) rfl ?_
      refine xs_iload (n := 89) dX12_ring_87 rfl rfl ?_
      refine xs_iconst (n := 90) (v := (1)) dX12_ring_89 rfl rfl ?_
      refine xs_icmp_eq (n := 93) (tgt := 96) dX12_ring_90 rfl rfl (fun hc14 => ?_) (fun hc14 => ?_)
      · refine xs_aload_n (n := 97) dX12_ring_96 rfl rfl ?_
        refine xs_aload_n (n := 98) dX12_ring_97 rfl rfl ?_
        refine ys_getr (n := 101) dX12_ring_98 rfl fl_X12_68 sh_150 rfl ?_
        refine xs_iload_n (n := 102) dX12_ring_101 rfl rfl ?_
        refine ys_callvi (n := 105) (N := mt_X12_keep) dX12_ring_102 rfl ok_X12_keep tw_1094 im_X12_keep se_X12_keep ⟨Nat.le_of_ble_eq_true rfl, Nat.le_of_ble_eq_true rfl⟩ [.ref 167, .int l3] [] rfl rfl (Nat.le_of_ble_eq_true rfl) rfl (Nat.le_of_ble_eq_true rfl) (en_X12_keep m l3 q13.2) sh_150 (by decide) rfl (fun q15 => ?_)
        refine xs_istore_n (n := 106) (lv' := [some (.ref 150), some (.int c1), some (.int q15.1), some (.int l3), some (.int q13.1)]) dX12_ring_105 rfl (Nat.le_of_ble_eq_true rfl) rfl ?_
        refine xs_iload_n (n := 107) dX12_ring_106 rfl rfl ?_
        refine xs_if_lt (n := 110) (tgt := 119) dX12_ring_107 rfl rfl (fun hc16 => ?_) (fun hc16 => ?_)
        · refine xs_iincl (n := 122) (dv := (1)) (fun v17 => [some (.ref 150), some (.int c1), some (.int q15.1), some (.int v17), some (.int q13.1)]) dX12_ring_119 rfl rfl rfl (Nat.le_of_ble_eq_true rfl) (fun _ => rfl) (fun v17 => ?_)
          refine xs_goto (n := 72) dX12_ring_122 rfl ?_
          exact xs_gf (ih v17 q15.2) (And.intro rfl (And.intro rfl (And.intro rfl trivial)))
        · refine xs_aload_n (n := 111) dX12_ring_110 rfl rfl ?_
          refine xs_iload_n (n := 112) dX12_ring_111 rfl rfl ?_
          refine ys_puti (n := 115) dX12_ring_112 rfl fl_X12_65 rfl sh_150 (fun u18 => ?_)
          refine xs_iload_n (n := 116) dX12_ring_115 rfl rfl ?_
          refine xs_iload_n (n := 117) dX12_ring_116 rfl rfl ?_
          refine xs_isub (n := 118) dX12_ring_117 rfl ?_
          exact xs_iret dX12_ring_118 rfl (hK _)
      · refine xs_iload (n := 95) dX12_ring_93 rfl rfl ?_
        exact xs_iret dX12_ring_95 rfl (hK _)
theorem en_X12_ring (m : Nat) (x0 : Int32) (u0 : xm_Y) : xs_ (fun x : Int32 => some (.int x)) sg_0 mt_X12_ring 0 [some (.ref 150), some (.int x0), none, none, none] [] u0 0 0 (fn_X12_ring m x0 u0) := by
  refine xs_top ?_
  rw [fn_X12_ring]
  refine xs_iload_n (n := 1) dX12_ring_0 rfl rfl ?_
  refine xs_iconst (n := 2) (v := (1)) dX12_ring_1 rfl rfl ?_
  refine xs_icmp_lt (n := 5) (tgt := 12) dX12_ring_2 rfl rfl (fun hc1 => ?_) (fun hc1 => ?_)
  · refine xs_iconst (n := 13) (v := (-1)) dX12_ring_12 rfl rfl ?_
    exact xs_iret dX12_ring_13 rfl rfl
  · refine xs_iload_n (n := 6) dX12_ring_5 rfl rfl ?_
    refine xs_sipush (n := 9) (v := (10000)) dX12_ring_6 rfl rfl ?_
    refine xs_icmp_le (n := 12) (tgt := 14) dX12_ring_9 rfl rfl (fun hc2 => ?_) (fun hc2 => ?_)
    · refine xs_iconst (n := 15) (v := (0)) dX12_ring_14 rfl rfl ?_
      refine xs_istore_n (n := 16) (lv' := [some (.ref 150), some (.int x0), some (.int (0)), none, none]) dX12_ring_15 rfl (Nat.le_of_ble_eq_true rfl) rfl ?_
      refine xs_reg ?_
      refine xs_fg (lv' := [some (.ref 150), some (.int x0), some (.int (0)), none, none]) (And.intro rfl (And.intro rfl (And.intro rfl trivial))) ?_
      refine el_X12_ring_16 m x0 _ (fun q6 => ?_) m (0) u0
      refine xs_iconst (n := 36) (v := (0)) dX12_ring_35 rfl rfl ?_
      refine xs_istore_n (n := 37) (lv' := [some (.ref 150), some (.int x0), some (.int (0)), none, none]) dX12_ring_36 rfl (Nat.le_of_ble_eq_true rfl) rfl ?_
      refine xs_reg ?_
      refine xs_fg (lv' := [some (.ref 150), some (.int x0), some (.int (0)), none, none]) (And.intro rfl (And.intro rfl (And.intro rfl trivial))) ?_
      refine el_X12_ring_37 m x0 _ (fun q10 => ?_) m (0) q6.2
      refine xs_aload_n (n := 61) dX12_ring_60 rfl rfl ?_
      refine xs_aload_n (n := 62) dX12_ring_61 rfl rfl ?_
      refine ys_getr (n := 65) dX12_ring_62 rfl fl_X12_68 sh_150 rfl ?_
      refine xs_iconst (n := 66) (v := (0)) dX12_ring_65 rfl rfl ?_
      refine ys_callvi (n := 69) (N := mt_X12_keep) dX12_ring_66 rfl ok_X12_keep tw_1094 im_X12_keep se_X12_keep ⟨Nat.le_of_ble_eq_true rfl, Nat.le_of_ble_eq_true rfl⟩ [.ref 167, .int (0)] [] rfl rfl (Nat.le_of_ble_eq_true rfl) rfl (Nat.le_of_ble_eq_true rfl) (en_X12_keep m (0) q10.2) sh_150 (by decide) rfl (fun q11 => ?_)
      refine xs_istore_n (n := 70) (lv' := [some (.ref 150), some (.int x0), some (.int q11.1), none, none]) dX12_ring_69 rfl (Nat.le_of_ble_eq_true rfl) rfl ?_
      refine xs_iconst (n := 71) (v := (1)) dX12_ring_70 rfl rfl ?_
      refine xs_istore_n (n := 72) (lv' := [some (.ref 150), some (.int x0), some (.int q11.1), some (.int (1)), none]) dX12_ring_71 rfl (Nat.le_of_ble_eq_true rfl) rfl ?_
      refine xs_reg ?_
      refine xs_fg (lv' := [some (.ref 150), some (.int x0), none, some (.int (1)), none]) (And.intro rfl (And.intro rfl (And.intro rfl trivial))) ?_
      refine el_X12_ring_72 m x0 _ (fun _ => rfl) (fun q19 => ?_) m (1) q11.2
      refine xs_inr ?_
      refine xs_iconst (n := 126) (v := (0)) dX12_ring_125 rfl rfl ?_
      exact xs_iret dX12_ring_126 rfl rfl
    · refine xs_iconst (n := 13) (v := (-1)) dX12_ring_12 rfl rfl ?_
      exact xs_iret dX12_ring_13 rfl rfl
def fn_X12_ahead (m : Nat) (u0 : xm_Y) : Option (Int32 × xm_Y) :=
  some ((u0.1 150 26), u0)
theorem en_X12_ahead (m : Nat) (u0 : xm_Y) : xs_ (fun x : Int32 => some (.int x)) sg_0 mt_X12_ahead 0 [some (.ref 150)] [] u0 0 0 (fn_X12_ahead m u0) := by
  refine xs_top ?_
  rw [fn_X12_ahead]
  refine xs_aload_n (n := 1) dX12_ahead_0 rfl rfl ?_
  refine ys_geti (n := 4) dX12_ahead_1 rfl fl_X12_65 (Or.inl rfl) sh_150 ?_
  exact xs_iret dX12_ahead_4 rfl rfl
def fn_X12_addSide (m : Nat) (x0 : Int64) (x1 : Int64) (x2 : Int64) (x3 : Int64) (u0 : xm_Y) : Option (Unit × xm_Y) :=
  xm_chk (xm_in ((4) * (u0.1 150 11)) 48) (xm_let (w_J u0 159 (Int32.toNatClampNeg ((4) * (u0.1 150 11))) x0) fun u1 =>
  xm_chk (xm_in (((4) * (u1.1 150 11)) + (1)) 48) (xm_let (w_J u1 159 (Int32.toNatClampNeg (((4) * (u1.1 150 11)) + (1))) x1) fun u2 =>
  xm_chk (xm_in (((4) * (u2.1 150 11)) + (2)) 48) (xm_let (w_J u2 159 (Int32.toNatClampNeg (((4) * (u2.1 150 11)) + (2))) x2) fun u3 =>
  xm_chk (xm_in (((4) * (u3.1 150 11)) + (3)) 48) (xm_let (w_J u3 159 (Int32.toNatClampNeg (((4) * (u3.1 150 11)) + (3))) x3) fun u4 =>
  xm_let (w_I u4 150 11 ((u4.1 150 11) + (1))) fun u5 =>
  some ((), u5)))))
theorem en_X12_addSide (m : Nat) (x0 : Int64) (x1 : Int64) (x2 : Int64) (x3 : Int64) (u0 : xm_Y) : xs_ (fun _ : Unit => none) sg_0 mt_X12_addSide 0 [some (.ref 150), some (.long x0), none, some (.long x1), none, some (.long x2), none, some (.long x3), none] [] u0 0 0 (fn_X12_addSide m x0 x1 x2 x3 u0) := by
  refine xs_top ?_
  rw [fn_X12_addSide]
  refine xs_aload_n (n := 1) dX12_addSide_0 rfl rfl ?_
  refine ys_getr (n := 4) dX12_addSide_1 rfl fl_X12_40 sh_150 rfl ?_
  refine xs_iconst (n := 5) (v := (4)) dX12_addSide_4 rfl rfl ?_
  refine xs_aload_n (n := 6) dX12_addSide_5 rfl rfl ?_
  refine ys_geti (n := 9) dX12_addSide_6 rfl fl_X12_185 (Or.inl rfl) sh_150 ?_
  refine xs_imul (n := 10) dX12_addSide_9 rfl ?_
  refine xs_lload_n (n := 11) dX12_addSide_10 rfl rfl ?_
  refine ys_lastore (n := 12) dX12_addSide_11 rfl sh_159 (fun u1 => ?_)
  refine xs_aload_n (n := 13) dX12_addSide_12 rfl rfl ?_
  refine ys_getr (n := 16) dX12_addSide_13 rfl fl_X12_40 sh_150 rfl ?_
  refine xs_iconst (n := 17) (v := (4)) dX12_addSide_16 rfl rfl ?_
  refine xs_aload_n (n := 18) dX12_addSide_17 rfl rfl ?_
  refine ys_geti (n := 21) dX12_addSide_18 rfl fl_X12_185 (Or.inl rfl) sh_150 ?_
  refine xs_imul (n := 22) dX12_addSide_21 rfl ?_
  refine xs_iconst (n := 23) (v := (1)) dX12_addSide_22 rfl rfl ?_
  refine xs_iadd (n := 24) dX12_addSide_23 rfl ?_
  refine xs_lload_n (n := 25) dX12_addSide_24 rfl rfl ?_
  refine ys_lastore (n := 26) dX12_addSide_25 rfl sh_159 (fun u2 => ?_)
  refine xs_aload_n (n := 27) dX12_addSide_26 rfl rfl ?_
  refine ys_getr (n := 30) dX12_addSide_27 rfl fl_X12_40 sh_150 rfl ?_
  refine xs_iconst (n := 31) (v := (4)) dX12_addSide_30 rfl rfl ?_
  refine xs_aload_n (n := 32) dX12_addSide_31 rfl rfl ?_
  refine ys_geti (n := 35) dX12_addSide_32 rfl fl_X12_185 (Or.inl rfl) sh_150 ?_
  refine xs_imul (n := 36) dX12_addSide_35 rfl ?_
  refine xs_iconst (n := 37) (v := (2)) dX12_addSide_36 rfl rfl ?_
  refine xs_iadd (n := 38) dX12_addSide_37 rfl ?_
  refine xs_lload (n := 40) dX12_addSide_38 rfl rfl ?_
  refine ys_lastore (n := 41) dX12_addSide_40 rfl sh_159 (fun u3 => ?_)
  refine xs_aload_n (n := 42) dX12_addSide_41 rfl rfl ?_
  refine ys_getr (n := 45) dX12_addSide_42 rfl fl_X12_40 sh_150 rfl ?_
  refine xs_iconst (n := 46) (v := (4)) dX12_addSide_45 rfl rfl ?_
  refine xs_aload_n (n := 47) dX12_addSide_46 rfl rfl ?_
  refine ys_geti (n := 50) dX12_addSide_47 rfl fl_X12_185 (Or.inl rfl) sh_150 ?_
  refine xs_imul (n := 51) dX12_addSide_50 rfl ?_
  refine xs_iconst (n := 52) (v := (3)) dX12_addSide_51 rfl rfl ?_
  refine xs_iadd (n := 53) dX12_addSide_52 rfl ?_
  refine xs_lload (n := 55) dX12_addSide_53 rfl rfl ?_
  refine ys_lastore (n := 56) dX12_addSide_55 rfl sh_159 (fun u4 => ?_)
  refine xs_aload_n (n := 57) dX12_addSide_56 rfl rfl ?_
  refine xs_dup (n := 58) dX12_addSide_57 rfl rfl ?_
  refine ys_geti (n := 61) dX12_addSide_58 rfl fl_X12_185 (Or.inl rfl) sh_150 ?_
  refine xs_iconst (n := 62) (v := (1)) dX12_addSide_61 rfl rfl ?_
  refine xs_iadd (n := 63) dX12_addSide_62 rfl ?_
  refine ys_puti (n := 66) dX12_addSide_63 rfl fl_X12_185 rfl sh_150 (fun u5 => ?_)
  exact xs_vret dX12_addSide_66 rfl rfl
def fn_X12_isZero (m : Nat) (x0 : Int32) (u0 : xm_Y) : Option (Int32 × xm_Y) :=
  xm_chk (xm_in ((4) * x0) 48) (
  ((if (u0.2 159 (Int32.toNatClampNeg ((4) * x0))) = (0) then (
  xm_chk (xm_in (((4) * x0) + (1)) 48) (
  if (u0.2 159 (Int32.toNatClampNeg (((4) * x0) + (1)))) = (0) then (
  xm_chk (xm_in (((4) * x0) + (2)) 48) (
  if (u0.2 159 (Int32.toNatClampNeg (((4) * x0) + (2)))) = (0) then (
  some ((1))) else (
  some ((0))))) else (
  some ((0))))) else (
  some ((0))) : Option (Int32)).bind fun q1 =>
  xm_chk (q1 = 0 ∨ q1 = 1) (some (q1, u0))))
theorem en_X12_isZero (m : Nat) (x0 : Int32) (u0 : xm_Y) : xs_ (fun x : Int32 => some (.int x)) sg_0 mt_X12_isZero 0 [some (.ref 150), some (.int x0)] [] u0 0 0 (fn_X12_isZero m x0 u0) := by
  refine xs_top ?_
  rw [fn_X12_isZero]
  refine xs_aload_n (n := 1) dX12_isZero_0 rfl rfl ?_
  refine ys_getr (n := 4) dX12_isZero_1 rfl fl_X12_40 sh_150 rfl ?_
  refine xs_iconst (n := 5) (v := (4)) dX12_isZero_4 rfl rfl ?_
  refine xs_iload_n (n := 6) dX12_isZero_5 rfl rfl ?_
  refine xs_imul (n := 7) dX12_isZero_6 rfl ?_
  refine ys_laload (n := 8) dX12_isZero_7 rfl sh_159 ?_
  refine xs_lconst (n := 9) (v := (0)) dX12_isZero_8 rfl rfl ?_
  refine xs_join 48 (fun q1 => [none, none]) (fun q1 => [.int q1]) (fun q1 => u0) (fun q1 => ?_) (fun kj2 => ?_)
  · exact xs_zret dX12_isZero_48 rfl rfl
  · refine xs_lif_ne (n := 13) (pc1 := 10) (tgt := 47) dX12_isZero_9 rfl dX12_isZero_10 rfl rfl (fun hc3 => ?_) (fun hc3 => ?_)
    · refine xs_aload_n (n := 14) dX12_isZero_13 rfl rfl ?_
      refine ys_getr (n := 17) dX12_isZero_14 rfl fl_X12_40 sh_150 rfl ?_
      refine xs_iconst (n := 18) (v := (4)) dX12_isZero_17 rfl rfl ?_
      refine xs_iload_n (n := 19) dX12_isZero_18 rfl rfl ?_
      refine xs_imul (n := 20) dX12_isZero_19 rfl ?_
      refine xs_iconst (n := 21) (v := (1)) dX12_isZero_20 rfl rfl ?_
      refine xs_iadd (n := 22) dX12_isZero_21 rfl ?_
      refine ys_laload (n := 23) dX12_isZero_22 rfl sh_159 ?_
      refine xs_lconst (n := 24) (v := (0)) dX12_isZero_23 rfl rfl ?_
      refine xs_lif_ne (n := 28) (pc1 := 25) (tgt := 47) dX12_isZero_24 rfl dX12_isZero_25 rfl rfl (fun hc4 => ?_) (fun hc4 => ?_)
      · refine xs_aload_n (n := 29) dX12_isZero_28 rfl rfl ?_
        refine ys_getr (n := 32) dX12_isZero_29 rfl fl_X12_40 sh_150 rfl ?_
        refine xs_iconst (n := 33) (v := (4)) dX12_isZero_32 rfl rfl ?_
        refine xs_iload_n (n := 34) dX12_isZero_33 rfl rfl ?_
        refine xs_imul (n := 35) dX12_isZero_34 rfl ?_
        refine xs_iconst (n := 36) (v := (2)) dX12_isZero_35 rfl rfl ?_
        refine xs_iadd (n := 37) dX12_isZero_36 rfl ?_
        refine ys_laload (n := 38) dX12_isZero_37 rfl sh_159 ?_
        refine xs_lconst (n := 39) (v := (0)) dX12_isZero_38 rfl rfl ?_
        refine xs_lif_ne (n := 43) (pc1 := 40) (tgt := 47) dX12_isZero_39 rfl dX12_isZero_40 rfl rfl (fun hc5 => ?_) (fun hc5 => ?_)
        · refine xs_iconst (n := 44) (v := (1)) dX12_isZero_43 rfl rfl ?_
          refine xs_goto (n := 48) dX12_isZero_44 rfl ?_
          exact xs_gf (kj2 ((1))) trivial
        · refine xs_iconst (n := 48) (v := (0)) dX12_isZero_47 rfl rfl ?_
          exact xs_gf (kj2 ((0))) trivial
      · refine xs_iconst (n := 48) (v := (0)) dX12_isZero_47 rfl rfl ?_
        exact xs_gf (kj2 ((0))) trivial
    · refine xs_iconst (n := 48) (v := (0)) dX12_isZero_47 rfl rfl ?_
      exact xs_gf (kj2 ((0))) trivial
def fn_X12_cross (m : Nat) (x0 : Int32) (x1 : Int32) (x2 : Int32) (u0 : xm_Y) : Option (Int64 × xm_Y) :=
  xm_chk (¬ (3) = 0) (
  xm_let (α := Int32) (((x2 + (1)) - (x2 + (1)) / (3) * (3))) fun v1 =>
  xm_chk (¬ (3) = 0) (
  xm_let (α := Int32) (((x2 + (2)) - (x2 + (2)) / (3) * (3))) fun v2 =>
  xm_chk (xm_in (((4) * x0) + v1) 48) (
  xm_chk (xm_in (((4) * x1) + v2) 48) (
  xm_chk (xm_in (((4) * x0) + v2) 48) (
  xm_chk (xm_in (((4) * x1) + v1) 48) (
  some ((((u0.2 159 (Int32.toNatClampNeg (((4) * x0) + v1))) * (u0.2 159 (Int32.toNatClampNeg (((4) * x1) + v2)))) - ((u0.2 159 (Int32.toNatClampNeg (((4) * x0) + v2))) * (u0.2 159 (Int32.toNatClampNeg (((4) * x1) + v1))))), u0)))))))
theorem en_X12_cross (m : Nat) (x0 : Int32) (x1 : Int32) (x2 : Int32) (u0 : xm_Y) : xs_ (fun x : Int64 => some (.long x)) sg_0 mt_X12_cross 0 [some (.ref 150), some (.int x0), some (.int x1), some (.int x2), none, none] [] u0 0 0 (fn_X12_cross m x0 x1 x2 u0) := by
  refine xs_top ?_
  rw [fn_X12_cross]
  refine xs_iload_n (n := 1) dX12_cross_0 rfl rfl ?_
  refine xs_iconst (n := 2) (v := (1)) dX12_cross_1 rfl rfl ?_
  refine xs_iadd (n := 3) dX12_cross_2 rfl ?_
  refine xs_iconst (n := 4) (v := (3)) dX12_cross_3 rfl rfl ?_
  refine xs_irem (n := 5) dX12_cross_4 rfl (fun _ => ?_)
  refine xs_leti (fun v1 => ?_)
  refine xs_istore (n := 7) (lv' := [some (.ref 150), some (.int x0), some (.int x1), some (.int x2), some (.int v1), none]) dX12_cross_5 rfl (Nat.le_of_ble_eq_true rfl) rfl ?_
  refine xs_iload_n (n := 8) dX12_cross_7 rfl rfl ?_
  refine xs_iconst (n := 9) (v := (2)) dX12_cross_8 rfl rfl ?_
  refine xs_iadd (n := 10) dX12_cross_9 rfl ?_
  refine xs_iconst (n := 11) (v := (3)) dX12_cross_10 rfl rfl ?_
  refine xs_irem (n := 12) dX12_cross_11 rfl (fun _ => ?_)
  refine xs_leti (fun v2 => ?_)
  refine xs_istore (n := 14) (lv' := [some (.ref 150), some (.int x0), some (.int x1), some (.int x2), some (.int v1), some (.int v2)]) dX12_cross_12 rfl (Nat.le_of_ble_eq_true rfl) rfl ?_
  refine xs_aload_n (n := 15) dX12_cross_14 rfl rfl ?_
  refine ys_getr (n := 18) dX12_cross_15 rfl fl_X12_40 sh_150 rfl ?_
  refine xs_iconst (n := 19) (v := (4)) dX12_cross_18 rfl rfl ?_
  refine xs_iload_n (n := 20) dX12_cross_19 rfl rfl ?_
  refine xs_imul (n := 21) dX12_cross_20 rfl ?_
  refine xs_iload (n := 23) dX12_cross_21 rfl rfl ?_
  refine xs_iadd (n := 24) dX12_cross_23 rfl ?_
  refine ys_laload (n := 25) dX12_cross_24 rfl sh_159 ?_
  refine xs_aload_n (n := 26) dX12_cross_25 rfl rfl ?_
  refine ys_getr (n := 29) dX12_cross_26 rfl fl_X12_40 sh_150 rfl ?_
  refine xs_iconst (n := 30) (v := (4)) dX12_cross_29 rfl rfl ?_
  refine xs_iload_n (n := 31) dX12_cross_30 rfl rfl ?_
  refine xs_imul (n := 32) dX12_cross_31 rfl ?_
  refine xs_iload (n := 34) dX12_cross_32 rfl rfl ?_
  refine xs_iadd (n := 35) dX12_cross_34 rfl ?_
  refine ys_laload (n := 36) dX12_cross_35 rfl sh_159 ?_
  refine xs_lmul (n := 37) dX12_cross_36 rfl ?_
  refine xs_aload_n (n := 38) dX12_cross_37 rfl rfl ?_
  refine ys_getr (n := 41) dX12_cross_38 rfl fl_X12_40 sh_150 rfl ?_
  refine xs_iconst (n := 42) (v := (4)) dX12_cross_41 rfl rfl ?_
  refine xs_iload_n (n := 43) dX12_cross_42 rfl rfl ?_
  refine xs_imul (n := 44) dX12_cross_43 rfl ?_
  refine xs_iload (n := 46) dX12_cross_44 rfl rfl ?_
  refine xs_iadd (n := 47) dX12_cross_46 rfl ?_
  refine ys_laload (n := 48) dX12_cross_47 rfl sh_159 ?_
  refine xs_aload_n (n := 49) dX12_cross_48 rfl rfl ?_
  refine ys_getr (n := 52) dX12_cross_49 rfl fl_X12_40 sh_150 rfl ?_
  refine xs_iconst (n := 53) (v := (4)) dX12_cross_52 rfl rfl ?_
  refine xs_iload_n (n := 54) dX12_cross_53 rfl rfl ?_
  refine xs_imul (n := 55) dX12_cross_54 rfl ?_
  refine xs_iload (n := 57) dX12_cross_55 rfl rfl ?_
  refine xs_iadd (n := 58) dX12_cross_57 rfl ?_
  refine ys_laload (n := 59) dX12_cross_58 rfl sh_159 ?_
  refine xs_lmul (n := 60) dX12_cross_59 rfl ?_
  refine xs_lsub (n := 61) dX12_cross_60 rfl ?_
  exact xs_lret dX12_cross_61 rfl rfl
def fn_X12_areParallel (m : Nat) (x0 : Int32) (x1 : Int32) (u0 : xm_Y) : Option (Int32 × xm_Y) :=
  ((fn_X12_cross m x0 x1 (0) u0).bind fun q1 =>
  ((if q1.1 = (0) then (
  ((fn_X12_cross m x0 x1 (1) q1.2).bind fun q5 =>
  if q5.1 = (0) then (
  ((fn_X12_cross m x0 x1 (2) q5.2).bind fun q7 =>
  if q7.1 = (0) then (
  some ((1), q7.2)) else (
  some ((0), q7.2)))) else (
  some ((0), q5.2)))) else (
  some ((0), q1.2)) : Option (Int32 × xm_Y)).bind fun q2 =>
  xm_chk (q2.1 = 0 ∨ q2.1 = 1) (some (q2.1, q2.2))))
theorem en_X12_areParallel (m : Nat) (x0 : Int32) (x1 : Int32) (u0 : xm_Y) : xs_ (fun x : Int32 => some (.int x)) sg_0 mt_X12_areParallel 0 [some (.ref 150), some (.int x0), some (.int x1)] [] u0 0 0 (fn_X12_areParallel m x0 x1 u0) := by
  refine xs_top ?_
  rw [fn_X12_areParallel]
  refine xs_aload_n (n := 1) dX12_areParallel_0 rfl rfl ?_
  refine xs_iload_n (n := 2) dX12_areParallel_1 rfl rfl ?_
  refine xs_iload_n (n := 3) dX12_areParallel_2 rfl rfl ?_
  refine xs_iconst (n := 4) (v := (0)) dX12_areParallel_3 rfl rfl ?_
  refine ys_callvl (n := 7) (N := mt_X12_cross) dX12_areParallel_4 rfl ok_X12_cross tw_1142 im_X12_cross se_X12_cross ⟨Nat.le_of_ble_eq_true rfl, Nat.le_of_ble_eq_true rfl⟩ [.int x0, .int x1, .int (0)] [] rfl rfl (Nat.le_of_ble_eq_true rfl) rfl (Nat.le_of_ble_eq_true rfl) (en_X12_cross m x0 x1 (0) u0) sh_150 (by decide) rfl (fun q1 => ?_)
  refine xs_lconst (n := 8) (v := (0)) dX12_areParallel_7 rfl rfl ?_
  refine xs_join 41 (fun q2 => [none, none, none]) (fun q2 => [.int q2.1]) (fun q2 => q2.2) (fun q2 => ?_) (fun kj3 => ?_)
  · exact xs_zret dX12_areParallel_41 rfl rfl
  · refine xs_lif_ne (n := 12) (pc1 := 9) (tgt := 40) dX12_areParallel_8 rfl dX12_areParallel_9 rfl rfl (fun hc4 => ?_) (fun hc4 => ?_)
    · refine xs_aload_n (n := 13) dX12_areParallel_12 rfl rfl ?_
      refine xs_iload_n (n := 14) dX12_areParallel_13 rfl rfl ?_
      refine xs_iload_n (n := 15) dX12_areParallel_14 rfl rfl ?_
      refine xs_iconst (n := 16) (v := (1)) dX12_areParallel_15 rfl rfl ?_
      refine ys_callvl (n := 19) (N := mt_X12_cross) dX12_areParallel_16 rfl ok_X12_cross tw_1142 im_X12_cross se_X12_cross ⟨Nat.le_of_ble_eq_true rfl, Nat.le_of_ble_eq_true rfl⟩ [.int x0, .int x1, .int (1)] [] rfl rfl (Nat.le_of_ble_eq_true rfl) rfl (Nat.le_of_ble_eq_true rfl) (en_X12_cross m x0 x1 (1) q1.2) sh_150 (by decide) rfl (fun q5 => ?_)
      refine xs_lconst (n := 20) (v := (0)) dX12_areParallel_19 rfl rfl ?_
      refine xs_lif_ne (n := 24) (pc1 := 21) (tgt := 40) dX12_areParallel_20 rfl dX12_areParallel_21 rfl rfl (fun hc6 => ?_) (fun hc6 => ?_)
      · refine xs_aload_n (n := 25) dX12_areParallel_24 rfl rfl ?_
        refine xs_iload_n (n := 26) dX12_areParallel_25 rfl rfl ?_
        refine xs_iload_n (n := 27) dX12_areParallel_26 rfl rfl ?_
        refine xs_iconst (n := 28) (v := (2)) dX12_areParallel_27 rfl rfl ?_
        refine ys_callvl (n := 31) (N := mt_X12_cross) dX12_areParallel_28 rfl ok_X12_cross tw_1142 im_X12_cross se_X12_cross ⟨Nat.le_of_ble_eq_true rfl, Nat.le_of_ble_eq_true rfl⟩ [.int x0, .int x1, .int (2)] [] rfl rfl (Nat.le_of_ble_eq_true rfl) rfl (Nat.le_of_ble_eq_true rfl) (en_X12_cross m x0 x1 (2) q5.2) sh_150 (by decide) rfl (fun q7 => ?_)
        refine xs_lconst (n := 32) (v := (0)) dX12_areParallel_31 rfl rfl ?_
        refine xs_lif_ne (n := 36) (pc1 := 33) (tgt := 40) dX12_areParallel_32 rfl dX12_areParallel_33 rfl rfl (fun hc8 => ?_) (fun hc8 => ?_)
        · refine xs_iconst (n := 37) (v := (1)) dX12_areParallel_36 rfl rfl ?_
          refine xs_goto (n := 41) dX12_areParallel_37 rfl ?_
          exact xs_gf (kj3 ((1), q7.2)) trivial
        · refine xs_iconst (n := 41) (v := (0)) dX12_areParallel_40 rfl rfl ?_
          exact xs_gf (kj3 ((0), q7.2)) trivial
      · refine xs_iconst (n := 41) (v := (0)) dX12_areParallel_40 rfl rfl ?_
        exact xs_gf (kj3 ((0), q5.2)) trivial
    · refine xs_iconst (n := 41) (v := (0)) dX12_areParallel_40 rfl rfl ?_
      exact xs_gf (kj3 ((0), q1.2)) trivial
def lp_X12_twoLeaveNothing_29 (m : Nat) (c1 : Int32) (u0 : xm_Y) : Nat → Int32 → Option (Int32)
  | 0, _ => none
  | n + 1, l3 =>
  xm_chk (xm_in (((4) * c1) + l3) 48) (
  if (u0.2 159 (Int32.toNatClampNeg (((4) * c1) + l3))) = (0) then (
  xm_let (α := Int32) (l3 + (1)) fun v8 =>
  lp_X12_twoLeaveNothing_29 m c1 u0 n v8) else (
  some (l3)))
def fn_X12_twoLeaveNothing (m : Nat) (x0 : Int32) (x1 : Int32) (u0 : xm_Y) : Option (Int32 × xm_Y) :=
  ((fn_X12_isZero m x0 u0).bind fun q1 =>
  if q1.1 = 0 then (
  ((fn_X12_isZero m x1 q1.2).bind fun q3 =>
  if q3.1 = 0 then (
  ((fn_X12_areParallel m x0 x1 q3.2).bind fun q5 =>
  if q5.1 = 0 then (
  some ((0), q5.2)) else (
  ((lp_X12_twoLeaveNothing_29 m x0 q5.2 m (0)).bind fun q9 =>
  xm_chk (xm_in (((4) * x0) + q9) 48) (
  xm_let (α := Int64) ((q5.2.2 159 (Int32.toNatClampNeg (((4) * x0) + q9)))) fun v10 =>
  xm_chk (xm_in (((4) * x1) + q9) 48) (
  xm_let (α := Int64) ((q5.2.2 159 (Int32.toNatClampNeg (((4) * x1) + q9)))) fun v11 =>
  ((if v10 ≤ (0) then (
  some ((0))) else (
  some ((1))) : Option (Int32)).bind fun q12 =>
  ((if v11 ≤ (0) then (
  some ((0))) else (
  some ((1))) : Option (Int32)).bind fun q15 =>
  if q12 = q15 then (
  some ((0), q5.2)) else (
  ((fn_J9_abs_067f4 m v11 q5.2).bind fun q19 =>
  xm_chk (xm_in (((4) * x0) + (3)) 48) (
  ((fn_J9_abs_067f4 m v10 q19.2).bind fun q20 =>
  xm_chk (xm_in (((4) * x1) + (3)) 48) (
  ((if ((q19.1 * (q19.2.2 159 (Int32.toNatClampNeg (((4) * x0) + (3))))) + (q20.1 * (q20.2.2 159 (Int32.toNatClampNeg (((4) * x1) + (3)))))) ≤ (0) then (
  some ((0))) else (
  some ((1))) : Option (Int32)).bind fun q21 =>
  xm_chk (q21 = 0 ∨ q21 = 1) (some (q21, q20.2)))))))))))))))) else (
  some ((0), q3.2)))) else (
  some ((0), q1.2)))
theorem el_X12_twoLeaveNothing_29 (m : Nat) (c1 : Int32) (c2 : Int32) (u0 : xm_Y) (K : Int32 → Option (Int32 × xm_Y)) (kE : ∀ q : Int32, xs_ (fun x : Int32 => some (.int x)) sg_0 mt_X12_twoLeaveNothing 50 [some (.ref 150), some (.int c1), some (.int c2), some (.int q), none, none, none, none] [] u0 0 0 (K q)) : ∀ (n : Nat) (l3 : Int32), xs_ (fun x : Int32 => some (.int x)) sg_0 mt_X12_twoLeaveNothing 29 [some (.ref 150), some (.int c1), some (.int c2), some (.int l3), none, none, none, none] [] u0 0 0 ((lp_X12_twoLeaveNothing_29 m c1 u0 n l3).bind K) := by
  intro n
  induction n with
  | zero =>
    intro l3
    exact xs_none
  | succ n ih =>
    intro l3
    rw [lp_X12_twoLeaveNothing_29]
    refine xs_aload_n (n := 30) dX12_twoLeaveNothing_29 rfl rfl ?_
    refine ys_getr (n := 33) dX12_twoLeaveNothing_30 rfl fl_X12_40 sh_150 rfl ?_
    refine xs_iconst (n := 34) (v := (4)) dX12_twoLeaveNothing_33 rfl rfl ?_
    refine xs_iload_n (n := 35) dX12_twoLeaveNothing_34 rfl rfl ?_
    refine xs_imul (n := 36) dX12_twoLeaveNothing_35 rfl ?_
    refine xs_iload_n (n := 37) dX12_twoLeaveNothing_36 rfl rfl ?_
    refine xs_iadd (n := 38) dX12_twoLeaveNothing_37 rfl ?_
    refine ys_laload (n := 39) dX12_twoLeaveNothing_38 rfl sh_159 ?_
    refine xs_lconst (n := 40) (v := (0)) dX12_twoLeaveNothing_39 rfl rfl ?_
    refine xs_lif_ne (n := 44) (pc1 := 41) (tgt := 50) dX12_twoLeaveNothing_40 rfl dX12_twoLeaveNothing_41 rfl rfl (fun hc7 => ?_) (fun hc7 => ?_)
    · refine xs_iincl (n := 47) (dv := (1)) (fun v8 => [some (.ref 150), some (.int c1), some (.int c2), some (.int v8), none, none, none, none]) dX12_twoLeaveNothing_44 rfl rfl rfl (Nat.le_of_ble_eq_true rfl) (fun _ => rfl) (fun v8 => ?_)
      refine xs_goto (n := 29) dX12_twoLeaveNothing_47 rfl ?_
      exact xs_gf (ih v8) (And.intro rfl (And.intro rfl (And.intro rfl (And.intro rfl trivial))))
    · exact xs_gf (kE (l3)) (And.intro rfl (And.intro rfl (And.intro rfl (And.intro rfl trivial))))
theorem en_X12_twoLeaveNothing (m : Nat) (x0 : Int32) (x1 : Int32) (u0 : xm_Y) : xs_ (fun x : Int32 => some (.int x)) sg_0 mt_X12_twoLeaveNothing 0 [some (.ref 150), some (.int x0), some (.int x1), none, none, none, none, none] [] u0 0 0 (fn_X12_twoLeaveNothing m x0 x1 u0) := by
  refine xs_top ?_
  rw [fn_X12_twoLeaveNothing]
  refine xs_aload_n (n := 1) dX12_twoLeaveNothing_0 rfl rfl ?_
  refine xs_iload_n (n := 2) dX12_twoLeaveNothing_1 rfl rfl ?_
  refine ys_callvi (n := 5) (N := mt_X12_isZero) dX12_twoLeaveNothing_2 rfl ok_X12_isZero tw_1130 im_X12_isZero se_X12_isZero ⟨Nat.le_of_ble_eq_true rfl, Nat.le_of_ble_eq_true rfl⟩ [.int x0] [] rfl rfl (Nat.le_of_ble_eq_true rfl) rfl (Nat.le_of_ble_eq_true rfl) (en_X12_isZero m x0 u0) sh_150 (by decide) rfl (fun q1 => ?_)
  refine xs_if_ne (n := 8) (tgt := 25) dX12_twoLeaveNothing_5 rfl rfl (fun hc2 => ?_) (fun hc2 => ?_)
  · refine xs_aload_n (n := 9) dX12_twoLeaveNothing_8 rfl rfl ?_
    refine xs_iload_n (n := 10) dX12_twoLeaveNothing_9 rfl rfl ?_
    refine ys_callvi (n := 13) (N := mt_X12_isZero) dX12_twoLeaveNothing_10 rfl ok_X12_isZero tw_1130 im_X12_isZero se_X12_isZero ⟨Nat.le_of_ble_eq_true rfl, Nat.le_of_ble_eq_true rfl⟩ [.int x1] [] rfl rfl (Nat.le_of_ble_eq_true rfl) rfl (Nat.le_of_ble_eq_true rfl) (en_X12_isZero m x1 q1.2) sh_150 (by decide) rfl (fun q3 => ?_)
    refine xs_if_ne (n := 16) (tgt := 25) dX12_twoLeaveNothing_13 rfl rfl (fun hc4 => ?_) (fun hc4 => ?_)
    · refine xs_aload_n (n := 17) dX12_twoLeaveNothing_16 rfl rfl ?_
      refine xs_iload_n (n := 18) dX12_twoLeaveNothing_17 rfl rfl ?_
      refine xs_iload_n (n := 19) dX12_twoLeaveNothing_18 rfl rfl ?_
      refine ys_callvi (n := 22) (N := mt_X12_areParallel) dX12_twoLeaveNothing_19 rfl ok_X12_areParallel tw_1138 im_X12_areParallel se_X12_areParallel ⟨Nat.le_of_ble_eq_true rfl, Nat.le_of_ble_eq_true rfl⟩ [.int x0, .int x1] [] rfl rfl (Nat.le_of_ble_eq_true rfl) rfl (Nat.le_of_ble_eq_true rfl) (en_X12_areParallel m x0 x1 q3.2) sh_150 (by decide) rfl (fun q5 => ?_)
      refine xs_if_ne (n := 25) (tgt := 27) dX12_twoLeaveNothing_22 rfl rfl (fun hc6 => ?_) (fun hc6 => ?_)
      · refine xs_iconst (n := 26) (v := (0)) dX12_twoLeaveNothing_25 rfl rfl ?_
        exact xs_zretc dX12_twoLeaveNothing_26 rfl (Or.inl rfl) rfl
      · refine xs_iconst (n := 28) (v := (0)) dX12_twoLeaveNothing_27 rfl rfl ?_
        refine xs_istore_n (n := 29) (lv' := [some (.ref 150), some (.int x0), some (.int x1), some (.int (0)), none, none, none, none]) dX12_twoLeaveNothing_28 rfl (Nat.le_of_ble_eq_true rfl) rfl ?_
        refine xs_reg ?_
        refine xs_fg (lv' := [some (.ref 150), some (.int x0), some (.int x1), some (.int (0)), none, none, none, none]) (And.intro rfl (And.intro rfl (And.intro rfl (And.intro rfl trivial)))) ?_
        refine el_X12_twoLeaveNothing_29 m x0 x1 q5.2 _ (fun q9 => ?_) m (0)
        refine xs_aload_n (n := 51) dX12_twoLeaveNothing_50 rfl rfl ?_
        refine ys_getr (n := 54) dX12_twoLeaveNothing_51 rfl fl_X12_40 sh_150 rfl ?_
        refine xs_iconst (n := 55) (v := (4)) dX12_twoLeaveNothing_54 rfl rfl ?_
        refine xs_iload_n (n := 56) dX12_twoLeaveNothing_55 rfl rfl ?_
        refine xs_imul (n := 57) dX12_twoLeaveNothing_56 rfl ?_
        refine xs_iload_n (n := 58) dX12_twoLeaveNothing_57 rfl rfl ?_
        refine xs_iadd (n := 59) dX12_twoLeaveNothing_58 rfl ?_
        refine ys_laload (n := 60) dX12_twoLeaveNothing_59 rfl sh_159 ?_
        refine xs_letl (fun v10 => ?_)
        refine xs_lstore (n := 62) (lv' := [some (.ref 150), some (.int x0), some (.int x1), some (.int q9), some (.long v10), none, none, none]) dX12_twoLeaveNothing_60 rfl (Nat.le_of_ble_eq_true rfl) rfl ?_
        refine xs_aload_n (n := 63) dX12_twoLeaveNothing_62 rfl rfl ?_
        refine ys_getr (n := 66) dX12_twoLeaveNothing_63 rfl fl_X12_40 sh_150 rfl ?_
        refine xs_iconst (n := 67) (v := (4)) dX12_twoLeaveNothing_66 rfl rfl ?_
        refine xs_iload_n (n := 68) dX12_twoLeaveNothing_67 rfl rfl ?_
        refine xs_imul (n := 69) dX12_twoLeaveNothing_68 rfl ?_
        refine xs_iload_n (n := 70) dX12_twoLeaveNothing_69 rfl rfl ?_
        refine xs_iadd (n := 71) dX12_twoLeaveNothing_70 rfl ?_
        refine ys_laload (n := 72) dX12_twoLeaveNothing_71 rfl sh_159 ?_
        refine xs_letl (fun v11 => ?_)
        refine xs_lstore (n := 74) (lv' := [some (.ref 150), some (.int x0), some (.int x1), some (.int q9), some (.long v10), none, some (.long v11), none]) dX12_twoLeaveNothing_72 rfl (Nat.le_of_ble_eq_true rfl) rfl ?_
        refine xs_lload (n := 76) dX12_twoLeaveNothing_74 rfl rfl ?_
        refine xs_lconst (n := 77) (v := (0)) dX12_twoLeaveNothing_76 rfl rfl ?_
        refine xs_join 86 (fun q12 => [some (.ref 150), some (.int x0), some (.int x1), none, some (.long v10), none, some (.long v11), none]) (fun q12 => [.int q12]) (fun q12 => q5.2) (fun q12 => ?_) (fun kj13 => ?_)
        · refine xs_lload (n := 88) dX12_twoLeaveNothing_86 rfl rfl ?_
          refine xs_lconst (n := 89) (v := (0)) dX12_twoLeaveNothing_88 rfl rfl ?_
          refine xs_join 98 (fun q15 => [some (.ref 150), some (.int x0), some (.int x1), none, some (.long v10), none, some (.long v11), none]) (fun q15 => [.int q15, .int q12]) (fun q15 => q5.2) (fun q15 => ?_) (fun kj16 => ?_)
          · refine xs_icmp_ne (n := 101) (tgt := 103) dX12_twoLeaveNothing_98 rfl rfl (fun hc18 => ?_) (fun hc18 => ?_)
            · refine xs_iconst (n := 102) (v := (0)) dX12_twoLeaveNothing_101 rfl rfl ?_
              exact xs_zretc dX12_twoLeaveNothing_102 rfl (Or.inl rfl) rfl
            · refine xs_lload (n := 105) dX12_twoLeaveNothing_103 rfl rfl ?_
              refine ys_callsl (n := 108) (N := mt_J9_abs_067f4) dX12_twoLeaveNothing_105 rfl ok_J9_abs_067f4 tw_1146 st_J9_abs_067f4 ⟨Nat.le_of_ble_eq_true rfl, Nat.le_of_ble_eq_true rfl⟩ [.long v11] [] rfl rfl (Nat.le_of_ble_eq_true rfl) rfl (Nat.le_of_ble_eq_true rfl) (en_J9_abs_067f4 m v11 q5.2) (fun q19 => ?_)
              refine xs_aload_n (n := 109) dX12_twoLeaveNothing_108 rfl rfl ?_
              refine ys_getr (n := 112) dX12_twoLeaveNothing_109 rfl fl_X12_40 sh_150 rfl ?_
              refine xs_iconst (n := 113) (v := (4)) dX12_twoLeaveNothing_112 rfl rfl ?_
              refine xs_iload_n (n := 114) dX12_twoLeaveNothing_113 rfl rfl ?_
              refine xs_imul (n := 115) dX12_twoLeaveNothing_114 rfl ?_
              refine xs_iconst (n := 116) (v := (3)) dX12_twoLeaveNothing_115 rfl rfl ?_
              refine xs_iadd (n := 117) dX12_twoLeaveNothing_116 rfl ?_
              refine ys_laload (n := 118) dX12_twoLeaveNothing_117 rfl sh_159 ?_
              refine xs_lmul (n := 119) dX12_twoLeaveNothing_118 rfl ?_
              refine xs_lload (n := 121) dX12_twoLeaveNothing_119 rfl rfl ?_
              refine ys_callsl (n := 124) (N := mt_J9_abs_067f4) dX12_twoLeaveNothing_121 rfl ok_J9_abs_067f4 tw_1146 st_J9_abs_067f4 ⟨Nat.le_of_ble_eq_true rfl, Nat.le_of_ble_eq_true rfl⟩ [.long v10] [.long (q19.1 * (q19.2.2 159 (Int32.toNatClampNeg (((4) * x0) + (3)))))] rfl rfl (Nat.le_of_ble_eq_true rfl) rfl (Nat.le_of_ble_eq_true rfl) (en_J9_abs_067f4 m v10 q19.2) (fun q20 => ?_)
              refine xs_aload_n (n := 125) dX12_twoLeaveNothing_124 rfl rfl ?_
              refine ys_getr (n := 128) dX12_twoLeaveNothing_125 rfl fl_X12_40 sh_150 rfl ?_
              refine xs_iconst (n := 129) (v := (4)) dX12_twoLeaveNothing_128 rfl rfl ?_
              refine xs_iload_n (n := 130) dX12_twoLeaveNothing_129 rfl rfl ?_
              refine xs_imul (n := 131) dX12_twoLeaveNothing_130 rfl ?_
              refine xs_iconst (n := 132) (v := (3)) dX12_twoLeaveNothing_131 rfl rfl ?_
              refine xs_iadd (n := 133) dX12_twoLeaveNothing_132 rfl ?_
              refine ys_laload (n := 134) dX12_twoLeaveNothing_133 rfl sh_159 ?_
              refine xs_lmul (n := 135) dX12_twoLeaveNothing_134 rfl ?_
              refine xs_ladd (n := 136) dX12_twoLeaveNothing_135 rfl ?_
              refine xs_lconst (n := 137) (v := (0)) dX12_twoLeaveNothing_136 rfl rfl ?_
              refine xs_join 146 (fun q21 => [none, none, none, none, none, none, none, none]) (fun q21 => [.int q21]) (fun q21 => q20.2) (fun q21 => ?_) (fun kj22 => ?_)
              · exact xs_zret dX12_twoLeaveNothing_146 rfl rfl
              · refine xs_lif_le (n := 141) (pc1 := 138) (tgt := 145) dX12_twoLeaveNothing_137 rfl dX12_twoLeaveNothing_138 rfl rfl (fun hc23 => ?_) (fun hc23 => ?_)
                · refine xs_iconst (n := 146) (v := (0)) dX12_twoLeaveNothing_145 rfl rfl ?_
                  exact xs_gf (kj22 ((0))) trivial
                · refine xs_iconst (n := 142) (v := (1)) dX12_twoLeaveNothing_141 rfl rfl ?_
                  refine xs_goto (n := 146) dX12_twoLeaveNothing_142 rfl ?_
                  exact xs_gf (kj22 ((1))) trivial
          · refine xs_lif_le (n := 93) (pc1 := 90) (tgt := 97) dX12_twoLeaveNothing_89 rfl dX12_twoLeaveNothing_90 rfl rfl (fun hc17 => ?_) (fun hc17 => ?_)
            · refine xs_iconst (n := 98) (v := (0)) dX12_twoLeaveNothing_97 rfl rfl ?_
              exact xs_gf (kj16 ((0))) (And.intro rfl (And.intro rfl (And.intro rfl (And.intro rfl (And.intro rfl trivial)))))
            · refine xs_iconst (n := 94) (v := (1)) dX12_twoLeaveNothing_93 rfl rfl ?_
              refine xs_goto (n := 98) dX12_twoLeaveNothing_94 rfl ?_
              exact xs_gf (kj16 ((1))) (And.intro rfl (And.intro rfl (And.intro rfl (And.intro rfl (And.intro rfl trivial)))))
        · refine xs_lif_le (n := 81) (pc1 := 78) (tgt := 85) dX12_twoLeaveNothing_77 rfl dX12_twoLeaveNothing_78 rfl rfl (fun hc14 => ?_) (fun hc14 => ?_)
          · refine xs_iconst (n := 86) (v := (0)) dX12_twoLeaveNothing_85 rfl rfl ?_
            exact xs_gf (kj13 ((0))) (And.intro rfl (And.intro rfl (And.intro rfl (And.intro rfl (And.intro rfl trivial)))))
          · refine xs_iconst (n := 82) (v := (1)) dX12_twoLeaveNothing_81 rfl rfl ?_
            refine xs_goto (n := 86) dX12_twoLeaveNothing_82 rfl ?_
            exact xs_gf (kj13 ((1))) (And.intro rfl (And.intro rfl (And.intro rfl (And.intro rfl (And.intro rfl trivial)))))
    · refine xs_iconst (n := 26) (v := (0)) dX12_twoLeaveNothing_25 rfl rfl ?_
      exact xs_zretc dX12_twoLeaveNothing_26 rfl (Or.inl rfl) rfl
  · refine xs_iconst (n := 26) (v := (0)) dX12_twoLeaveNothing_25 rfl rfl ?_
    exact xs_zretc dX12_twoLeaveNothing_26 rfl (Or.inl rfl) rfl
def fn_X12_determinant (m : Nat) (x0 : Int32) (x1 : Int32) (x2 : Int32) (u0 : xm_Y) : Option (Int64 × xm_Y) :=
  xm_chk (xm_in ((4) * x0) 48) (
  ((fn_X12_cross m x1 x2 (0) u0).bind fun q1 =>
  xm_chk (xm_in (((4) * x0) + (1)) 48) (
  ((fn_X12_cross m x1 x2 (1) q1.2).bind fun q2 =>
  xm_chk (xm_in (((4) * x0) + (2)) 48) (
  ((fn_X12_cross m x1 x2 (2) q2.2).bind fun q3 =>
  some (((((u0.2 159 (Int32.toNatClampNeg ((4) * x0))) * q1.1) + ((q1.2.2 159 (Int32.toNatClampNeg (((4) * x0) + (1)))) * q2.1)) + ((q2.2.2 159 (Int32.toNatClampNeg (((4) * x0) + (2)))) * q3.1)), q3.2)))))))
theorem en_X12_determinant (m : Nat) (x0 : Int32) (x1 : Int32) (x2 : Int32) (u0 : xm_Y) : xs_ (fun x : Int64 => some (.long x)) sg_0 mt_X12_determinant 0 [some (.ref 150), some (.int x0), some (.int x1), some (.int x2)] [] u0 0 0 (fn_X12_determinant m x0 x1 x2 u0) := by
  refine xs_top ?_
  rw [fn_X12_determinant]
  refine xs_aload_n (n := 1) dX12_determinant_0 rfl rfl ?_
  refine ys_getr (n := 4) dX12_determinant_1 rfl fl_X12_40 sh_150 rfl ?_
  refine xs_iconst (n := 5) (v := (4)) dX12_determinant_4 rfl rfl ?_
  refine xs_iload_n (n := 6) dX12_determinant_5 rfl rfl ?_
  refine xs_imul (n := 7) dX12_determinant_6 rfl ?_
  refine ys_laload (n := 8) dX12_determinant_7 rfl sh_159 ?_
  refine xs_aload_n (n := 9) dX12_determinant_8 rfl rfl ?_
  refine xs_iload_n (n := 10) dX12_determinant_9 rfl rfl ?_
  refine xs_iload_n (n := 11) dX12_determinant_10 rfl rfl ?_
  refine xs_iconst (n := 12) (v := (0)) dX12_determinant_11 rfl rfl ?_
  refine ys_callvl (n := 15) (N := mt_X12_cross) dX12_determinant_12 rfl ok_X12_cross tw_1142 im_X12_cross se_X12_cross ⟨Nat.le_of_ble_eq_true rfl, Nat.le_of_ble_eq_true rfl⟩ [.int x1, .int x2, .int (0)] [.long (u0.2 159 (Int32.toNatClampNeg ((4) * x0)))] rfl rfl (Nat.le_of_ble_eq_true rfl) rfl (Nat.le_of_ble_eq_true rfl) (en_X12_cross m x1 x2 (0) u0) sh_150 (by decide) rfl (fun q1 => ?_)
  refine xs_lmul (n := 16) dX12_determinant_15 rfl ?_
  refine xs_aload_n (n := 17) dX12_determinant_16 rfl rfl ?_
  refine ys_getr (n := 20) dX12_determinant_17 rfl fl_X12_40 sh_150 rfl ?_
  refine xs_iconst (n := 21) (v := (4)) dX12_determinant_20 rfl rfl ?_
  refine xs_iload_n (n := 22) dX12_determinant_21 rfl rfl ?_
  refine xs_imul (n := 23) dX12_determinant_22 rfl ?_
  refine xs_iconst (n := 24) (v := (1)) dX12_determinant_23 rfl rfl ?_
  refine xs_iadd (n := 25) dX12_determinant_24 rfl ?_
  refine ys_laload (n := 26) dX12_determinant_25 rfl sh_159 ?_
  refine xs_aload_n (n := 27) dX12_determinant_26 rfl rfl ?_
  refine xs_iload_n (n := 28) dX12_determinant_27 rfl rfl ?_
  refine xs_iload_n (n := 29) dX12_determinant_28 rfl rfl ?_
  refine xs_iconst (n := 30) (v := (1)) dX12_determinant_29 rfl rfl ?_
  refine ys_callvl (n := 33) (N := mt_X12_cross) dX12_determinant_30 rfl ok_X12_cross tw_1142 im_X12_cross se_X12_cross ⟨Nat.le_of_ble_eq_true rfl, Nat.le_of_ble_eq_true rfl⟩ [.int x1, .int x2, .int (1)] [.long (q1.2.2 159 (Int32.toNatClampNeg (((4) * x0) + (1)))), .long ((u0.2 159 (Int32.toNatClampNeg ((4) * x0))) * q1.1)] rfl rfl (Nat.le_of_ble_eq_true rfl) rfl (Nat.le_of_ble_eq_true rfl) (en_X12_cross m x1 x2 (1) q1.2) sh_150 (by decide) rfl (fun q2 => ?_)
  refine xs_lmul (n := 34) dX12_determinant_33 rfl ?_
  refine xs_ladd (n := 35) dX12_determinant_34 rfl ?_
  refine xs_aload_n (n := 36) dX12_determinant_35 rfl rfl ?_
  refine ys_getr (n := 39) dX12_determinant_36 rfl fl_X12_40 sh_150 rfl ?_
  refine xs_iconst (n := 40) (v := (4)) dX12_determinant_39 rfl rfl ?_
  refine xs_iload_n (n := 41) dX12_determinant_40 rfl rfl ?_
  refine xs_imul (n := 42) dX12_determinant_41 rfl ?_
  refine xs_iconst (n := 43) (v := (2)) dX12_determinant_42 rfl rfl ?_
  refine xs_iadd (n := 44) dX12_determinant_43 rfl ?_
  refine ys_laload (n := 45) dX12_determinant_44 rfl sh_159 ?_
  refine xs_aload_n (n := 46) dX12_determinant_45 rfl rfl ?_
  refine xs_iload_n (n := 47) dX12_determinant_46 rfl rfl ?_
  refine xs_iload_n (n := 48) dX12_determinant_47 rfl rfl ?_
  refine xs_iconst (n := 49) (v := (2)) dX12_determinant_48 rfl rfl ?_
  refine ys_callvl (n := 52) (N := mt_X12_cross) dX12_determinant_49 rfl ok_X12_cross tw_1142 im_X12_cross se_X12_cross ⟨Nat.le_of_ble_eq_true rfl, Nat.le_of_ble_eq_true rfl⟩ [.int x1, .int x2, .int (2)] [.long (q2.2.2 159 (Int32.toNatClampNeg (((4) * x0) + (2)))), .long (((u0.2 159 (Int32.toNatClampNeg ((4) * x0))) * q1.1) + ((q1.2.2 159 (Int32.toNatClampNeg (((4) * x0) + (1)))) * q2.1))] rfl rfl (Nat.le_of_ble_eq_true rfl) rfl (Nat.le_of_ble_eq_true rfl) (en_X12_cross m x1 x2 (2) q2.2) sh_150 (by decide) rfl (fun q3 => ?_)
  refine xs_lmul (n := 53) dX12_determinant_52 rfl ?_
  refine xs_ladd (n := 54) dX12_determinant_53 rfl ?_
  exact xs_lret dX12_determinant_54 rfl rfl
def fn_X12_leaveNothing (m : Nat) (x0 : Int64) (x1 : Int64) (x2 : Int64) (x3 : Int64) (x4 : Int32) (x5 : Int32) (x6 : Int32) (x7 : Int32) (u0 : xm_Y) : Option (Int32 × xm_Y) :=
  ((if x0 < (0) then (
  some ((0))) else (
  if x1 < (0) then (
  some ((0))) else (
  if x2 < (0) then (
  some ((0))) else (
  if x3 < (0) then (
  some ((0))) else (
  some ((1)))))) : Option (Int32)).bind fun q1 =>
  ((if (0) < x0 then (
  some ((0))) else (
  if (0) < x1 then (
  some ((0))) else (
  if (0) < x2 then (
  some ((0))) else (
  if (0) < x3 then (
  some ((0))) else (
  some ((1)))))) : Option (Int32)).bind fun q7 =>
  xm_chk (xm_in (((4) * x4) + (3)) 48) (
  xm_chk (xm_in (((4) * x5) + (3)) 48) (
  xm_chk (xm_in (((4) * x6) + (3)) 48) (
  xm_chk (xm_in (((4) * x7) + (3)) 48) (
  xm_let (α := Int64) (((((x0 * (u0.2 159 (Int32.toNatClampNeg (((4) * x4) + (3))))) + (x1 * (u0.2 159 (Int32.toNatClampNeg (((4) * x5) + (3)))))) + (x2 * (u0.2 159 (Int32.toNatClampNeg (((4) * x6) + (3)))))) + (x3 * (u0.2 159 (Int32.toNatClampNeg (((4) * x7) + (3))))))) fun v13 =>
  ((if q1 = 0 then (
  if q7 = 0 then (
  some ((0))) else (
  if (0) ≤ v13 then (
  some ((0))) else (
  some ((1))))) else (
  if (0) < v13 then (
  some ((1))) else (
  if q7 = 0 then (
  some ((0))) else (
  if (0) ≤ v13 then (
  some ((0))) else (
  some ((1)))))) : Option (Int32)).bind fun q14 =>
  xm_chk (q14 = 0 ∨ q14 = 1) (some (q14, u0)))))))))
theorem en_X12_leaveNothing (m : Nat) (x0 : Int64) (x1 : Int64) (x2 : Int64) (x3 : Int64) (x4 : Int32) (x5 : Int32) (x6 : Int32) (x7 : Int32) (u0 : xm_Y) : xs_ (fun x : Int32 => some (.int x)) sg_0 mt_X12_leaveNothing 0 [some (.ref 150), some (.long x0), none, some (.long x1), none, some (.long x2), none, some (.long x3), none, some (.int x4), some (.int x5), some (.int x6), some (.int x7), none, none, none, none] [] u0 0 0 (fn_X12_leaveNothing m x0 x1 x2 x3 x4 x5 x6 x7 u0) := by
  refine xs_top ?_
  rw [fn_X12_leaveNothing]
  refine xs_lload_n (n := 1) dX12_leaveNothing_0 rfl rfl ?_
  refine xs_lconst (n := 2) (v := (0)) dX12_leaveNothing_1 rfl rfl ?_
  refine xs_join 31 (fun q1 => [some (.ref 150), some (.long x0), none, some (.long x1), none, some (.long x2), none, some (.long x3), none, some (.int x4), some (.int x5), some (.int x6), some (.int x7), none, none, none, none]) (fun q1 => [.int q1]) (fun q1 => u0) (fun q1 => ?_) (fun kj2 => ?_)
  · refine xs_istore (n := 33) (lv' := [some (.ref 150), some (.long x0), none, some (.long x1), none, some (.long x2), none, some (.long x3), none, some (.int x4), some (.int x5), some (.int x6), some (.int x7), some (.int q1), none, none, none]) dX12_leaveNothing_31 rfl (Nat.le_of_ble_eq_true rfl) rfl ?_
    refine xs_lload_n (n := 34) dX12_leaveNothing_33 rfl rfl ?_
    refine xs_lconst (n := 35) (v := (0)) dX12_leaveNothing_34 rfl rfl ?_
    refine xs_join 64 (fun q7 => [some (.ref 150), some (.long x0), none, some (.long x1), none, some (.long x2), none, some (.long x3), none, some (.int x4), some (.int x5), some (.int x6), some (.int x7), some (.int q1), none, none, none]) (fun q7 => [.int q7]) (fun q7 => u0) (fun q7 => ?_) (fun kj8 => ?_)
    · refine xs_istore (n := 66) (lv' := [some (.ref 150), some (.long x0), none, some (.long x1), none, some (.long x2), none, some (.long x3), none, some (.int x4), some (.int x5), some (.int x6), some (.int x7), some (.int q1), some (.int q7), none, none]) dX12_leaveNothing_64 rfl (Nat.le_of_ble_eq_true rfl) rfl ?_
      refine xs_lload_n (n := 67) dX12_leaveNothing_66 rfl rfl ?_
      refine xs_aload_n (n := 68) dX12_leaveNothing_67 rfl rfl ?_
      refine ys_getr (n := 71) dX12_leaveNothing_68 rfl fl_X12_40 sh_150 rfl ?_
      refine xs_iconst (n := 72) (v := (4)) dX12_leaveNothing_71 rfl rfl ?_
      refine xs_iload (n := 74) dX12_leaveNothing_72 rfl rfl ?_
      refine xs_imul (n := 75) dX12_leaveNothing_74 rfl ?_
      refine xs_iconst (n := 76) (v := (3)) dX12_leaveNothing_75 rfl rfl ?_
      refine xs_iadd (n := 77) dX12_leaveNothing_76 rfl ?_
      refine ys_laload (n := 78) dX12_leaveNothing_77 rfl sh_159 ?_
      refine xs_lmul (n := 79) dX12_leaveNothing_78 rfl ?_
      refine xs_lload_n (n := 80) dX12_leaveNothing_79 rfl rfl ?_
      refine xs_aload_n (n := 81) dX12_leaveNothing_80 rfl rfl ?_
      refine ys_getr (n := 84) dX12_leaveNothing_81 rfl fl_X12_40 sh_150 rfl ?_
      refine xs_iconst (n := 85) (v := (4)) dX12_leaveNothing_84 rfl rfl ?_
      refine xs_iload (n := 87) dX12_leaveNothing_85 rfl rfl ?_
      refine xs_imul (n := 88) dX12_leaveNothing_87 rfl ?_
      refine xs_iconst (n := 89) (v := (3)) dX12_leaveNothing_88 rfl rfl ?_
      refine xs_iadd (n := 90) dX12_leaveNothing_89 rfl ?_
      refine ys_laload (n := 91) dX12_leaveNothing_90 rfl sh_159 ?_
      refine xs_lmul (n := 92) dX12_leaveNothing_91 rfl ?_
      refine xs_ladd (n := 93) dX12_leaveNothing_92 rfl ?_
      refine xs_lload (n := 95) dX12_leaveNothing_93 rfl rfl ?_
      refine xs_aload_n (n := 96) dX12_leaveNothing_95 rfl rfl ?_
      refine ys_getr (n := 99) dX12_leaveNothing_96 rfl fl_X12_40 sh_150 rfl ?_
      refine xs_iconst (n := 100) (v := (4)) dX12_leaveNothing_99 rfl rfl ?_
      refine xs_iload (n := 102) dX12_leaveNothing_100 rfl rfl ?_
      refine xs_imul (n := 103) dX12_leaveNothing_102 rfl ?_
      refine xs_iconst (n := 104) (v := (3)) dX12_leaveNothing_103 rfl rfl ?_
      refine xs_iadd (n := 105) dX12_leaveNothing_104 rfl ?_
      refine ys_laload (n := 106) dX12_leaveNothing_105 rfl sh_159 ?_
      refine xs_lmul (n := 107) dX12_leaveNothing_106 rfl ?_
      refine xs_ladd (n := 108) dX12_leaveNothing_107 rfl ?_
      refine xs_lload (n := 110) dX12_leaveNothing_108 rfl rfl ?_
      refine xs_aload_n (n := 111) dX12_leaveNothing_110 rfl rfl ?_
      refine ys_getr (n := 114) dX12_leaveNothing_111 rfl fl_X12_40 sh_150 rfl ?_
      refine xs_iconst (n := 115) (v := (4)) dX12_leaveNothing_114 rfl rfl ?_
      refine xs_iload (n := 117) dX12_leaveNothing_115 rfl rfl ?_
      refine xs_imul (n := 118) dX12_leaveNothing_117 rfl ?_
      refine xs_iconst (n := 119) (v := (3)) dX12_leaveNothing_118 rfl rfl ?_
      refine xs_iadd (n := 120) dX12_leaveNothing_119 rfl ?_
      refine ys_laload (n := 121) dX12_leaveNothing_120 rfl sh_159 ?_
      refine xs_lmul (n := 122) dX12_leaveNothing_121 rfl ?_
      refine xs_ladd (n := 123) dX12_leaveNothing_122 rfl ?_
      refine xs_letl (fun v13 => ?_)
      refine xs_lstore (n := 125) (lv' := [some (.ref 150), some (.long x0), none, some (.long x1), none, some (.long x2), none, some (.long x3), none, some (.int x4), some (.int x5), some (.int x6), some (.int x7), some (.int q1), some (.int q7), some (.long v13), none]) dX12_leaveNothing_123 rfl (Nat.le_of_ble_eq_true rfl) rfl ?_
      refine xs_iload (n := 127) dX12_leaveNothing_125 rfl rfl ?_
      refine xs_join 154 (fun q14 => [none, none, none, none, none, none, none, none, none, none, none, none, none, none, none, none, none]) (fun q14 => [.int q14]) (fun q14 => u0) (fun q14 => ?_) (fun kj15 => ?_)
      · exact xs_zret dX12_leaveNothing_154 rfl rfl
      · refine xs_if_eq (n := 130) (tgt := 137) dX12_leaveNothing_127 rfl rfl (fun hc16 => ?_) (fun hc16 => ?_)
        · refine xs_iload (n := 139) dX12_leaveNothing_137 rfl rfl ?_
          refine xs_if_eq (n := 142) (tgt := 153) dX12_leaveNothing_139 rfl rfl (fun hc17 => ?_) (fun hc17 => ?_)
          · refine xs_iconst (n := 154) (v := (0)) dX12_leaveNothing_153 rfl rfl ?_
            exact xs_gf (kj15 ((0))) trivial
          · refine xs_lload (n := 144) dX12_leaveNothing_142 rfl rfl ?_
            refine xs_lconst (n := 145) (v := (0)) dX12_leaveNothing_144 rfl rfl ?_
            refine xs_lif_ge (n := 149) (pc1 := 146) (tgt := 153) dX12_leaveNothing_145 rfl dX12_leaveNothing_146 rfl rfl (fun hc18 => ?_) (fun hc18 => ?_)
            · refine xs_iconst (n := 154) (v := (0)) dX12_leaveNothing_153 rfl rfl ?_
              exact xs_gf (kj15 ((0))) trivial
            · refine xs_iconst (n := 150) (v := (1)) dX12_leaveNothing_149 rfl rfl ?_
              refine xs_goto (n := 154) dX12_leaveNothing_150 rfl ?_
              exact xs_gf (kj15 ((1))) trivial
        · refine xs_lload (n := 132) dX12_leaveNothing_130 rfl rfl ?_
          refine xs_lconst (n := 133) (v := (0)) dX12_leaveNothing_132 rfl rfl ?_
          refine xs_lif_gt (n := 137) (pc1 := 134) (tgt := 149) dX12_leaveNothing_133 rfl dX12_leaveNothing_134 rfl rfl (fun hc19 => ?_) (fun hc19 => ?_)
          · refine xs_iconst (n := 150) (v := (1)) dX12_leaveNothing_149 rfl rfl ?_
            refine xs_goto (n := 154) dX12_leaveNothing_150 rfl ?_
            exact xs_gf (kj15 ((1))) trivial
          · refine xs_iload (n := 139) dX12_leaveNothing_137 rfl rfl ?_
            refine xs_if_eq (n := 142) (tgt := 153) dX12_leaveNothing_139 rfl rfl (fun hc20 => ?_) (fun hc20 => ?_)
            · refine xs_iconst (n := 154) (v := (0)) dX12_leaveNothing_153 rfl rfl ?_
              exact xs_gf (kj15 ((0))) trivial
            · refine xs_lload (n := 144) dX12_leaveNothing_142 rfl rfl ?_
              refine xs_lconst (n := 145) (v := (0)) dX12_leaveNothing_144 rfl rfl ?_
              refine xs_lif_ge (n := 149) (pc1 := 146) (tgt := 153) dX12_leaveNothing_145 rfl dX12_leaveNothing_146 rfl rfl (fun hc21 => ?_) (fun hc21 => ?_)
              · refine xs_iconst (n := 154) (v := (0)) dX12_leaveNothing_153 rfl rfl ?_
                exact xs_gf (kj15 ((0))) trivial
              · refine xs_iconst (n := 150) (v := (1)) dX12_leaveNothing_149 rfl rfl ?_
                refine xs_goto (n := 154) dX12_leaveNothing_150 rfl ?_
                exact xs_gf (kj15 ((1))) trivial
    · refine xs_lif_gt (n := 39) (pc1 := 36) (tgt := 63) dX12_leaveNothing_35 rfl dX12_leaveNothing_36 rfl rfl (fun hc9 => ?_) (fun hc9 => ?_)
      · refine xs_iconst (n := 64) (v := (0)) dX12_leaveNothing_63 rfl rfl ?_
        exact xs_gf (kj8 ((0))) (And.intro rfl (And.intro rfl (And.intro rfl (And.intro rfl (And.intro rfl (And.intro rfl (And.intro rfl (And.intro rfl (And.intro rfl (And.intro rfl trivial))))))))))
      · refine xs_lload_n (n := 40) dX12_leaveNothing_39 rfl rfl ?_
        refine xs_lconst (n := 41) (v := (0)) dX12_leaveNothing_40 rfl rfl ?_
        refine xs_lif_gt (n := 45) (pc1 := 42) (tgt := 63) dX12_leaveNothing_41 rfl dX12_leaveNothing_42 rfl rfl (fun hc10 => ?_) (fun hc10 => ?_)
        · refine xs_iconst (n := 64) (v := (0)) dX12_leaveNothing_63 rfl rfl ?_
          exact xs_gf (kj8 ((0))) (And.intro rfl (And.intro rfl (And.intro rfl (And.intro rfl (And.intro rfl (And.intro rfl (And.intro rfl (And.intro rfl (And.intro rfl (And.intro rfl trivial))))))))))
        · refine xs_lload (n := 47) dX12_leaveNothing_45 rfl rfl ?_
          refine xs_lconst (n := 48) (v := (0)) dX12_leaveNothing_47 rfl rfl ?_
          refine xs_lif_gt (n := 52) (pc1 := 49) (tgt := 63) dX12_leaveNothing_48 rfl dX12_leaveNothing_49 rfl rfl (fun hc11 => ?_) (fun hc11 => ?_)
          · refine xs_iconst (n := 64) (v := (0)) dX12_leaveNothing_63 rfl rfl ?_
            exact xs_gf (kj8 ((0))) (And.intro rfl (And.intro rfl (And.intro rfl (And.intro rfl (And.intro rfl (And.intro rfl (And.intro rfl (And.intro rfl (And.intro rfl (And.intro rfl trivial))))))))))
          · refine xs_lload (n := 54) dX12_leaveNothing_52 rfl rfl ?_
            refine xs_lconst (n := 55) (v := (0)) dX12_leaveNothing_54 rfl rfl ?_
            refine xs_lif_gt (n := 59) (pc1 := 56) (tgt := 63) dX12_leaveNothing_55 rfl dX12_leaveNothing_56 rfl rfl (fun hc12 => ?_) (fun hc12 => ?_)
            · refine xs_iconst (n := 64) (v := (0)) dX12_leaveNothing_63 rfl rfl ?_
              exact xs_gf (kj8 ((0))) (And.intro rfl (And.intro rfl (And.intro rfl (And.intro rfl (And.intro rfl (And.intro rfl (And.intro rfl (And.intro rfl (And.intro rfl (And.intro rfl trivial))))))))))
            · refine xs_iconst (n := 60) (v := (1)) dX12_leaveNothing_59 rfl rfl ?_
              refine xs_goto (n := 64) dX12_leaveNothing_60 rfl ?_
              exact xs_gf (kj8 ((1))) (And.intro rfl (And.intro rfl (And.intro rfl (And.intro rfl (And.intro rfl (And.intro rfl (And.intro rfl (And.intro rfl (And.intro rfl (And.intro rfl trivial))))))))))
  · refine xs_lif_lt (n := 6) (pc1 := 3) (tgt := 30) dX12_leaveNothing_2 rfl dX12_leaveNothing_3 rfl rfl (fun hc3 => ?_) (fun hc3 => ?_)
    · refine xs_iconst (n := 31) (v := (0)) dX12_leaveNothing_30 rfl rfl ?_
      exact xs_gf (kj2 ((0))) (And.intro rfl (And.intro rfl (And.intro rfl (And.intro rfl (And.intro rfl (And.intro rfl (And.intro rfl (And.intro rfl (And.intro rfl trivial)))))))))
    · refine xs_lload_n (n := 7) dX12_leaveNothing_6 rfl rfl ?_
      refine xs_lconst (n := 8) (v := (0)) dX12_leaveNothing_7 rfl rfl ?_
      refine xs_lif_lt (n := 12) (pc1 := 9) (tgt := 30) dX12_leaveNothing_8 rfl dX12_leaveNothing_9 rfl rfl (fun hc4 => ?_) (fun hc4 => ?_)
      · refine xs_iconst (n := 31) (v := (0)) dX12_leaveNothing_30 rfl rfl ?_
        exact xs_gf (kj2 ((0))) (And.intro rfl (And.intro rfl (And.intro rfl (And.intro rfl (And.intro rfl (And.intro rfl (And.intro rfl (And.intro rfl (And.intro rfl trivial)))))))))
      · refine xs_lload (n := 14) dX12_leaveNothing_12 rfl rfl ?_
        refine xs_lconst (n := 15) (v := (0)) dX12_leaveNothing_14 rfl rfl ?_
        refine xs_lif_lt (n := 19) (pc1 := 16) (tgt := 30) dX12_leaveNothing_15 rfl dX12_leaveNothing_16 rfl rfl (fun hc5 => ?_) (fun hc5 => ?_)
        · refine xs_iconst (n := 31) (v := (0)) dX12_leaveNothing_30 rfl rfl ?_
          exact xs_gf (kj2 ((0))) (And.intro rfl (And.intro rfl (And.intro rfl (And.intro rfl (And.intro rfl (And.intro rfl (And.intro rfl (And.intro rfl (And.intro rfl trivial)))))))))
        · refine xs_lload (n := 21) dX12_leaveNothing_19 rfl rfl ?_
          refine xs_lconst (n := 22) (v := (0)) dX12_leaveNothing_21 rfl rfl ?_
          refine xs_lif_lt (n := 26) (pc1 := 23) (tgt := 30) dX12_leaveNothing_22 rfl dX12_leaveNothing_23 rfl rfl (fun hc6 => ?_) (fun hc6 => ?_)
          · refine xs_iconst (n := 31) (v := (0)) dX12_leaveNothing_30 rfl rfl ?_
            exact xs_gf (kj2 ((0))) (And.intro rfl (And.intro rfl (And.intro rfl (And.intro rfl (And.intro rfl (And.intro rfl (And.intro rfl (And.intro rfl (And.intro rfl trivial)))))))))
          · refine xs_iconst (n := 27) (v := (1)) dX12_leaveNothing_26 rfl rfl ?_
            refine xs_goto (n := 31) dX12_leaveNothing_27 rfl ?_
            exact xs_gf (kj2 ((1))) (And.intro rfl (And.intro rfl (And.intro rfl (And.intro rfl (And.intro rfl (And.intro rfl (And.intro rfl (And.intro rfl (And.intro rfl trivial)))))))))
