def lp_X12_make_3 (m : Nat) (c1 : Int32) (c2 : Int32) (c3 : Int32) (u0 : xm_Y) : Nat → Int32 → Option ((Int32 × xm_Y) ⊕ (Int32))
  | 0, _ => none
  | n + 1, l4 =>
  if (u0.1 150 40) ≤ l4 then (
  some (.inr (l4))) else (
  xm_chk (xm_in l4 1001) (
  if (u0.1 176 (Int32.toNatClampNeg l4)) = c1 then (
  xm_chk (xm_in l4 1001) (
  if (u0.1 177 (Int32.toNatClampNeg l4)) = c2 then (
  xm_chk (xm_in l4 1001) (
  if (u0.1 178 (Int32.toNatClampNeg l4)) = c3 then (
  some (.inl ((1), u0))) else (
  xm_let (α := Int32) (l4 + (1)) fun v5 =>
  lp_X12_make_3 m c1 c2 c3 u0 n v5))) else (
  xm_let (α := Int32) (l4 + (1)) fun v6 =>
  lp_X12_make_3 m c1 c2 c3 u0 n v6))) else (
  xm_let (α := Int32) (l4 + (1)) fun v7 =>
  lp_X12_make_3 m c1 c2 c3 u0 n v7)))
def fn_X12_make (m : Nat) (x0 : Int32) (x1 : Int32) (x2 : Int32) (u0 : xm_Y) : Option (Int32 × xm_Y) :=
  ((lp_X12_make_3 m x0 x1 x2 u0 m (0)).bind (Sum.elim (fun r => some r) (fun q8 =>
  if (u0.1 150 40) = (1000) then (
  some ((0), u0)) else (
  xm_chk (xm_in (u0.1 150 40) 1001) (xm_let (w_I u0 176 (Int32.toNatClampNeg (u0.1 150 40)) x0) fun u10 =>
  xm_chk (xm_in (u10.1 150 40) 1001) (xm_let (w_I u10 177 (Int32.toNatClampNeg (u10.1 150 40)) x1) fun u11 =>
  xm_chk (xm_in (u11.1 150 40) 1001) (xm_let (w_I u11 178 (Int32.toNatClampNeg (u11.1 150 40)) x2) fun u12 =>
  xm_let (w_I u12 150 40 ((u12.1 150 40) + (1))) fun u13 =>
  some ((1), u13))))))))
theorem el_X12_make_3 (m : Nat) (c1 : Int32) (c2 : Int32) (c3 : Int32) (u0 : xm_Y) (K : (Int32 × xm_Y) ⊕ (Int32) → Option (Int32 × xm_Y)) (hK : ∀ r, K (.inl r) = some r) (kE : ∀ q : Int32, xs_ (fun x : Int32 => some (.int x)) sg_0 mt_X12_make 53 [some (.ref 150), some (.int c1), some (.int c2), some (.int c3), none] [] u0 0 0 (K (.inr q))) : ∀ (n : Nat) (l4 : Int32), xs_ (fun x : Int32 => some (.int x)) sg_0 mt_X12_make 3 [some (.ref 150), some (.int c1), some (.int c2), some (.int c3), some (.int l4)] [] u0 0 0 ((lp_X12_make_3 m c1 c2 c3 u0 n l4).bind K) := by
  intro n
  induction n with
  | zero =>
    intro l4
    exact xs_none
  | succ n ih =>
    intro l4
    rw [lp_X12_make_3]
    refine xs_iload (n := 5) dX12_make_3 rfl rfl ?_
    refine xs_aload_n (n := 6) dX12_make_5 rfl rfl ?_
    refine ys_geti (n := 9) dX12_make_6 rfl fl_X12_104 (Or.inl rfl) sh_150 ?_
    refine xs_icmp_ge (n := 12) (tgt := 53) dX12_make_9 rfl rfl (fun hc1 => ?_) (fun hc1 => ?_)
    · exact xs_gf (kE (l4)) (And.intro rfl (And.intro rfl (And.intro rfl (And.intro rfl trivial))))
    · refine xs_aload_n (n := 13) dX12_make_12 rfl rfl ?_
      refine ys_getr (n := 16) dX12_make_13 rfl fl_X12_95 sh_150 rfl ?_
      refine xs_iload (n := 18) dX12_make_16 rfl rfl ?_
      refine ys_iaload (n := 19) dX12_make_18 rfl sh_176 ?_
      refine xs_iload_n (n := 20) dX12_make_19 rfl rfl ?_
      refine xs_icmp_ne (n := 23) (tgt := 47) dX12_make_20 rfl rfl (fun hc2 => ?_) (fun hc2 => ?_)
      · refine xs_aload_n (n := 24) dX12_make_23 rfl rfl ?_
        refine ys_getr (n := 27) dX12_make_24 rfl fl_X12_98 sh_150 rfl ?_
        refine xs_iload (n := 29) dX12_make_27 rfl rfl ?_
        refine ys_iaload (n := 30) dX12_make_29 rfl sh_177 ?_
        refine xs_iload_n (n := 31) dX12_make_30 rfl rfl ?_
        refine xs_icmp_ne (n := 34) (tgt := 47) dX12_make_31 rfl rfl (fun hc3 => ?_) (fun hc3 => ?_)
        · refine xs_aload_n (n := 35) dX12_make_34 rfl rfl ?_
          refine ys_getr (n := 38) dX12_make_35 rfl fl_X12_101 sh_150 rfl ?_
          refine xs_iload (n := 40) dX12_make_38 rfl rfl ?_
          refine ys_iaload (n := 41) dX12_make_40 rfl sh_178 ?_
          refine xs_iload_n (n := 42) dX12_make_41 rfl rfl ?_
          refine xs_icmp_ne (n := 45) (tgt := 47) dX12_make_42 rfl rfl (fun hc4 => ?_) (fun hc4 => ?_)
          · refine xs_iconst (n := 46) (v := (1)) dX12_make_45 rfl rfl ?_
            exact xs_zretc dX12_make_46 rfl (Or.inr rfl) (hK _)
          · refine xs_iincl (n := 50) (dv := (1)) (fun v5 => [some (.ref 150), some (.int c1), some (.int c2), some (.int c3), some (.int v5)]) dX12_make_47 rfl rfl rfl (Nat.le_of_ble_eq_true rfl) (fun _ => rfl) (fun v5 => ?_)
            refine xs_goto (n := 3) dX12_make_50 rfl ?_
            exact xs_gf (ih v5) (And.intro rfl (And.intro rfl (And.intro rfl (And.intro rfl (And.intro rfl trivial)))))
        · refine xs_iincl (n := 50) (dv := (1)) (fun v6 => [some (.ref 150), some (.int c1), some (.int c2), some (.int c3), some (.int v6)]) dX12_make_47 rfl rfl rfl (Nat.le_of_ble_eq_true rfl) (fun _ => rfl) (fun v6 => ?_)
          refine xs_goto (n := 3) dX12_make_50 rfl ?_
          exact xs_gf (ih v6) (And.intro rfl (And.intro rfl (And.intro rfl (And.intro rfl (And.intro rfl trivial)))))
      · refine xs_iincl (n := 50) (dv := (1)) (fun v7 => [some (.ref 150), some (.int c1), some (.int c2), some (.int c3), some (.int v7)]) dX12_make_47 rfl rfl rfl (Nat.le_of_ble_eq_true rfl) (fun _ => rfl) (fun v7 => ?_)
        refine xs_goto (n := 3) dX12_make_50 rfl ?_
        exact xs_gf (ih v7) (And.intro rfl (And.intro rfl (And.intro rfl (And.intro rfl (And.intro rfl trivial)))))
theorem en_X12_make (m : Nat) (x0 : Int32) (x1 : Int32) (x2 : Int32) (u0 : xm_Y) : xs_ (fun x : Int32 => some (.int x)) sg_0 mt_X12_make 0 [some (.ref 150), some (.int x0), some (.int x1), some (.int x2), none] [] u0 0 0 (fn_X12_make m x0 x1 x2 u0) := by
  refine xs_top ?_
  rw [fn_X12_make]
  refine xs_iconst (n := 1) (v := (0)) dX12_make_0 rfl rfl ?_
  refine xs_istore (n := 3) (lv' := [some (.ref 150), some (.int x0), some (.int x1), some (.int x2), some (.int (0))]) dX12_make_1 rfl (Nat.le_of_ble_eq_true rfl) rfl ?_
  refine xs_reg ?_
  refine xs_fg (lv' := [some (.ref 150), some (.int x0), some (.int x1), some (.int x2), some (.int (0))]) (And.intro rfl (And.intro rfl (And.intro rfl (And.intro rfl (And.intro rfl trivial))))) ?_
  refine el_X12_make_3 m x0 x1 x2 u0 _ (fun _ => rfl) (fun q8 => ?_) m (0)
  refine xs_inr ?_
  refine xs_aload_n (n := 54) dX12_make_53 rfl rfl ?_
  refine ys_geti (n := 57) dX12_make_54 rfl fl_X12_104 (Or.inl rfl) sh_150 ?_
  refine xs_sipush (n := 60) (v := (1000)) dX12_make_57 rfl rfl ?_
  refine xs_icmp_ne (n := 63) (tgt := 65) dX12_make_60 rfl rfl (fun hc9 => ?_) (fun hc9 => ?_)
  · refine xs_iconst (n := 64) (v := (0)) dX12_make_63 rfl rfl ?_
    exact xs_zretc dX12_make_64 rfl (Or.inl rfl) rfl
  · refine xs_aload_n (n := 66) dX12_make_65 rfl rfl ?_
    refine ys_getr (n := 69) dX12_make_66 rfl fl_X12_95 sh_150 rfl ?_
    refine xs_aload_n (n := 70) dX12_make_69 rfl rfl ?_
    refine ys_geti (n := 73) dX12_make_70 rfl fl_X12_104 (Or.inl rfl) sh_150 ?_
    refine xs_iload_n (n := 74) dX12_make_73 rfl rfl ?_
    refine ys_iastore (n := 75) dX12_make_74 rfl sh_176 (fun u10 => ?_)
    refine xs_aload_n (n := 76) dX12_make_75 rfl rfl ?_
    refine ys_getr (n := 79) dX12_make_76 rfl fl_X12_98 sh_150 rfl ?_
    refine xs_aload_n (n := 80) dX12_make_79 rfl rfl ?_
    refine ys_geti (n := 83) dX12_make_80 rfl fl_X12_104 (Or.inl rfl) sh_150 ?_
    refine xs_iload_n (n := 84) dX12_make_83 rfl rfl ?_
    refine ys_iastore (n := 85) dX12_make_84 rfl sh_177 (fun u11 => ?_)
    refine xs_aload_n (n := 86) dX12_make_85 rfl rfl ?_
    refine ys_getr (n := 89) dX12_make_86 rfl fl_X12_101 sh_150 rfl ?_
    refine xs_aload_n (n := 90) dX12_make_89 rfl rfl ?_
    refine ys_geti (n := 93) dX12_make_90 rfl fl_X12_104 (Or.inl rfl) sh_150 ?_
    refine xs_iload_n (n := 94) dX12_make_93 rfl rfl ?_
    refine ys_iastore (n := 95) dX12_make_94 rfl sh_178 (fun u12 => ?_)
    refine xs_aload_n (n := 96) dX12_make_95 rfl rfl ?_
    refine xs_dup (n := 97) dX12_make_96 rfl rfl ?_
    refine ys_geti (n := 100) dX12_make_97 rfl fl_X12_104 (Or.inl rfl) sh_150 ?_
    refine xs_iconst (n := 101) (v := (1)) dX12_make_100 rfl rfl ?_
    refine xs_iadd (n := 102) dX12_make_101 rfl ?_
    refine ys_puti (n := 105) dX12_make_102 rfl fl_X12_104 rfl sh_150 (fun u13 => ?_)
    refine xs_iconst (n := 106) (v := (1)) dX12_make_105 rfl rfl ?_
    exact xs_zretc dX12_make_106 rfl (Or.inr rfl) rfl
def lp_X12_makeAll_9 (m : Nat) : Nat → Int32 → Int32 → xm_Y → Option (Int32 × Int32 × xm_Y)
  | 0, _, _, _ => none
  | n + 1, l1, l2, u0 =>
  if (u0.1 150 36) ≤ l2 then (
  some (l1, l2, u0)) else (
  if l1 = 0 then (
  some (l1, l2, u0)) else (
  xm_chk (xm_in l2 40) (
  xm_chk (xm_in l2 40) (
  xm_chk (xm_in l2 40) (
  ((fn_X12_make m (u0.1 173 (Int32.toNatClampNeg l2)) (u0.1 174 (Int32.toNatClampNeg l2)) (u0.1 175 (Int32.toNatClampNeg l2)) u0).bind fun q4 =>
  xm_let (α := Int32) (l2 + (1)) fun v5 =>
  lp_X12_makeAll_9 m n q4.1 v5 q4.2))))))
def lp_X12_makeAll_66 (m : Nat) (c2 : Int32) : Nat → Int32 → Int32 → xm_Y → Option (Int32 × Int32 × xm_Y)
  | 0, _, _, _ => none
  | n + 1, l1, l3, u0 =>
  if (u0.1 150 36) ≤ l3 then (
  some (l1, l3, u0)) else (
  if l1 = 0 then (
  some (l1, l3, u0)) else (
  xm_chk (xm_in c2 1001) (
  xm_chk (xm_in l3 40) (
  ((if (u0.1 177 (Int32.toNatClampNeg c2)) = (u0.1 173 (Int32.toNatClampNeg l3)) then (
  xm_chk (xm_in c2 1001) (
  xm_chk (xm_in l3 40) (
  xm_chk (xm_in c2 1001) (
  xm_chk (xm_in l3 40) (
  ((fn_X12_together m (u0.1 178 (Int32.toNatClampNeg c2)) (u0.1 175 (Int32.toNatClampNeg l3)) u0).bind fun q14 =>
  ((fn_X12_make m (u0.1 176 (Int32.toNatClampNeg c2)) (u0.1 174 (Int32.toNatClampNeg l3)) q14.1 q14.2).bind fun q15 =>
  some (q15.1, q15.2)))))))) else (
  some (l1, u0)) : Option (Int32 × xm_Y)).bind fun q11 =>
  xm_let (α := Int32) (l3 + (1)) fun v16 =>
  lp_X12_makeAll_66 m c2 n q11.1 v16 q11.2)))))
def lp_X12_makeAll_52 (m : Nat) : Nat → Int32 → Int32 → xm_Y → Option (Int32 × Int32 × xm_Y)
  | 0, _, _, _ => none
  | n + 1, l1, l2, u0 =>
  if (u0.1 150 40) ≤ l2 then (
  some (l1, l2, u0)) else (
  if l1 = 0 then (
  some (l1, l2, u0)) else (
  ((lp_X12_makeAll_66 m l2 m l1 (0) u0).bind fun q17 =>
  xm_let (α := Int32) (l2 + (1)) fun v18 =>
  lp_X12_makeAll_52 m n q17.1 v18 q17.2.2)))
def fn_X12_makeAll (m : Nat) (u0 : xm_Y) : Option (Int32 × xm_Y) :=
  xm_let (w_I u0 150 40 (0)) fun u1 =>
  ((lp_X12_makeAll_9 m m (1) (0) u1).bind fun q6 =>
  ((lp_X12_makeAll_52 m m q6.1 (0) q6.2.2).bind fun q19 =>
  xm_chk (q19.1 = 0 ∨ q19.1 = 1) (some (q19.1, q19.2.2))))
theorem el_X12_makeAll_9 (m : Nat) (K : Int32 × Int32 × xm_Y → Option (Int32 × xm_Y)) (kE : ∀ q : Int32 × Int32 × xm_Y, xs_ (fun x : Int32 => some (.int x)) sg_0 mt_X12_makeAll 50 [some (.ref 150), some (.int q.1), none, none] [] q.2.2 0 0 (K q)) : ∀ (n : Nat) (l1 : Int32) (l2 : Int32) (u0 : xm_Y), xs_ (fun x : Int32 => some (.int x)) sg_0 mt_X12_makeAll 9 [some (.ref 150), some (.int l1), some (.int l2), none] [] u0 0 0 ((lp_X12_makeAll_9 m n l1 l2 u0).bind K) := by
  intro n
  induction n with
  | zero =>
    intro l1 l2 u0
    exact xs_none
  | succ n ih =>
    intro l1 l2 u0
    rw [lp_X12_makeAll_9]
    refine xs_iload_n (n := 10) dX12_makeAll_9 rfl rfl ?_
    refine xs_aload_n (n := 11) dX12_makeAll_10 rfl rfl ?_
    refine ys_geti (n := 14) dX12_makeAll_11 rfl fl_X12_348 (Or.inl rfl) sh_150 ?_
    refine xs_icmp_ge (n := 17) (tgt := 50) dX12_makeAll_14 rfl rfl (fun hc2 => ?_) (fun hc2 => ?_)
    · exact xs_gf (kE (l1, l2, u0)) (And.intro rfl (And.intro rfl trivial))
    · refine xs_iload_n (n := 18) dX12_makeAll_17 rfl rfl ?_
      refine xs_if_eq (n := 21) (tgt := 50) dX12_makeAll_18 rfl rfl (fun hc3 => ?_) (fun hc3 => ?_)
      · exact xs_gf (kE (l1, l2, u0)) (And.intro rfl (And.intro rfl trivial))
      · refine xs_aload_n (n := 22) dX12_makeAll_21 rfl rfl ?_
        refine xs_aload_n (n := 23) dX12_makeAll_22 rfl rfl ?_
        refine ys_getr (n := 26) dX12_makeAll_23 rfl fl_X12_86 sh_150 rfl ?_
        refine xs_iload_n (n := 27) dX12_makeAll_26 rfl rfl ?_
        refine ys_iaload (n := 28) dX12_makeAll_27 rfl sh_173 ?_
        refine xs_aload_n (n := 29) dX12_makeAll_28 rfl rfl ?_
        refine ys_getr (n := 32) dX12_makeAll_29 rfl fl_X12_89 sh_150 rfl ?_
        refine xs_iload_n (n := 33) dX12_makeAll_32 rfl rfl ?_
        refine ys_iaload (n := 34) dX12_makeAll_33 rfl sh_174 ?_
        refine xs_aload_n (n := 35) dX12_makeAll_34 rfl rfl ?_
        refine ys_getr (n := 38) dX12_makeAll_35 rfl fl_X12_92 sh_150 rfl ?_
        refine xs_iload_n (n := 39) dX12_makeAll_38 rfl rfl ?_
        refine ys_iaload (n := 40) dX12_makeAll_39 rfl sh_175 ?_
        refine ys_callvi (n := 43) (N := mt_X12_make) dX12_makeAll_40 rfl ok_X12_make tw_1306 im_X12_make se_X12_make ⟨Nat.le_of_ble_eq_true rfl, Nat.le_of_ble_eq_true rfl⟩ [.int (u0.1 173 (Int32.toNatClampNeg l2)), .int (u0.1 174 (Int32.toNatClampNeg l2)), .int (u0.1 175 (Int32.toNatClampNeg l2))] [] rfl rfl (Nat.le_of_ble_eq_true rfl) rfl (Nat.le_of_ble_eq_true rfl) (en_X12_make m (u0.1 173 (Int32.toNatClampNeg l2)) (u0.1 174 (Int32.toNatClampNeg l2)) (u0.1 175 (Int32.toNatClampNeg l2)) u0) sh_150 (by decide) rfl (fun q4 => ?_)
        refine xs_istore_n (n := 44) (lv' := [some (.ref 150), some (.int q4.1), some (.int l2), none]) dX12_makeAll_43 rfl (Nat.le_of_ble_eq_true rfl) rfl ?_
        refine xs_iincl (n := 47) (dv := (1)) (fun v5 => [some (.ref 150), some (.int q4.1), some (.int v5), none]) dX12_makeAll_44 rfl rfl rfl (Nat.le_of_ble_eq_true rfl) (fun _ => rfl) (fun v5 => ?_)
        refine xs_goto (n := 9) dX12_makeAll_47 rfl ?_
        exact xs_gf (ih q4.1 v5 q4.2) (And.intro rfl (And.intro rfl (And.intro rfl trivial)))
theorem el_X12_makeAll_66 (m : Nat) (c2 : Int32) (K : Int32 × Int32 × xm_Y → Option (Int32 × xm_Y)) (kE : ∀ q : Int32 × Int32 × xm_Y, xs_ (fun x : Int32 => some (.int x)) sg_0 mt_X12_makeAll 132 [some (.ref 150), some (.int q.1), some (.int c2), none] [] q.2.2 0 0 (K q)) : ∀ (n : Nat) (l1 : Int32) (l3 : Int32) (u0 : xm_Y), xs_ (fun x : Int32 => some (.int x)) sg_0 mt_X12_makeAll 66 [some (.ref 150), some (.int l1), some (.int c2), some (.int l3)] [] u0 0 0 ((lp_X12_makeAll_66 m c2 n l1 l3 u0).bind K) := by
  intro n
  induction n with
  | zero =>
    intro l1 l3 u0
    exact xs_none
  | succ n ih =>
    intro l1 l3 u0
    rw [lp_X12_makeAll_66]
    refine xs_iload_n (n := 67) dX12_makeAll_66 rfl rfl ?_
    refine xs_aload_n (n := 68) dX12_makeAll_67 rfl rfl ?_
    refine ys_geti (n := 71) dX12_makeAll_68 rfl fl_X12_348 (Or.inl rfl) sh_150 ?_
    refine xs_icmp_ge (n := 74) (tgt := 132) dX12_makeAll_71 rfl rfl (fun hc9 => ?_) (fun hc9 => ?_)
    · exact xs_gf (kE (l1, l3, u0)) (And.intro rfl (And.intro rfl (And.intro rfl trivial)))
    · refine xs_iload_n (n := 75) dX12_makeAll_74 rfl rfl ?_
      refine xs_if_eq (n := 78) (tgt := 132) dX12_makeAll_75 rfl rfl (fun hc10 => ?_) (fun hc10 => ?_)
      · exact xs_gf (kE (l1, l3, u0)) (And.intro rfl (And.intro rfl (And.intro rfl trivial)))
      · refine xs_aload_n (n := 79) dX12_makeAll_78 rfl rfl ?_
        refine ys_getr (n := 82) dX12_makeAll_79 rfl fl_X12_98 sh_150 rfl ?_
        refine xs_iload_n (n := 83) dX12_makeAll_82 rfl rfl ?_
        refine ys_iaload (n := 84) dX12_makeAll_83 rfl sh_177 ?_
        refine xs_aload_n (n := 85) dX12_makeAll_84 rfl rfl ?_
        refine ys_getr (n := 88) dX12_makeAll_85 rfl fl_X12_86 sh_150 rfl ?_
        refine xs_iload_n (n := 89) dX12_makeAll_88 rfl rfl ?_
        refine ys_iaload (n := 90) dX12_makeAll_89 rfl sh_173 ?_
        refine xs_join 126 (fun q11 => [some (.ref 150), some (.int q11.1), some (.int c2), some (.int l3)]) (fun q11 => []) (fun q11 => q11.2) (fun q11 => ?_) (fun kj12 => ?_)
        · refine xs_iincl (n := 129) (dv := (1)) (fun v16 => [some (.ref 150), some (.int q11.1), some (.int c2), some (.int v16)]) dX12_makeAll_126 rfl rfl rfl (Nat.le_of_ble_eq_true rfl) (fun _ => rfl) (fun v16 => ?_)
          refine xs_goto (n := 66) dX12_makeAll_129 rfl ?_
          exact xs_gf (ih q11.1 v16 q11.2) (And.intro rfl (And.intro rfl (And.intro rfl (And.intro rfl trivial))))
        · refine xs_icmp_ne (n := 93) (tgt := 126) dX12_makeAll_90 rfl rfl (fun hc13 => ?_) (fun hc13 => ?_)
          · refine xs_aload_n (n := 94) dX12_makeAll_93 rfl rfl ?_
            refine xs_aload_n (n := 95) dX12_makeAll_94 rfl rfl ?_
            refine ys_getr (n := 98) dX12_makeAll_95 rfl fl_X12_95 sh_150 rfl ?_
            refine xs_iload_n (n := 99) dX12_makeAll_98 rfl rfl ?_
            refine ys_iaload (n := 100) dX12_makeAll_99 rfl sh_176 ?_
            refine xs_aload_n (n := 101) dX12_makeAll_100 rfl rfl ?_
            refine ys_getr (n := 104) dX12_makeAll_101 rfl fl_X12_89 sh_150 rfl ?_
            refine xs_iload_n (n := 105) dX12_makeAll_104 rfl rfl ?_
            refine ys_iaload (n := 106) dX12_makeAll_105 rfl sh_174 ?_
            refine xs_aload_n (n := 107) dX12_makeAll_106 rfl rfl ?_
            refine xs_aload_n (n := 108) dX12_makeAll_107 rfl rfl ?_
            refine ys_getr (n := 111) dX12_makeAll_108 rfl fl_X12_101 sh_150 rfl ?_
            refine xs_iload_n (n := 112) dX12_makeAll_111 rfl rfl ?_
            refine ys_iaload (n := 113) dX12_makeAll_112 rfl sh_178 ?_
            refine xs_aload_n (n := 114) dX12_makeAll_113 rfl rfl ?_
            refine ys_getr (n := 117) dX12_makeAll_114 rfl fl_X12_92 sh_150 rfl ?_
            refine xs_iload_n (n := 118) dX12_makeAll_117 rfl rfl ?_
            refine ys_iaload (n := 119) dX12_makeAll_118 rfl sh_175 ?_
            refine ys_callvi (n := 122) (N := mt_X12_together) dX12_makeAll_119 rfl ok_X12_together tw_1310 im_X12_together se_X12_together ⟨Nat.le_of_ble_eq_true rfl, Nat.le_of_ble_eq_true rfl⟩ [.int (u0.1 178 (Int32.toNatClampNeg c2)), .int (u0.1 175 (Int32.toNatClampNeg l3))] [.int (u0.1 174 (Int32.toNatClampNeg l3)), .int (u0.1 176 (Int32.toNatClampNeg c2)), .ref 150] rfl rfl (Nat.le_of_ble_eq_true rfl) rfl (Nat.le_of_ble_eq_true rfl) (en_X12_together m (u0.1 178 (Int32.toNatClampNeg c2)) (u0.1 175 (Int32.toNatClampNeg l3)) u0) sh_150 (by decide) rfl (fun q14 => ?_)
            refine ys_callvi (n := 125) (N := mt_X12_make) dX12_makeAll_122 rfl ok_X12_make tw_1306 im_X12_make se_X12_make ⟨Nat.le_of_ble_eq_true rfl, Nat.le_of_ble_eq_true rfl⟩ [.int (u0.1 176 (Int32.toNatClampNeg c2)), .int (u0.1 174 (Int32.toNatClampNeg l3)), .int q14.1] [] rfl rfl (Nat.le_of_ble_eq_true rfl) rfl (Nat.le_of_ble_eq_true rfl) (en_X12_make m (u0.1 176 (Int32.toNatClampNeg c2)) (u0.1 174 (Int32.toNatClampNeg l3)) q14.1 q14.2) sh_150 (by decide) rfl (fun q15 => ?_)
            refine xs_istore_n (n := 126) (lv' := [some (.ref 150), some (.int q15.1), some (.int c2), some (.int l3)]) dX12_makeAll_125 rfl (Nat.le_of_ble_eq_true rfl) rfl ?_
            exact xs_gf (kj12 (q15.1, q15.2)) (And.intro rfl (And.intro rfl (And.intro rfl (And.intro rfl trivial))))
          · exact xs_gf (kj12 (l1, u0)) (And.intro rfl (And.intro rfl (And.intro rfl (And.intro rfl trivial))))
theorem el_X12_makeAll_52 (m : Nat) (K : Int32 × Int32 × xm_Y → Option (Int32 × xm_Y)) (kE : ∀ q : Int32 × Int32 × xm_Y, xs_ (fun x : Int32 => some (.int x)) sg_0 mt_X12_makeAll 138 [none, some (.int q.1), none, none] [] q.2.2 0 0 (K q)) : ∀ (n : Nat) (l1 : Int32) (l2 : Int32) (u0 : xm_Y), xs_ (fun x : Int32 => some (.int x)) sg_0 mt_X12_makeAll 52 [some (.ref 150), some (.int l1), some (.int l2), none] [] u0 0 0 ((lp_X12_makeAll_52 m n l1 l2 u0).bind K) := by
  intro n
  induction n with
  | zero =>
    intro l1 l2 u0
    exact xs_none
  | succ n ih =>
    intro l1 l2 u0
    rw [lp_X12_makeAll_52]
    refine xs_iload_n (n := 53) dX12_makeAll_52 rfl rfl ?_
    refine xs_aload_n (n := 54) dX12_makeAll_53 rfl rfl ?_
    refine ys_geti (n := 57) dX12_makeAll_54 rfl fl_X12_104 (Or.inl rfl) sh_150 ?_
    refine xs_icmp_ge (n := 60) (tgt := 138) dX12_makeAll_57 rfl rfl (fun hc7 => ?_) (fun hc7 => ?_)
    · exact xs_gf (kE (l1, l2, u0)) (And.intro rfl trivial)
    · refine xs_iload_n (n := 61) dX12_makeAll_60 rfl rfl ?_
      refine xs_if_eq (n := 64) (tgt := 138) dX12_makeAll_61 rfl rfl (fun hc8 => ?_) (fun hc8 => ?_)
      · exact xs_gf (kE (l1, l2, u0)) (And.intro rfl trivial)
      · refine xs_iconst (n := 65) (v := (0)) dX12_makeAll_64 rfl rfl ?_
        refine xs_istore_n (n := 66) (lv' := [some (.ref 150), some (.int l1), some (.int l2), some (.int (0))]) dX12_makeAll_65 rfl (Nat.le_of_ble_eq_true rfl) rfl ?_
        refine xs_reg ?_
        refine xs_fg (lv' := [some (.ref 150), some (.int l1), some (.int l2), some (.int (0))]) (And.intro rfl (And.intro rfl (And.intro rfl (And.intro rfl trivial)))) ?_
        refine el_X12_makeAll_66 m l2 _ (fun q17 => ?_) m l1 (0) u0
        refine xs_iincl (n := 135) (dv := (1)) (fun v18 => [some (.ref 150), some (.int q17.1), some (.int v18), none]) dX12_makeAll_132 rfl rfl rfl (Nat.le_of_ble_eq_true rfl) (fun _ => rfl) (fun v18 => ?_)
        refine xs_goto (n := 52) dX12_makeAll_135 rfl ?_
        exact xs_gf (ih q17.1 v18 q17.2.2) (And.intro rfl (And.intro rfl (And.intro rfl trivial)))
theorem en_X12_makeAll (m : Nat) (u0 : xm_Y) : xs_ (fun x : Int32 => some (.int x)) sg_0 mt_X12_makeAll 0 [some (.ref 150), none, none, none] [] u0 0 0 (fn_X12_makeAll m u0) := by
  refine xs_top ?_
  rw [fn_X12_makeAll]
  refine xs_aload_n (n := 1) dX12_makeAll_0 rfl rfl ?_
  refine xs_iconst (n := 2) (v := (0)) dX12_makeAll_1 rfl rfl ?_
  refine ys_puti (n := 5) dX12_makeAll_2 rfl fl_X12_104 rfl sh_150 (fun u1 => ?_)
  refine xs_iconst (n := 6) (v := (1)) dX12_makeAll_5 rfl rfl ?_
  refine xs_istore_n (n := 7) (lv' := [some (.ref 150), some (.int (1)), none, none]) dX12_makeAll_6 rfl (Nat.le_of_ble_eq_true rfl) rfl ?_
  refine xs_iconst (n := 8) (v := (0)) dX12_makeAll_7 rfl rfl ?_
  refine xs_istore_n (n := 9) (lv' := [some (.ref 150), some (.int (1)), some (.int (0)), none]) dX12_makeAll_8 rfl (Nat.le_of_ble_eq_true rfl) rfl ?_
  refine xs_reg ?_
  refine xs_fg (lv' := [some (.ref 150), some (.int (1)), some (.int (0)), none]) (And.intro rfl (And.intro rfl (And.intro rfl trivial))) ?_
  refine el_X12_makeAll_9 m _ (fun q6 => ?_) m (1) (0) u1
  refine xs_iconst (n := 51) (v := (0)) dX12_makeAll_50 rfl rfl ?_
  refine xs_istore_n (n := 52) (lv' := [some (.ref 150), some (.int q6.1), some (.int (0)), none]) dX12_makeAll_51 rfl (Nat.le_of_ble_eq_true rfl) rfl ?_
  refine xs_reg ?_
  refine xs_fg (lv' := [some (.ref 150), some (.int q6.1), some (.int (0)), none]) (And.intro rfl (And.intro rfl (And.intro rfl trivial))) ?_
  refine el_X12_makeAll_52 m _ (fun q19 => ?_) m q6.1 (0) q6.2.2
  refine xs_iload_n (n := 139) dX12_makeAll_138 rfl rfl ?_
  exact xs_zret dX12_makeAll_139 rfl rfl
def fn_X12_isAsked (m : Nat) (x0 : Int32) (u0 : xm_Y) : Option (Int32 × xm_Y) :=
  xm_chk (xm_in x0 1001) (
  xm_chk (xm_in x0 1001) (
  if (u0.1 176 (Int32.toNatClampNeg x0)) = (u0.1 177 (Int32.toNatClampNeg x0)) then (
  xm_chk (xm_in x0 1001) (
  xm_chk (xm_in x0 1001) (
  ((fn_X12_together m (u0.1 178 (Int32.toNatClampNeg x0)) (u0.1 178 (Int32.toNatClampNeg x0)) u0).bind fun q2 =>
  xm_chk (xm_in x0 1001) (
  if q2.1 = (q2.2.1 178 (Int32.toNatClampNeg x0)) then (
  xm_chk (xm_in x0 1001) (
  ((fn_X12_spread m (q2.2.1 178 (Int32.toNatClampNeg x0)) 179 q2.2).bind fun q4 =>
  xm_chk (xm_in (0) 16) (
  ((if (q4.2.1 179 (Int32.toNatClampNeg (0))) = (2) then (
  some ((1))) else (
  xm_chk (xm_in (5) 16) (
  if (q4.2.1 179 (Int32.toNatClampNeg (5))) = (2) then (
  some ((1))) else (
  xm_chk (xm_in (10) 16) (
  if (q4.2.1 179 (Int32.toNatClampNeg (10))) = (2) then (
  some ((1))) else (
  xm_chk (xm_in (15) 16) (
  if (q4.2.1 179 (Int32.toNatClampNeg (15))) = (2) then (
  some ((1))) else (
  some ((0))))))))) : Option (Int32)).bind fun q5 =>
  xm_chk (q5 = 0 ∨ q5 = 1) (some (q5, q4.2))))))) else (
  some ((1), q2.2))))))) else (
  some ((1), u0))))
theorem en_X12_isAsked (m : Nat) (x0 : Int32) (u0 : xm_Y) : xs_ (fun x : Int32 => some (.int x)) sg_0 mt_X12_isAsked 0 [some (.ref 150), some (.int x0)] [] u0 0 0 (fn_X12_isAsked m x0 u0) := by
  refine xs_top ?_
  rw [fn_X12_isAsked]
  refine xs_aload_n (n := 1) dX12_isAsked_0 rfl rfl ?_
  refine ys_getr (n := 4) dX12_isAsked_1 rfl fl_X12_95 sh_150 rfl ?_
  refine xs_iload_n (n := 5) dX12_isAsked_4 rfl rfl ?_
  refine ys_iaload (n := 6) dX12_isAsked_5 rfl sh_176 ?_
  refine xs_aload_n (n := 7) dX12_isAsked_6 rfl rfl ?_
  refine ys_getr (n := 10) dX12_isAsked_7 rfl fl_X12_98 sh_150 rfl ?_
  refine xs_iload_n (n := 11) dX12_isAsked_10 rfl rfl ?_
  refine ys_iaload (n := 12) dX12_isAsked_11 rfl sh_177 ?_
  refine xs_icmp_ne (n := 15) (tgt := 40) dX12_isAsked_12 rfl rfl (fun hc1 => ?_) (fun hc1 => ?_)
  · refine xs_aload_n (n := 16) dX12_isAsked_15 rfl rfl ?_
    refine xs_aload_n (n := 17) dX12_isAsked_16 rfl rfl ?_
    refine ys_getr (n := 20) dX12_isAsked_17 rfl fl_X12_101 sh_150 rfl ?_
    refine xs_iload_n (n := 21) dX12_isAsked_20 rfl rfl ?_
    refine ys_iaload (n := 22) dX12_isAsked_21 rfl sh_178 ?_
    refine xs_aload_n (n := 23) dX12_isAsked_22 rfl rfl ?_
    refine ys_getr (n := 26) dX12_isAsked_23 rfl fl_X12_101 sh_150 rfl ?_
    refine xs_iload_n (n := 27) dX12_isAsked_26 rfl rfl ?_
    refine ys_iaload (n := 28) dX12_isAsked_27 rfl sh_178 ?_
    refine ys_callvi (n := 31) (N := mt_X12_together) dX12_isAsked_28 rfl ok_X12_together tw_1310 im_X12_together se_X12_together ⟨Nat.le_of_ble_eq_true rfl, Nat.le_of_ble_eq_true rfl⟩ [.int (u0.1 178 (Int32.toNatClampNeg x0)), .int (u0.1 178 (Int32.toNatClampNeg x0))] [] rfl rfl (Nat.le_of_ble_eq_true rfl) rfl (Nat.le_of_ble_eq_true rfl) (en_X12_together m (u0.1 178 (Int32.toNatClampNeg x0)) (u0.1 178 (Int32.toNatClampNeg x0)) u0) sh_150 (by decide) rfl (fun q2 => ?_)
    refine xs_aload_n (n := 32) dX12_isAsked_31 rfl rfl ?_
    refine ys_getr (n := 35) dX12_isAsked_32 rfl fl_X12_101 sh_150 rfl ?_
    refine xs_iload_n (n := 36) dX12_isAsked_35 rfl rfl ?_
    refine ys_iaload (n := 37) dX12_isAsked_36 rfl sh_178 ?_
    refine xs_icmp_eq (n := 40) (tgt := 42) dX12_isAsked_37 rfl rfl (fun hc3 => ?_) (fun hc3 => ?_)
    · refine xs_aload_n (n := 43) dX12_isAsked_42 rfl rfl ?_
      refine ys_getr (n := 46) dX12_isAsked_43 rfl fl_X12_101 sh_150 rfl ?_
      refine xs_iload_n (n := 47) dX12_isAsked_46 rfl rfl ?_
      refine ys_iaload (n := 48) dX12_isAsked_47 rfl sh_178 ?_
      refine xs_aload_n (n := 49) dX12_isAsked_48 rfl rfl ?_
      refine ys_getr (n := 52) dX12_isAsked_49 rfl fl_X12_116 sh_150 rfl ?_
      refine ys_callsv (n := 55) (N := mt_X12_spread) dX12_isAsked_52 rfl ok_X12_spread tw_1314 st_X12_spread ⟨Nat.le_of_ble_eq_true rfl, Nat.le_of_ble_eq_true rfl⟩ [.int (q2.2.1 178 (Int32.toNatClampNeg x0)), .ref 179] [] rfl rfl (Nat.le_of_ble_eq_true rfl) rfl (Nat.le_of_ble_eq_true rfl) (en_X12_spread m (q2.2.1 178 (Int32.toNatClampNeg x0)) 179 sh_179 q2.2) (fun q4 => ?_)
      refine xs_aload_n (n := 56) dX12_isAsked_55 rfl rfl ?_
      refine ys_getr (n := 59) dX12_isAsked_56 rfl fl_X12_116 sh_150 rfl ?_
      refine xs_iconst (n := 60) (v := (0)) dX12_isAsked_59 rfl rfl ?_
      refine ys_iaload (n := 61) dX12_isAsked_60 rfl sh_179 ?_
      refine xs_iconst (n := 62) (v := (2)) dX12_isAsked_61 rfl rfl ?_
      refine xs_join 102 (fun q5 => [none, none]) (fun q5 => [.int q5]) (fun q5 => q4.2) (fun q5 => ?_) (fun kj6 => ?_)
      · exact xs_zret dX12_isAsked_102 rfl rfl
      · refine xs_icmp_eq (n := 65) (tgt := 97) dX12_isAsked_62 rfl rfl (fun hc7 => ?_) (fun hc7 => ?_)
        · refine xs_iconst (n := 98) (v := (1)) dX12_isAsked_97 rfl rfl ?_
          refine xs_goto (n := 102) dX12_isAsked_98 rfl ?_
          exact xs_gf (kj6 ((1))) trivial
        · refine xs_aload_n (n := 66) dX12_isAsked_65 rfl rfl ?_
          refine ys_getr (n := 69) dX12_isAsked_66 rfl fl_X12_116 sh_150 rfl ?_
          refine xs_iconst (n := 70) (v := (5)) dX12_isAsked_69 rfl rfl ?_
          refine ys_iaload (n := 71) dX12_isAsked_70 rfl sh_179 ?_
          refine xs_iconst (n := 72) (v := (2)) dX12_isAsked_71 rfl rfl ?_
          refine xs_icmp_eq (n := 75) (tgt := 97) dX12_isAsked_72 rfl rfl (fun hc8 => ?_) (fun hc8 => ?_)
          · refine xs_iconst (n := 98) (v := (1)) dX12_isAsked_97 rfl rfl ?_
            refine xs_goto (n := 102) dX12_isAsked_98 rfl ?_
            exact xs_gf (kj6 ((1))) trivial
          · refine xs_aload_n (n := 76) dX12_isAsked_75 rfl rfl ?_
            refine ys_getr (n := 79) dX12_isAsked_76 rfl fl_X12_116 sh_150 rfl ?_
            refine xs_bipush (n := 81) (v := (10)) dX12_isAsked_79 rfl rfl ?_
            refine ys_iaload (n := 82) dX12_isAsked_81 rfl sh_179 ?_
            refine xs_iconst (n := 83) (v := (2)) dX12_isAsked_82 rfl rfl ?_
            refine xs_icmp_eq (n := 86) (tgt := 97) dX12_isAsked_83 rfl rfl (fun hc9 => ?_) (fun hc9 => ?_)
            · refine xs_iconst (n := 98) (v := (1)) dX12_isAsked_97 rfl rfl ?_
              refine xs_goto (n := 102) dX12_isAsked_98 rfl ?_
              exact xs_gf (kj6 ((1))) trivial
            · refine xs_aload_n (n := 87) dX12_isAsked_86 rfl rfl ?_
              refine ys_getr (n := 90) dX12_isAsked_87 rfl fl_X12_116 sh_150 rfl ?_
              refine xs_bipush (n := 92) (v := (15)) dX12_isAsked_90 rfl rfl ?_
              refine ys_iaload (n := 93) dX12_isAsked_92 rfl sh_179 ?_
              refine xs_iconst (n := 94) (v := (2)) dX12_isAsked_93 rfl rfl ?_
              refine xs_icmp_ne (n := 97) (tgt := 101) dX12_isAsked_94 rfl rfl (fun hc10 => ?_) (fun hc10 => ?_)
              · refine xs_iconst (n := 98) (v := (1)) dX12_isAsked_97 rfl rfl ?_
                refine xs_goto (n := 102) dX12_isAsked_98 rfl ?_
                exact xs_gf (kj6 ((1))) trivial
              · refine xs_iconst (n := 102) (v := (0)) dX12_isAsked_101 rfl rfl ?_
                exact xs_gf (kj6 ((0))) trivial
    · refine xs_iconst (n := 41) (v := (1)) dX12_isAsked_40 rfl rfl ?_
      exact xs_zretc dX12_isAsked_41 rfl (Or.inr rfl) rfl
  · refine xs_iconst (n := 41) (v := (1)) dX12_isAsked_40 rfl rfl ?_
    exact xs_zretc dX12_isAsked_41 rfl (Or.inr rfl) rfl
def lp_X12_ending_24 (m : Nat) : Nat → Int32 → xm_Y → Option (Int32 × xm_Y)
  | 0, _, _ => none
  | n + 1, l1, u0 =>
  if (u0.1 150 40) ≤ l1 then (
  some (l1, u0)) else (
  ((if (u0.1 150 41) < 0 then (
  some ((1))) else (
  xm_chk (xm_in l1 1001) (
  xm_chk (xm_in (u0.1 150 41) 1001) (
  if (u0.1 176 (Int32.toNatClampNeg l1)) < (u0.1 176 (Int32.toNatClampNeg (u0.1 150 41))) then (
  some ((1))) else (
  xm_chk (xm_in l1 1001) (
  xm_chk (xm_in (u0.1 150 41) 1001) (
  if (u0.1 176 (Int32.toNatClampNeg l1)) = (u0.1 176 (Int32.toNatClampNeg (u0.1 150 41))) then (
  xm_chk (xm_in l1 1001) (
  xm_chk (xm_in (u0.1 150 41) 1001) (
  if (u0.1 178 (Int32.toNatClampNeg (u0.1 150 41))) ≤ (u0.1 178 (Int32.toNatClampNeg l1)) then (
  some ((0))) else (
  some ((1)))))) else (
  some ((0))))))))) : Option (Int32)).bind fun q6 =>
  ((fn_X12_isAsked m l1 u0).bind fun q12 =>
  ((if q12.1 = 0 then (
  if q6 = 0 then (
  some ((q12.2.1 150 41))) else (
  some (l1))) else (
  some ((q12.2.1 150 41))) : Option (Int32)).bind fun q13 =>
  xm_let (w_I q12.2 150 41 q13) fun u17 =>
  xm_let (α := Int32) (l1 + (1)) fun v18 =>
  lp_X12_ending_24 m n v18 u17))))
def fn_X12_ending (m : Nat) (u0 : xm_Y) : Option (Int32 × xm_Y) :=
  ((fn_X12_makeAll m u0).bind fun q1 =>
  if q1.1 = 0 then (
  xm_let (w_I q1.2 150 40 (1000)) fun u3 =>
  some ((-3), u3)) else (
  xm_let (w_I q1.2 150 41 (-1)) fun u4 =>
  ((lp_X12_ending_24 m m (0) u4).bind fun q19 =>
  if 0 ≤ (q19.2.1 150 41) then (
  xm_chk (xm_in (q19.2.1 150 41) 1001) (
  xm_let (w_I q19.2 150 42 (q19.2.1 176 (Int32.toNatClampNeg (q19.2.1 150 41)))) fun u21 =>
  xm_chk (xm_in (u21.1 150 41) 1001) (
  xm_let (w_I u21 150 43 (u21.1 178 (Int32.toNatClampNeg (u21.1 150 41)))) fun u22 =>
  some ((0), u22)))) else (
  some ((1), q19.2)))))
theorem el_X12_ending_24 (m : Nat) (K : Int32 × xm_Y → Option (Int32 × xm_Y)) (kE : ∀ q : Int32 × xm_Y, xs_ (fun x : Int32 => some (.int x)) sg_0 mt_X12_ending 129 [some (.ref 150), none, none] [] q.2 0 0 (K q)) : ∀ (n : Nat) (l1 : Int32) (u0 : xm_Y), xs_ (fun x : Int32 => some (.int x)) sg_0 mt_X12_ending 24 [some (.ref 150), some (.int l1), none] [] u0 0 0 ((lp_X12_ending_24 m n l1 u0).bind K) := by
  intro n
  induction n with
  | zero =>
    intro l1 u0
    exact xs_none
  | succ n ih =>
    intro l1 u0
    rw [lp_X12_ending_24]
    refine xs_iload_n (n := 25) dX12_ending_24 rfl rfl ?_
    refine xs_aload_n (n := 26) dX12_ending_25 rfl rfl ?_
    refine ys_geti (n := 29) dX12_ending_26 rfl fl_X12_104 (Or.inl rfl) sh_150 ?_
    refine xs_icmp_ge (n := 32) (tgt := 129) dX12_ending_29 rfl rfl (fun hc5 => ?_) (fun hc5 => ?_)
    · exact xs_gf (kE (l1, u0)) (And.intro rfl trivial)
    · refine xs_aload_n (n := 33) dX12_ending_32 rfl rfl ?_
      refine ys_geti (n := 36) dX12_ending_33 rfl fl_X12_107 (Or.inl rfl) sh_150 ?_
      refine xs_join 98 (fun q6 => [some (.ref 150), some (.int l1), none]) (fun q6 => [.int q6]) (fun q6 => u0) (fun q6 => ?_) (fun kj7 => ?_)
      · refine xs_istore_n (n := 99) (lv' := [some (.ref 150), some (.int l1), some (.int q6)]) dX12_ending_98 rfl (Nat.le_of_ble_eq_true rfl) rfl ?_
        refine xs_aload_n (n := 100) dX12_ending_99 rfl rfl ?_
        refine xs_aload_n (n := 101) dX12_ending_100 rfl rfl ?_
        refine xs_iload_n (n := 102) dX12_ending_101 rfl rfl ?_
        refine ys_callvi (n := 105) (N := mt_X12_isAsked) dX12_ending_102 rfl ok_X12_isAsked tw_1317 im_X12_isAsked se_X12_isAsked ⟨Nat.le_of_ble_eq_true rfl, Nat.le_of_ble_eq_true rfl⟩ [.int l1] [.ref 150] rfl rfl (Nat.le_of_ble_eq_true rfl) rfl (Nat.le_of_ble_eq_true rfl) (en_X12_isAsked m l1 u0) sh_150 (by decide) rfl (fun q12 => ?_)
        refine xs_join 120 (fun q13 => [some (.ref 150), some (.int l1), none]) (fun q13 => [.int q13, .ref 150]) (fun q13 => q12.2) (fun q13 => ?_) (fun kj14 => ?_)
        · refine ys_puti (n := 123) dX12_ending_120 rfl fl_X12_107 rfl sh_150 (fun u17 => ?_)
          refine xs_iincl (n := 126) (dv := (1)) (fun v18 => [some (.ref 150), some (.int v18), none]) dX12_ending_123 rfl rfl rfl (Nat.le_of_ble_eq_true rfl) (fun _ => rfl) (fun v18 => ?_)
          refine xs_goto (n := 24) dX12_ending_126 rfl ?_
          exact xs_gf (ih v18 u17) (And.intro rfl (And.intro rfl trivial))
        · refine xs_if_ne (n := 108) (tgt := 116) dX12_ending_105 rfl rfl (fun hc15 => ?_) (fun hc15 => ?_)
          · refine xs_iload_n (n := 109) dX12_ending_108 rfl rfl ?_
            refine xs_if_eq (n := 112) (tgt := 116) dX12_ending_109 rfl rfl (fun hc16 => ?_) (fun hc16 => ?_)
            · refine xs_aload_n (n := 117) dX12_ending_116 rfl rfl ?_
              refine ys_geti (n := 120) dX12_ending_117 rfl fl_X12_107 (Or.inl rfl) sh_150 ?_
              exact xs_gf (kj14 ((q12.2.1 150 41))) (And.intro rfl (And.intro rfl trivial))
            · refine xs_iload_n (n := 113) dX12_ending_112 rfl rfl ?_
              refine xs_goto (n := 120) dX12_ending_113 rfl ?_
              exact xs_gf (kj14 (l1)) (And.intro rfl (And.intro rfl trivial))
          · refine xs_aload_n (n := 117) dX12_ending_116 rfl rfl ?_
            refine ys_geti (n := 120) dX12_ending_117 rfl fl_X12_107 (Or.inl rfl) sh_150 ?_
            exact xs_gf (kj14 ((q12.2.1 150 41))) (And.intro rfl (And.intro rfl trivial))
      · refine xs_if_lt (n := 39) (tgt := 93) dX12_ending_36 rfl rfl (fun hc8 => ?_) (fun hc8 => ?_)
        · refine xs_iconst (n := 94) (v := (1)) dX12_ending_93 rfl rfl ?_
          refine xs_goto (n := 98) dX12_ending_94 rfl ?_
          exact xs_gf (kj7 ((1))) (And.intro rfl (And.intro rfl trivial))
        · refine xs_aload_n (n := 40) dX12_ending_39 rfl rfl ?_
          refine ys_getr (n := 43) dX12_ending_40 rfl fl_X12_95 sh_150 rfl ?_
          refine xs_iload_n (n := 44) dX12_ending_43 rfl rfl ?_
          refine ys_iaload (n := 45) dX12_ending_44 rfl sh_176 ?_
          refine xs_aload_n (n := 46) dX12_ending_45 rfl rfl ?_
          refine ys_getr (n := 49) dX12_ending_46 rfl fl_X12_95 sh_150 rfl ?_
          refine xs_aload_n (n := 50) dX12_ending_49 rfl rfl ?_
          refine ys_geti (n := 53) dX12_ending_50 rfl fl_X12_107 (Or.inl rfl) sh_150 ?_
          refine ys_iaload (n := 54) dX12_ending_53 rfl sh_176 ?_
          refine xs_icmp_lt (n := 57) (tgt := 93) dX12_ending_54 rfl rfl (fun hc9 => ?_) (fun hc9 => ?_)
          · refine xs_iconst (n := 94) (v := (1)) dX12_ending_93 rfl rfl ?_
            refine xs_goto (n := 98) dX12_ending_94 rfl ?_
            exact xs_gf (kj7 ((1))) (And.intro rfl (And.intro rfl trivial))
          · refine xs_aload_n (n := 58) dX12_ending_57 rfl rfl ?_
            refine ys_getr (n := 61) dX12_ending_58 rfl fl_X12_95 sh_150 rfl ?_
            refine xs_iload_n (n := 62) dX12_ending_61 rfl rfl ?_
            refine ys_iaload (n := 63) dX12_ending_62 rfl sh_176 ?_
            refine xs_aload_n (n := 64) dX12_ending_63 rfl rfl ?_
            refine ys_getr (n := 67) dX12_ending_64 rfl fl_X12_95 sh_150 rfl ?_
            refine xs_aload_n (n := 68) dX12_ending_67 rfl rfl ?_
            refine ys_geti (n := 71) dX12_ending_68 rfl fl_X12_107 (Or.inl rfl) sh_150 ?_
            refine ys_iaload (n := 72) dX12_ending_71 rfl sh_176 ?_
            refine xs_icmp_ne (n := 75) (tgt := 97) dX12_ending_72 rfl rfl (fun hc10 => ?_) (fun hc10 => ?_)
            · refine xs_aload_n (n := 76) dX12_ending_75 rfl rfl ?_
              refine ys_getr (n := 79) dX12_ending_76 rfl fl_X12_101 sh_150 rfl ?_
              refine xs_iload_n (n := 80) dX12_ending_79 rfl rfl ?_
              refine ys_iaload (n := 81) dX12_ending_80 rfl sh_178 ?_
              refine xs_aload_n (n := 82) dX12_ending_81 rfl rfl ?_
              refine ys_getr (n := 85) dX12_ending_82 rfl fl_X12_101 sh_150 rfl ?_
              refine xs_aload_n (n := 86) dX12_ending_85 rfl rfl ?_
              refine ys_geti (n := 89) dX12_ending_86 rfl fl_X12_107 (Or.inl rfl) sh_150 ?_
              refine ys_iaload (n := 90) dX12_ending_89 rfl sh_178 ?_
              refine xs_icmp_ge (n := 93) (tgt := 97) dX12_ending_90 rfl rfl (fun hc11 => ?_) (fun hc11 => ?_)
              · refine xs_iconst (n := 98) (v := (0)) dX12_ending_97 rfl rfl ?_
                exact xs_gf (kj7 ((0))) (And.intro rfl (And.intro rfl trivial))
              · refine xs_iconst (n := 94) (v := (1)) dX12_ending_93 rfl rfl ?_
                refine xs_goto (n := 98) dX12_ending_94 rfl ?_
                exact xs_gf (kj7 ((1))) (And.intro rfl (And.intro rfl trivial))
            · refine xs_iconst (n := 98) (v := (0)) dX12_ending_97 rfl rfl ?_
              exact xs_gf (kj7 ((0))) (And.intro rfl (And.intro rfl trivial))
theorem en_X12_ending (m : Nat) (u0 : xm_Y) : xs_ (fun x : Int32 => some (.int x)) sg_0 mt_X12_ending 0 [some (.ref 150), none, none] [] u0 0 0 (fn_X12_ending m u0) := by
  refine xs_top ?_
  rw [fn_X12_ending]
  refine xs_aload_n (n := 1) dX12_ending_0 rfl rfl ?_
  refine ys_callvi (n := 4) (N := mt_X12_makeAll) dX12_ending_1 rfl ok_X12_makeAll tw_1302 im_X12_makeAll se_X12_makeAll ⟨Nat.le_of_ble_eq_true rfl, Nat.le_of_ble_eq_true rfl⟩ [] [] rfl rfl (Nat.le_of_ble_eq_true rfl) rfl (Nat.le_of_ble_eq_true rfl) (en_X12_makeAll m u0) sh_150 (by decide) rfl (fun q1 => ?_)
  refine xs_if_ne (n := 7) (tgt := 17) dX12_ending_4 rfl rfl (fun hc2 => ?_) (fun hc2 => ?_)
  · refine xs_aload_n (n := 8) dX12_ending_7 rfl rfl ?_
    refine xs_sipush (n := 11) (v := (1000)) dX12_ending_8 rfl rfl ?_
    refine ys_puti (n := 14) dX12_ending_11 rfl fl_X12_104 rfl sh_150 (fun u3 => ?_)
    refine xs_bipush (n := 16) (v := (-3)) dX12_ending_14 rfl rfl ?_
    exact xs_iret dX12_ending_16 rfl rfl
  · refine xs_aload_n (n := 18) dX12_ending_17 rfl rfl ?_
    refine xs_iconst (n := 19) (v := (-1)) dX12_ending_18 rfl rfl ?_
    refine ys_puti (n := 22) dX12_ending_19 rfl fl_X12_107 rfl sh_150 (fun u4 => ?_)
    refine xs_iconst (n := 23) (v := (0)) dX12_ending_22 rfl rfl ?_
    refine xs_istore_n (n := 24) (lv' := [some (.ref 150), some (.int (0)), none]) dX12_ending_23 rfl (Nat.le_of_ble_eq_true rfl) rfl ?_
    refine xs_reg ?_
    refine xs_fg (lv' := [some (.ref 150), some (.int (0)), none]) (And.intro rfl (And.intro rfl trivial)) ?_
    refine el_X12_ending_24 m _ (fun q19 => ?_) m (0) u4
    refine xs_aload_n (n := 130) dX12_ending_129 rfl rfl ?_
    refine ys_geti (n := 133) dX12_ending_130 rfl fl_X12_107 (Or.inl rfl) sh_150 ?_
    refine xs_if_ge (n := 136) (tgt := 138) dX12_ending_133 rfl rfl (fun hc20 => ?_) (fun hc20 => ?_)
    · refine xs_aload_n (n := 139) dX12_ending_138 rfl rfl ?_
      refine xs_aload_n (n := 140) dX12_ending_139 rfl rfl ?_
      refine ys_getr (n := 143) dX12_ending_140 rfl fl_X12_95 sh_150 rfl ?_
      refine xs_aload_n (n := 144) dX12_ending_143 rfl rfl ?_
      refine ys_geti (n := 147) dX12_ending_144 rfl fl_X12_107 (Or.inl rfl) sh_150 ?_
      refine ys_iaload (n := 148) dX12_ending_147 rfl sh_176 ?_
      refine ys_puti (n := 151) dX12_ending_148 rfl fl_X12_110 rfl sh_150 (fun u21 => ?_)
      refine xs_aload_n (n := 152) dX12_ending_151 rfl rfl ?_
      refine xs_aload_n (n := 153) dX12_ending_152 rfl rfl ?_
      refine ys_getr (n := 156) dX12_ending_153 rfl fl_X12_101 sh_150 rfl ?_
      refine xs_aload_n (n := 157) dX12_ending_156 rfl rfl ?_
      refine ys_geti (n := 160) dX12_ending_157 rfl fl_X12_107 (Or.inl rfl) sh_150 ?_
      refine ys_iaload (n := 161) dX12_ending_160 rfl sh_178 ?_
      refine ys_puti (n := 164) dX12_ending_161 rfl fl_X12_113 rfl sh_150 (fun u22 => ?_)
      refine xs_iconst (n := 165) (v := (0)) dX12_ending_164 rfl rfl ?_
      exact xs_iret dX12_ending_165 rfl rfl
    · refine xs_iconst (n := 137) (v := (1)) dX12_ending_136 rfl rfl ?_
      exact xs_iret dX12_ending_137 rfl rfl
def fn_X12_made (m : Nat) (u0 : xm_Y) : Option (Int32 × xm_Y) :=
  some ((u0.1 150 40), u0)
theorem en_X12_made (m : Nat) (u0 : xm_Y) : xs_ (fun x : Int32 => some (.int x)) sg_0 mt_X12_made 0 [some (.ref 150)] [] u0 0 0 (fn_X12_made m u0) := by
  refine xs_top ?_
  rw [fn_X12_made]
  refine xs_aload_n (n := 1) dX12_made_0 rfl rfl ?_
  refine ys_geti (n := 4) dX12_made_1 rfl fl_X12_104 (Or.inl rfl) sh_150 ?_
  exact xs_iret dX12_made_4 rfl rfl
def fn_X12_witness (m : Nat) (x0 : Int32) (u0 : xm_Y) : Option (Int32 × xm_Y) :=
  ((if x0 = 0 then (
  some ((u0.1 150 42))) else (
  if x0 = (1) then (
  some ((u0.1 150 43))) else (
  some ((-1)))) : Option (Int32)).bind fun q1 =>
  some (q1, u0))
theorem en_X12_witness (m : Nat) (x0 : Int32) (u0 : xm_Y) : xs_ (fun x : Int32 => some (.int x)) sg_0 mt_X12_witness 0 [some (.ref 150), some (.int x0)] [] u0 0 0 (fn_X12_witness m x0 u0) := by
  refine xs_top ?_
  rw [fn_X12_witness]
  refine xs_iload_n (n := 1) dX12_witness_0 rfl rfl ?_
  refine xs_join 24 (fun q1 => [none, none]) (fun q1 => [.int q1]) (fun q1 => u0) (fun q1 => ?_) (fun kj2 => ?_)
  · exact xs_iret dX12_witness_24 rfl rfl
  · refine xs_if_ne (n := 4) (tgt := 11) dX12_witness_1 rfl rfl (fun hc3 => ?_) (fun hc3 => ?_)
    · refine xs_aload_n (n := 5) dX12_witness_4 rfl rfl ?_
      refine ys_geti (n := 8) dX12_witness_5 rfl fl_X12_110 (Or.inl rfl) sh_150 ?_
      refine xs_goto (n := 24) dX12_witness_8 rfl ?_
      exact xs_gf (kj2 ((u0.1 150 42))) trivial
    · refine xs_iload_n (n := 12) dX12_witness_11 rfl rfl ?_
      refine xs_iconst (n := 13) (v := (1)) dX12_witness_12 rfl rfl ?_
      refine xs_icmp_ne (n := 16) (tgt := 23) dX12_witness_13 rfl rfl (fun hc4 => ?_) (fun hc4 => ?_)
      · refine xs_aload_n (n := 17) dX12_witness_16 rfl rfl ?_
        refine ys_geti (n := 20) dX12_witness_17 rfl fl_X12_113 (Or.inl rfl) sh_150 ?_
        refine xs_goto (n := 24) dX12_witness_20 rfl ?_
        exact xs_gf (kj2 ((u0.1 150 43))) trivial
      · refine xs_iconst (n := 24) (v := (-1)) dX12_witness_23 rfl rfl ?_
        exact xs_gf (kj2 ((-1))) trivial
