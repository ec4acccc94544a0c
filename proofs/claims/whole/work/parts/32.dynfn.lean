def gp_X2_openAll_2 (m : Nat) (a0 : Nat) (c1 : Int32) : Nat → Int32 → xm_S → Option (Int32 × xm_S)
  | 0, _, _ => none
  | n + 1, l2, u0 =>
  if (6 : Int32) ≤ l2 then (
  some (l2, u0)) else (
  ((xm_chk (xm_ic u0 a0 2) (u0.2.2.1 a0 0)).bind fun r2 =>
  ((if ((2 : Int32) * c1) ≤ l2 then (
  some ((0 : Int64))) else (
  some ((-3000000000000 : Int64))) : Option (Int64)).bind fun q3 =>
  xm_chk (xm_ic u0 r2 14) (xm_chk (xm_in l2 (u0.2.1 r2).2) (xm_let (d_J u0 r2 (Int32.toNatClampNeg l2) q3) fun u6 =>
  xm_let (α := Int32) (l2 + (1 : Int32)) fun v7 =>
  gp_X2_openAll_2 m a0 c1 n v7 u6)))))
def gn_X2_openAll (m : Nat) (a : Nat) (x0 : Int32) (u0 : xm_S) : Option (Unit × xm_S) :=
  ((gp_X2_openAll_2 m a x0 m (0 : Int32) u0).bind fun q8 =>
  some ((), q8.2))
theorem gl_X2_openAll_2 (m : Nat) (a0 : Nat) (c1 : Int32) (K : Int32 × xm_S → Option (Unit × xm_S)) (kE : ∀ q : Int32 × xm_S, xs_ (fun _ : Unit => none) sg_i mt_X2_openAll 34 [none, none, none] [] q.2 0 0 (K q)) : ∀ (n : Nat) (l2 : Int32) (u0 : xm_S), xs_ (fun _ : Unit => none) sg_i mt_X2_openAll 2 [some (.ref a0), some (.int c1), some (.int l2)] [] u0 0 0 ((gp_X2_openAll_2 m a0 c1 n l2 u0).bind K) := by
  intro n
  induction n with
  | zero =>
    intro l2 u0
    exact xs_none
  | succ n ih =>
    intro l2 u0
    rw [gp_X2_openAll_2]
    refine xs_iload_n (n := 3) dX2_openAll_2 rfl rfl ?_
    refine xs_bipush (n := 5) (v := (6 : Int32)) dX2_openAll_3 rfl rfl ?_
    refine xs_icmp_ge (n := 8) (tgt := 34) dX2_openAll_5 rfl rfl (fun hc1 => ?_) (fun hc1 => ?_)
    · exact xs_gf (xs_end (kE (l2, u0))) trivial
    · refine xs_aload_n (n := 9) dX2_openAll_8 rfl rfl ?_
      refine zs_getr (n := 12) dX2_openAll_9 rfl fl_X2_9 (fun r2 => ?_)
      refine xs_iload_n (n := 13) dX2_openAll_12 rfl rfl ?_
      refine xs_iload_n (n := 14) dX2_openAll_13 rfl rfl ?_
      refine xs_iconst (n := 15) (v := (2 : Int32)) dX2_openAll_14 rfl rfl ?_
      refine xs_iload_n (n := 16) dX2_openAll_15 rfl rfl ?_
      refine xs_imul (n := 17) dX2_openAll_16 rfl ?_
      refine xs_join 27 (fun q3 => [some (.ref a0), some (.int c1), some (.int l2)]) (fun q3 => [.long q3, .int l2, .ref r2]) (fun q3 => u0) (fun q3 => ?_) (fun kj4 => ?_)
      · refine zs_lastore (n := 28) dX2_openAll_27 rfl (fun u6 => ?_)
        refine xs_iincl (n := 31) (dv := (1 : Int32)) (fun v7 => [some (.ref a0), some (.int c1), some (.int v7)]) dX2_openAll_28 rfl rfl rfl (Nat.le_of_ble_eq_true rfl) (fun _ => rfl) (fun v7 => ?_)
        refine xs_goto (n := 2) dX2_openAll_31 rfl ?_
        exact xs_gf (ih v7 u6) (And.intro rfl (And.intro rfl (And.intro rfl trivial)))
      · refine xs_icmp_ge (n := 20) (tgt := 26) dX2_openAll_17 rfl rfl (fun hc5 => ?_) (fun hc5 => ?_)
        · refine xs_lconst (n := 27) (v := (0 : Int64)) dX2_openAll_26 rfl rfl ?_
          exact xs_gf (xs_end (kj4 ((0 : Int64)))) (And.intro rfl (And.intro rfl (And.intro rfl trivial)))
        · refine xs_ldc2 (n := 23) (v := (-3000000000000 : Int64)) dX2_openAll_20 rfl tw_283 ?_
          refine xs_goto (n := 27) dX2_openAll_23 rfl ?_
          exact xs_gf (xs_end (kj4 ((-3000000000000 : Int64)))) (And.intro rfl (And.intro rfl (And.intro rfl trivial)))
theorem gm_X2_openAll (m : Nat) (a : Nat) (x0 : Int32) (u0 : xm_S) : xs_ (fun _ : Unit => none) sg_i mt_X2_openAll 0 [some (.ref a), some (.int x0), none] [] u0 0 0 (gn_X2_openAll m a x0 u0) := by
  refine xs_top ?_
  rw [gn_X2_openAll]
  refine xs_iconst (n := 1) (v := (0 : Int32)) dX2_openAll_0 rfl rfl ?_
  refine xs_istore_n (n := 2) (lv' := [some (.ref a), some (.int x0), some (.int (0 : Int32))]) dX2_openAll_1 rfl (Nat.le_of_ble_eq_true rfl) rfl ?_
  refine xs_reg ?_
  refine xs_fg (lv' := [some (.ref a), some (.int x0), some (.int (0 : Int32))]) (And.intro rfl (And.intro rfl (And.intro rfl trivial))) ?_
  refine gl_X2_openAll_2 m a x0 _ (fun q8 => ?_) m (0 : Int32) u0
  exact xs_vret dX2_openAll_34 rfl rfl
def gp_J7_fill_53178_5 (m : Nat) (a0 : Nat) (c1 : Int32) (c3 : Int32) : Nat → Int32 → xm_S → Option (Int32 × xm_S)
  | 0, _, _ => none
  | n + 1, l2, u0 =>
  if c3 ≤ l2 then (
  some (l2, u0)) else (
  xm_chk (xm_ic u0 a0 13) (xm_chk (xm_in l2 (u0.2.1 a0).2) (xm_let (d_I u0 a0 (Int32.toNatClampNeg l2) c1) fun u3 =>
  xm_let (α := Int32) (l2 + (1 : Int32)) fun v4 =>
  gp_J7_fill_53178_5 m a0 c1 c3 n v4 u3)))
def gn_J7_fill_53178 (m : Nat) (p0 : Nat) (x1 : Int32) (u0 : xm_S) : Option (Unit × xm_S) :=
  xm_chk (xm_ic u0 p0 13) (
  xm_let (α := Int32) ((Int32.ofNat (u0.2.1 p0).2)) fun v1 =>
  ((gp_J7_fill_53178_5 m p0 x1 v1 m (0 : Int32) u0).bind fun q5 =>
  some ((), q5.2)))
theorem gl_J7_fill_53178_5 (m : Nat) (a0 : Nat) (c1 : Int32) (c3 : Int32) (K : Int32 × xm_S → Option (Unit × xm_S)) (kE : ∀ q : Int32 × xm_S, xs_ (fun _ : Unit => none) sg_i mt_J7_fill_53178 20 [none, none, none, none] [] q.2 0 0 (K q)) : ∀ (n : Nat) (l2 : Int32) (u0 : xm_S), xs_ (fun _ : Unit => none) sg_i mt_J7_fill_53178 5 [some (.ref a0), some (.int c1), some (.int l2), some (.int c3)] [] u0 0 0 ((gp_J7_fill_53178_5 m a0 c1 c3 n l2 u0).bind K) := by
  intro n
  induction n with
  | zero =>
    intro l2 u0
    exact xs_none
  | succ n ih =>
    intro l2 u0
    rw [gp_J7_fill_53178_5]
    refine xs_iload_n (n := 6) dJ7_fill_53178_5 rfl rfl ?_
    refine xs_iload_n (n := 7) dJ7_fill_53178_6 rfl rfl ?_
    refine xs_icmp_ge (n := 10) (tgt := 20) dJ7_fill_53178_7 rfl rfl (fun hc2 => ?_) (fun hc2 => ?_)
    · exact xs_gf (xs_end (kE (l2, u0))) trivial
    · refine xs_aload_n (n := 11) dJ7_fill_53178_10 rfl rfl ?_
      refine xs_iload_n (n := 12) dJ7_fill_53178_11 rfl rfl ?_
      refine xs_iload_n (n := 13) dJ7_fill_53178_12 rfl rfl ?_
      refine zs_iastore (n := 14) dJ7_fill_53178_13 rfl (fun u3 => ?_)
      refine xs_iincl (n := 17) (dv := (1 : Int32)) (fun v4 => [some (.ref a0), some (.int c1), some (.int v4), some (.int c3)]) dJ7_fill_53178_14 rfl rfl rfl (Nat.le_of_ble_eq_true rfl) (fun _ => rfl) (fun v4 => ?_)
      refine xs_goto (n := 5) dJ7_fill_53178_17 rfl ?_
      exact xs_gf (ih v4 u3) (And.intro rfl (And.intro rfl (And.intro rfl (And.intro rfl trivial))))
theorem gm_J7_fill_53178 (m : Nat) (p0 : Nat) (x1 : Int32) (u0 : xm_S) : xs_ (fun _ : Unit => none) sg_i mt_J7_fill_53178 0 [some (.ref p0), some (.int x1), none, none] [] u0 0 0 (gn_J7_fill_53178 m p0 x1 u0) := by
  refine xs_top ?_
  rw [gn_J7_fill_53178]
  refine xs_iconst (n := 1) (v := (0 : Int32)) dJ7_fill_53178_0 rfl rfl ?_
  refine xs_istore_n (n := 2) (lv' := [some (.ref p0), some (.int x1), some (.int (0 : Int32)), none]) dJ7_fill_53178_1 rfl (Nat.le_of_ble_eq_true rfl) rfl ?_
  refine xs_aload_n (n := 3) dJ7_fill_53178_2 rfl rfl ?_
  refine zs_alen13 (n := 4) dJ7_fill_53178_3 rfl ?_
  refine xs_leti (fun v1 => ?_)
  refine xs_istore_n (n := 5) (lv' := [some (.ref p0), some (.int x1), some (.int (0 : Int32)), some (.int v1)]) dJ7_fill_53178_4 rfl (Nat.le_of_ble_eq_true rfl) rfl ?_
  refine xs_reg ?_
  refine xs_fg (lv' := [some (.ref p0), some (.int x1), some (.int (0 : Int32)), some (.int v1)]) (And.intro rfl (And.intro rfl (And.intro rfl (And.intro rfl trivial)))) ?_
  refine gl_J7_fill_53178_5 m p0 x1 v1 _ (fun q5 => ?_) m (0 : Int32) u0
  exact xs_vret dJ7_fill_53178_20 rfl rfl
def gp_X12_openAll_2 (m : Nat) (a0 : Nat) : Nat → Int32 → xm_S → Option (Int32 × xm_S)
  | 0, _, _ => none
  | n + 1, l1, u0 =>
  if (6 : Int32) ≤ l1 then (
  some (l1, u0)) else (
  ((xm_chk (xm_ic u0 a0 12) (u0.2.2.1 a0 7)).bind fun r2 =>
  xm_chk (xm_ic u0 r2 15) (xm_chk (xm_in l1 (u0.2.1 r2).2) (xm_let (d_I u0 r2 (Int32.toNatClampNeg l1) (vp_nar .boolean (1 : Int32))) fun u3 =>
  xm_let (α := Int32) (l1 + (1 : Int32)) fun v4 =>
  gp_X12_openAll_2 m a0 n v4 u3))))
def gn_X12_openAll (m : Nat) (a : Nat) (u0 : xm_S) : Option (Unit × xm_S) :=
  ((gp_X12_openAll_2 m a m (0 : Int32) u0).bind fun q5 =>
  xm_chk (xm_ic q5.2 a 12) (xm_let (d_I q5.2 a 21 (0 : Int32)) fun u6 =>
  some ((), u6)))
theorem gl_X12_openAll_2 (m : Nat) (a0 : Nat) (K : Int32 × xm_S → Option (Unit × xm_S)) (kE : ∀ q : Int32 × xm_S, xs_ (fun _ : Unit => none) sg_i mt_X12_openAll 21 [some (.ref a0), none] [] q.2 0 0 (K q)) : ∀ (n : Nat) (l1 : Int32) (u0 : xm_S), xs_ (fun _ : Unit => none) sg_i mt_X12_openAll 2 [some (.ref a0), some (.int l1)] [] u0 0 0 ((gp_X12_openAll_2 m a0 n l1 u0).bind K) := by
  intro n
  induction n with
  | zero =>
    intro l1 u0
    exact xs_none
  | succ n ih =>
    intro l1 u0
    rw [gp_X12_openAll_2]
    refine xs_iload_n (n := 3) dX12_openAll_2 rfl rfl ?_
    refine xs_bipush (n := 5) (v := (6 : Int32)) dX12_openAll_3 rfl rfl ?_
    refine xs_icmp_ge (n := 8) (tgt := 21) dX12_openAll_5 rfl rfl (fun hc1 => ?_) (fun hc1 => ?_)
    · exact xs_gf (xs_end (kE (l1, u0))) (And.intro rfl trivial)
    · refine xs_aload_n (n := 9) dX12_openAll_8 rfl rfl ?_
      refine zs_getr (n := 12) dX12_openAll_9 rfl fl_X12_30 (fun r2 => ?_)
      refine xs_iload_n (n := 13) dX12_openAll_12 rfl rfl ?_
      refine xs_iconst (n := 14) (v := (1 : Int32)) dX12_openAll_13 rfl rfl ?_
      refine zs_bastore (n := 15) dX12_openAll_14 rfl (fun u3 => ?_)
      refine xs_iincl (n := 18) (dv := (1 : Int32)) (fun v4 => [some (.ref a0), some (.int v4)]) dX12_openAll_15 rfl rfl rfl (Nat.le_of_ble_eq_true rfl) (fun _ => rfl) (fun v4 => ?_)
      refine xs_goto (n := 2) dX12_openAll_18 rfl ?_
      exact xs_gf (ih v4 u3) (And.intro rfl (And.intro rfl trivial))
theorem gm_X12_openAll (m : Nat) (a : Nat) (u0 : xm_S) : xs_ (fun _ : Unit => none) sg_i mt_X12_openAll 0 [some (.ref a), none] [] u0 0 0 (gn_X12_openAll m a u0) := by
  refine xs_top ?_
  rw [gn_X12_openAll]
  refine xs_iconst (n := 1) (v := (0 : Int32)) dX12_openAll_0 rfl rfl ?_
  refine xs_istore_n (n := 2) (lv' := [some (.ref a), some (.int (0 : Int32))]) dX12_openAll_1 rfl (Nat.le_of_ble_eq_true rfl) rfl ?_
  refine xs_reg ?_
  refine xs_fg (lv' := [some (.ref a), some (.int (0 : Int32))]) (And.intro rfl (And.intro rfl trivial)) ?_
  refine gl_X12_openAll_2 m a _ (fun q5 => ?_) m (0 : Int32) u0
  refine xs_aload_n (n := 22) dX12_openAll_21 rfl rfl ?_
  refine xs_iconst (n := 23) (v := (0 : Int32)) dX12_openAll_22 rfl rfl ?_
  refine zs_putzc (n := 26) dX12_openAll_23 rfl fl_X12_131 rfl (Or.inl rfl) (fun u6 => ?_)
  exact xs_vret dX12_openAll_26 rfl rfl
def gn_X0_init (m : Nat) (a : Nat) (u0 : xm_S) : Option (Unit × xm_S) :=
  xm_let (xm_nw u0 13 3) fun u1 =>
  xm_chk (xm_ic u1 a 0) (xm_let (d_R u1 a 0 u0.1) fun u2 =>
  some ((), u2))
theorem gm_X0_init (m : Nat) (a : Nat) (u0 : xm_S) : xs_ (fun _ : Unit => none) sg_i mt_X0_init 0 [some (.ref a)] [] u0 1 3 (gn_X0_init m a u0) := by
  refine xs_top ?_
  rw [gn_X0_init]
  refine xs_aload_n (n := 1) dX0_init_0 rfl rfl ?_
  refine xs_oinit (n := 4) dX0_init_1 rfl tw_65 ⟨Nat.le_of_ble_eq_true rfl, Nat.le_of_ble_eq_true rfl⟩ ?_
  refine xs_aload_n (n := 5) dX0_init_4 rfl rfl ?_
  refine xs_iconst (n := 6) (v := (3 : Int32)) dX0_init_5 rfl rfl ?_
  refine zs_newa13 (n := 8) dX0_init_6 rfl (by decide) rfl (by decide) (bc' := 0) (bs' := 0) ⟨by decide, by decide⟩ (fun u1 => ?_)
  refine zs_putr (n := 11) dX0_init_8 rfl fl_X0_9 ⟨rfl, rfl, rfl⟩ (fun u2 => ?_)
  exact xs_vret dX0_init_11 rfl rfl
def gn_X2_init (m : Nat) (a : Nat) (u0 : xm_S) : Option (Unit × xm_S) :=
  xm_let (xm_nw u0 14 6) fun u1 =>
  xm_chk (xm_ic u1 a 2) (xm_let (d_R u1 a 0 u0.1) fun u2 =>
  some ((), u2))
theorem gm_X2_init (m : Nat) (a : Nat) (u0 : xm_S) : xs_ (fun _ : Unit => none) sg_i mt_X2_init 0 [some (.ref a)] [] u0 1 6 (gn_X2_init m a u0) := by
  refine xs_top ?_
  rw [gn_X2_init]
  refine xs_aload_n (n := 1) dX2_init_0 rfl rfl ?_
  refine xs_oinit (n := 4) dX2_init_1 rfl tw_143 ⟨Nat.le_of_ble_eq_true rfl, Nat.le_of_ble_eq_true rfl⟩ ?_
  refine xs_aload_n (n := 5) dX2_init_4 rfl rfl ?_
  refine xs_bipush (n := 7) (v := (6 : Int32)) dX2_init_5 rfl rfl ?_
  refine zs_newa14 (n := 9) dX2_init_7 rfl (by decide) rfl (by decide) (bc' := 0) (bs' := 0) ⟨by decide, by decide⟩ (fun u1 => ?_)
  refine zs_putr (n := 12) dX2_init_9 rfl fl_X2_9 ⟨rfl, rfl, rfl⟩ (fun u2 => ?_)
  exact xs_vret dX2_init_12 rfl rfl
def gn_X3_init (m : Nat) (a : Nat) (u0 : xm_S) : Option (Unit × xm_S) :=
  xm_let (xm_nw u0 14 40) fun u1 =>
  xm_chk (xm_ic u1 a 3) (xm_let (d_R u1 a 0 u0.1) fun u2 =>
  xm_let (xm_nw u2 14 1000) fun u3 =>
  xm_chk (xm_ic u3 a 3) (xm_let (d_R u3 a 2 u2.1) fun u4 =>
  xm_let (xm_nw u4 13 2048) fun u5 =>
  xm_chk (xm_ic u5 a 3) (xm_let (d_R u5 a 4 u4.1) fun u6 =>
  xm_chk (xm_ic u6 a 3) (xm_let (d_I u6 a 5 (-1 : Int32)) fun u7 =>
  xm_chk (xm_ic u7 a 3) (xm_let (d_I u7 a 6 (-1 : Int32)) fun u8 =>
  xm_chk (xm_ic u8 a 3) (xm_let (d_I u8 a 7 (-1 : Int32)) fun u9 =>
  some ((), u9)))))))
theorem gm_X3_init (m : Nat) (a : Nat) (u0 : xm_S) : xs_ (fun _ : Unit => none) sg_i mt_X3_init 0 [some (.ref a)] [] u0 3 3088 (gn_X3_init m a u0) := by
  refine xs_top ?_
  rw [gn_X3_init]
  refine xs_aload_n (n := 1) dX3_init_0 rfl rfl ?_
  refine xs_oinit (n := 4) dX3_init_1 rfl tw_249 ⟨Nat.le_of_ble_eq_true rfl, Nat.le_of_ble_eq_true rfl⟩ ?_
  refine xs_aload_n (n := 5) dX3_init_4 rfl rfl ?_
  refine xs_bipush (n := 7) (v := (40 : Int32)) dX3_init_5 rfl rfl ?_
  refine zs_newa14 (n := 9) dX3_init_7 rfl (by decide) rfl (by decide) (bc' := 2) (bs' := 3048) ⟨by decide, by decide⟩ (fun u1 => ?_)
  refine zs_putr (n := 12) dX3_init_9 rfl fl_X3_9 ⟨rfl, rfl, rfl⟩ (fun u2 => ?_)
  refine xs_aload_n (n := 13) dX3_init_12 rfl rfl ?_
  refine xs_sipush (n := 16) (v := (1000 : Int32)) dX3_init_13 rfl rfl ?_
  refine zs_newa14 (n := 18) dX3_init_16 rfl (by decide) rfl (by decide) (bc' := 1) (bs' := 2048) ⟨by decide, by decide⟩ (fun u3 => ?_)
  refine zs_putr (n := 21) dX3_init_18 rfl fl_X3_15 ⟨rfl, rfl, rfl⟩ (fun u4 => ?_)
  refine xs_aload_n (n := 22) dX3_init_21 rfl rfl ?_
  refine xs_sipush (n := 25) (v := (2048 : Int32)) dX3_init_22 rfl rfl ?_
  refine zs_newa13 (n := 27) dX3_init_25 rfl (by decide) rfl (by decide) (bc' := 0) (bs' := 0) ⟨by decide, by decide⟩ (fun u5 => ?_)
  refine zs_putr (n := 30) dX3_init_27 rfl fl_X3_18 ⟨rfl, rfl, rfl⟩ (fun u6 => ?_)
  refine xs_aload_n (n := 31) dX3_init_30 rfl rfl ?_
  refine xs_iconst (n := 32) (v := (-1 : Int32)) dX3_init_31 rfl rfl ?_
  refine zs_puti (n := 35) dX3_init_32 rfl fl_X3_22 rfl (fun u7 => ?_)
  refine xs_aload_n (n := 36) dX3_init_35 rfl rfl ?_
  refine xs_iconst (n := 37) (v := (-1 : Int32)) dX3_init_36 rfl rfl ?_
  refine zs_puti (n := 40) dX3_init_37 rfl fl_X3_26 rfl (fun u8 => ?_)
  refine xs_aload_n (n := 41) dX3_init_40 rfl rfl ?_
  refine xs_iconst (n := 42) (v := (-1 : Int32)) dX3_init_41 rfl rfl ?_
  refine zs_puti (n := 45) dX3_init_42 rfl fl_X3_29 rfl (fun u9 => ?_)
  exact xs_vret dX3_init_45 rfl rfl
def gn_X4_init (m : Nat) (a : Nat) (u0 : xm_S) : Option (Unit × xm_S) :=
  xm_let (xm_nw u0 14 3) fun u1 =>
  xm_chk (xm_ic u1 a 4) (xm_let (d_R u1 a 0 u0.1) fun u2 =>
  xm_let (xm_nw u2 14 3) fun u3 =>
  xm_chk (xm_ic u3 a 4) (xm_let (d_R u3 a 1 u2.1) fun u4 =>
  xm_chk (xm_ic u4 a 4) (xm_let (d_I u4 a 2 (-1 : Int32)) fun u5 =>
  some ((), u5))))
theorem gm_X4_init (m : Nat) (a : Nat) (u0 : xm_S) : xs_ (fun _ : Unit => none) sg_i mt_X4_init 0 [some (.ref a)] [] u0 2 6 (gn_X4_init m a u0) := by
  refine xs_top ?_
  rw [gn_X4_init]
  refine xs_aload_n (n := 1) dX4_init_0 rfl rfl ?_
  refine xs_oinit (n := 4) dX4_init_1 rfl tw_126 ⟨Nat.le_of_ble_eq_true rfl, Nat.le_of_ble_eq_true rfl⟩ ?_
  refine xs_aload_n (n := 5) dX4_init_4 rfl rfl ?_
  refine xs_iconst (n := 6) (v := (3 : Int32)) dX4_init_5 rfl rfl ?_
  refine zs_newa14 (n := 8) dX4_init_6 rfl (by decide) rfl (by decide) (bc' := 1) (bs' := 3) ⟨by decide, by decide⟩ (fun u1 => ?_)
  refine zs_putr (n := 11) dX4_init_8 rfl fl_X4_9 ⟨rfl, rfl, rfl⟩ (fun u2 => ?_)
  refine xs_aload_n (n := 12) dX4_init_11 rfl rfl ?_
  refine xs_iconst (n := 13) (v := (3 : Int32)) dX4_init_12 rfl rfl ?_
  refine zs_newa14 (n := 15) dX4_init_13 rfl (by decide) rfl (by decide) (bc' := 0) (bs' := 0) ⟨by decide, by decide⟩ (fun u3 => ?_)
  refine zs_putr (n := 18) dX4_init_15 rfl fl_X4_15 ⟨rfl, rfl, rfl⟩ (fun u4 => ?_)
  refine xs_aload_n (n := 19) dX4_init_18 rfl rfl ?_
  refine xs_iconst (n := 20) (v := (-1 : Int32)) dX4_init_19 rfl rfl ?_
  refine zs_puti (n := 23) dX4_init_20 rfl fl_X4_18 rfl (fun u5 => ?_)
  exact xs_vret dX4_init_23 rfl rfl
def gn_X6_init (m : Nat) (a : Nat) (u0 : xm_S) : Option (Unit × xm_S) :=
  xm_let (xm_nw u0 14 512) fun u1 =>
  xm_chk (xm_ic u1 a 6) (xm_let (d_R u1 a 0 u0.1) fun u2 =>
  some ((), u2))
theorem gm_X6_init (m : Nat) (a : Nat) (u0 : xm_S) : xs_ (fun _ : Unit => none) sg_i mt_X6_init 0 [some (.ref a)] [] u0 1 512 (gn_X6_init m a u0) := by
  refine xs_top ?_
  rw [gn_X6_init]
  refine xs_aload_n (n := 1) dX6_init_0 rfl rfl ?_
  refine xs_oinit (n := 4) dX6_init_1 rfl tw_45 ⟨Nat.le_of_ble_eq_true rfl, Nat.le_of_ble_eq_true rfl⟩ ?_
  refine xs_aload_n (n := 5) dX6_init_4 rfl rfl ?_
  refine xs_sipush (n := 8) (v := (512 : Int32)) dX6_init_5 rfl rfl ?_
  refine zs_newa14 (n := 10) dX6_init_8 rfl (by decide) rfl (by decide) (bc' := 0) (bs' := 0) ⟨by decide, by decide⟩ (fun u1 => ?_)
  refine zs_putr (n := 13) dX6_init_10 rfl fl_X6_9 ⟨rfl, rfl, rfl⟩ (fun u2 => ?_)
  exact xs_vret dX6_init_13 rfl rfl
def gn_X9_init (m : Nat) (a : Nat) (u0 : xm_S) : Option (Unit × xm_S) :=
  xm_let (xm_nw u0 14 48) fun u1 =>
  xm_chk (xm_ic u1 a 9) (xm_let (d_R u1 a 0 u0.1) fun u2 =>
  xm_let (xm_nw u2 14 4) fun u3 =>
  xm_chk (xm_ic u3 a 9) (xm_let (d_R u3 a 3 u2.1) fun u4 =>
  some ((), u4)))
theorem gm_X9_init (m : Nat) (a : Nat) (u0 : xm_S) : xs_ (fun _ : Unit => none) sg_i mt_X9_init 0 [some (.ref a)] [] u0 2 52 (gn_X9_init m a u0) := by
  refine xs_top ?_
  rw [gn_X9_init]
  refine xs_aload_n (n := 1) dX9_init_0 rfl rfl ?_
  refine xs_oinit (n := 4) dX9_init_1 rfl tw_170 ⟨Nat.le_of_ble_eq_true rfl, Nat.le_of_ble_eq_true rfl⟩ ?_
  refine xs_aload_n (n := 5) dX9_init_4 rfl rfl ?_
  refine xs_bipush (n := 7) (v := (48 : Int32)) dX9_init_5 rfl rfl ?_
  refine zs_newa14 (n := 9) dX9_init_7 rfl (by decide) rfl (by decide) (bc' := 1) (bs' := 4) ⟨by decide, by decide⟩ (fun u1 => ?_)
  refine zs_putr (n := 12) dX9_init_9 rfl fl_X9_11 ⟨rfl, rfl, rfl⟩ (fun u2 => ?_)
  refine xs_aload_n (n := 13) dX9_init_12 rfl rfl ?_
  refine xs_iconst (n := 14) (v := (4 : Int32)) dX9_init_13 rfl rfl ?_
  refine zs_newa14 (n := 16) dX9_init_14 rfl (by decide) rfl (by decide) (bc' := 0) (bs' := 0) ⟨by decide, by decide⟩ (fun u3 => ?_)
  refine zs_putr (n := 19) dX9_init_16 rfl fl_X9_15 ⟨rfl, rfl, rfl⟩ (fun u4 => ?_)
  exact xs_vret dX9_init_19 rfl rfl
def gn_X10_init (m : Nat) (a : Nat) (u0 : xm_S) : Option (Unit × xm_S) :=
  xm_let (xm_nw u0 13 3) fun u1 =>
  xm_chk (xm_ic u1 a 10) (xm_let (d_R u1 a 0 u0.1) fun u2 =>
  some ((), u2))
theorem gm_X10_init (m : Nat) (a : Nat) (u0 : xm_S) : xs_ (fun _ : Unit => none) sg_i mt_X10_init 0 [some (.ref a)] [] u0 1 3 (gn_X10_init m a u0) := by
  refine xs_top ?_
  rw [gn_X10_init]
  refine xs_aload_n (n := 1) dX10_init_0 rfl rfl ?_
  refine xs_oinit (n := 4) dX10_init_1 rfl tw_195 ⟨Nat.le_of_ble_eq_true rfl, Nat.le_of_ble_eq_true rfl⟩ ?_
  refine xs_aload_n (n := 5) dX10_init_4 rfl rfl ?_
  refine xs_iconst (n := 6) (v := (3 : Int32)) dX10_init_5 rfl rfl ?_
  refine zs_newa13 (n := 8) dX10_init_6 rfl (by decide) rfl (by decide) (bc' := 0) (bs' := 0) ⟨by decide, by decide⟩ (fun u1 => ?_)
  refine zs_putr (n := 11) dX10_init_8 rfl fl_X10_9 ⟨rfl, rfl, rfl⟩ (fun u2 => ?_)
  exact xs_vret dX10_init_11 rfl rfl
def gn_X5_init (m : Nat) (a : Nat) (u0 : xm_S) : Option (Unit × xm_S) :=
  xm_let (xm_nw u0 10 0) fun u1 =>
  ((gn_X10_init m u0.1 u1).bind fun q2 => xm_chk (q2.2.1 = u1.1 + 1) (
  xm_chk (xm_ic q2.2 a 5) (xm_let (d_R q2.2 a 0 u0.1) fun u3 =>
  xm_let (xm_nw u3 13 15) fun u4 =>
  xm_chk (xm_ic u4 a 5) (xm_let (d_R u4 a 1 u3.1) fun u5 =>
  xm_let (xm_nw u5 13 5) fun u6 =>
  xm_chk (xm_ic u6 a 5) (xm_let (d_R u6 a 3 u5.1) fun u7 =>
  xm_let (xm_nw u7 13 3) fun u8 =>
  xm_chk (xm_ic u8 a 5) (xm_let (d_R u8 a 4 u7.1) fun u9 =>
  ((xm_chk (xm_ic u9 a 5) (u9.2.2.1 a 3)).bind fun r10 =>
  ((gn_J7_fill_53178 m r10 (-1 : Int32) u9).bind fun q11 => xm_chk (q11.2.1 = u9.1 + 0) (
  some ((), q11.2))))))))))
theorem gm_X5_init (m : Nat) (a : Nat) (u0 : xm_S) : xs_ (fun _ : Unit => none) sg_i mt_X5_init 0 [some (.ref a)] [] u0 5 32 (gn_X5_init m a u0) := by
  refine xs_top ?_
  rw [gn_X5_init]
  refine xs_aload_n (n := 1) dX5_init_0 rfl rfl ?_
  refine xs_oinit (n := 4) dX5_init_1 rfl tw_189 ⟨Nat.le_of_ble_eq_true rfl, Nat.le_of_ble_eq_true rfl⟩ ?_
  refine xs_aload_n (n := 5) dX5_init_4 rfl rfl ?_
  refine zs_new (n := 8) dX5_init_5 rfl tw_190 tw_191 tw_11 xc_10 xd_10 (bc' := 4) (bs' := 26) ⟨by decide, by decide⟩ (fun u1 => ?_)
  refine xs_dup (n := 9) dX5_init_8 rfl rfl ?_
  refine zs_callcn (n := 12) (Nm := mt_X10_init) (mc := 1) (ms := 3) (bc' := 3) (bs' := 23) dX5_init_9 rfl ok_X10_init tn_192 im_X10_init rfl rfl ⟨Nat.le_of_ble_eq_true rfl, Nat.le_of_ble_eq_true rfl⟩ [.ref u0.1, .ref a] rfl rfl (Nat.le_of_ble_eq_true rfl) rfl (Nat.le_of_ble_eq_true rfl) ⟨by decide, by decide⟩ (gm_X10_init m u0.1 u1) (fun q2 => ?_)
  refine zs_putr (n := 15) dX5_init_12 rfl fl_X5_12 ⟨rfl, rfl, rfl⟩ (fun u3 => ?_)
  refine xs_aload_n (n := 16) dX5_init_15 rfl rfl ?_
  refine xs_bipush (n := 18) (v := (15 : Int32)) dX5_init_16 rfl rfl ?_
  refine zs_newa13 (n := 20) dX5_init_18 rfl (by decide) rfl (by decide) (bc' := 2) (bs' := 8) ⟨by decide, by decide⟩ (fun u4 => ?_)
  refine zs_putr (n := 23) dX5_init_20 rfl fl_X5_18 ⟨rfl, rfl, rfl⟩ (fun u5 => ?_)
  refine xs_aload_n (n := 24) dX5_init_23 rfl rfl ?_
  refine xs_iconst (n := 25) (v := (5 : Int32)) dX5_init_24 rfl rfl ?_
  refine zs_newa13 (n := 27) dX5_init_25 rfl (by decide) rfl (by decide) (bc' := 1) (bs' := 3) ⟨by decide, by decide⟩ (fun u6 => ?_)
  refine zs_putr (n := 30) dX5_init_27 rfl fl_X5_22 ⟨rfl, rfl, rfl⟩ (fun u7 => ?_)
  refine xs_aload_n (n := 31) dX5_init_30 rfl rfl ?_
  refine xs_iconst (n := 32) (v := (3 : Int32)) dX5_init_31 rfl rfl ?_
  refine zs_newa13 (n := 34) dX5_init_32 rfl (by decide) rfl (by decide) (bc' := 0) (bs' := 0) ⟨by decide, by decide⟩ (fun u8 => ?_)
  refine zs_putr (n := 37) dX5_init_34 rfl fl_X5_25 ⟨rfl, rfl, rfl⟩ (fun u9 => ?_)
  refine xs_aload_n (n := 38) dX5_init_37 rfl rfl ?_
  refine zs_getr (n := 41) dX5_init_38 rfl fl_X5_22 (fun r10 => ?_)
  refine xs_iconst (n := 42) (v := (-1 : Int32)) dX5_init_41 rfl rfl ?_
  refine zs_callsv (n := 45) (Nm := mt_J7_fill_53178) dX5_init_42 rfl ok_J7_fill_53178 tw_216 st_J7_fill_53178 ⟨Nat.le_of_ble_eq_true rfl, Nat.le_of_ble_eq_true rfl⟩ [.ref r10, .int (-1 : Int32)] [] rfl rfl (Nat.le_of_ble_eq_true rfl) rfl (Nat.le_of_ble_eq_true rfl) (gm_J7_fill_53178 m r10 (-1 : Int32) u9) (fun q11 => ?_)
  exact xs_vret dX5_init_45 rfl rfl
def gn_X8_init (m : Nat) (a : Nat) (u0 : xm_S) : Option (Unit × xm_S) :=
  xm_let (xm_nw u0 2 0) fun u1 =>
  ((gn_X2_init m u0.1 u1).bind fun q2 => xm_chk (q2.2.1 = u1.1 + 1) (
  xm_chk (xm_ic q2.2 a 8) (xm_let (d_R q2.2 a 0 u0.1) fun u3 =>
  xm_let (xm_nw u3 2 0) fun u4 =>
  ((gn_X2_init m u3.1 u4).bind fun q5 => xm_chk (q5.2.1 = u4.1 + 1) (
  xm_chk (xm_ic q5.2 a 8) (xm_let (d_R q5.2 a 1 u3.1) fun u6 =>
  some ((), u6)))))))
theorem gm_X8_init (m : Nat) (a : Nat) (u0 : xm_S) : xs_ (fun _ : Unit => none) sg_i mt_X8_init 0 [some (.ref a)] [] u0 4 14 (gn_X8_init m a u0) := by
  refine xs_top ?_
  rw [gn_X8_init]
  refine xs_aload_n (n := 1) dX8_init_0 rfl rfl ?_
  refine xs_oinit (n := 4) dX8_init_1 rfl tw_154 ⟨Nat.le_of_ble_eq_true rfl, Nat.le_of_ble_eq_true rfl⟩ ?_
  refine xs_aload_n (n := 5) dX8_init_4 rfl rfl ?_
  refine zs_new (n := 8) dX8_init_5 rfl tw_155 tw_139 tw_7 xc_2 xd_2 (bc' := 3) (bs' := 13) ⟨by decide, by decide⟩ (fun u1 => ?_)
  refine xs_dup (n := 9) dX8_init_8 rfl rfl ?_
  refine zs_callcn (n := 12) (Nm := mt_X2_init) (mc := 1) (ms := 6) (bc' := 2) (bs' := 7) dX8_init_9 rfl ok_X2_init tn_156 im_X2_init rfl rfl ⟨Nat.le_of_ble_eq_true rfl, Nat.le_of_ble_eq_true rfl⟩ [.ref u0.1, .ref a] rfl rfl (Nat.le_of_ble_eq_true rfl) rfl (Nat.le_of_ble_eq_true rfl) ⟨by decide, by decide⟩ (gm_X2_init m u0.1 u1) (fun q2 => ?_)
  refine zs_putr (n := 15) dX8_init_12 rfl fl_X8_12 ⟨rfl, rfl, rfl⟩ (fun u3 => ?_)
  refine xs_aload_n (n := 16) dX8_init_15 rfl rfl ?_
  refine zs_new (n := 19) dX8_init_16 rfl tw_155 tw_139 tw_7 xc_2 xd_2 (bc' := 1) (bs' := 6) ⟨by decide, by decide⟩ (fun u4 => ?_)
  refine xs_dup (n := 20) dX8_init_19 rfl rfl ?_
  refine zs_callcn (n := 23) (Nm := mt_X2_init) (mc := 1) (ms := 6) (bc' := 0) (bs' := 0) dX8_init_20 rfl ok_X2_init tn_156 im_X2_init rfl rfl ⟨Nat.le_of_ble_eq_true rfl, Nat.le_of_ble_eq_true rfl⟩ [.ref u3.1, .ref a] rfl rfl (Nat.le_of_ble_eq_true rfl) rfl (Nat.le_of_ble_eq_true rfl) ⟨by decide, by decide⟩ (gm_X2_init m u3.1 u4) (fun q5 => ?_)
  refine zs_putr (n := 26) dX8_init_23 rfl fl_X8_18 ⟨rfl, rfl, rfl⟩ (fun u6 => ?_)
  exact xs_vret dX8_init_26 rfl rfl
def gn_X1_init (m : Nat) (a : Nat) (u0 : xm_S) : Option (Unit × xm_S) :=
  xm_let (xm_nw u0 16 6) fun u1 =>
  xm_chk (xm_ic u1 a 1) (xm_let (d_R u1 a 0 u0.1) fun u2 =>
  xm_let (xm_nw u2 16 3) fun u3 =>
  xm_chk (xm_ic u3 a 1) (xm_let (d_R u3 a 1 u2.1) fun u4 =>
  xm_let (xm_nw u4 6 0) fun u5 =>
  ((gn_X6_init m u4.1 u5).bind fun q6 => xm_chk (q6.2.1 = u5.1 + 1) (
  xm_chk (xm_ic q6.2 a 1) (xm_let (d_R q6.2 a 2 u4.1) fun u7 =>
  xm_let (xm_nw u7 14 3) fun u8 =>
  xm_chk (xm_ic u8 a 1) (xm_let (d_R u8 a 3 u7.1) fun u9 =>
  ((xm_chk (xm_ic u9 a 1) (u9.2.2.1 a 0)).bind fun r10 =>
  xm_let (xm_nw u9 0 0) fun u11 =>
  ((gn_X0_init m u9.1 u11).bind fun q12 => xm_chk (q12.2.1 = u11.1 + 1) (
  xm_chk (xm_ic q12.2 r10 16) (xm_chk (xm_ic q12.2 u9.1 0) (xm_chk (xm_in (0 : Int32) (q12.2.2.1 r10).2) (xm_let (d_R q12.2 r10 (Int32.toNatClampNeg (0 : Int32)) u9.1) fun u13 =>
  ((xm_chk (xm_ic u13 a 1) (u13.2.2.1 a 0)).bind fun r14 =>
  xm_let (xm_nw u13 0 0) fun u15 =>
  ((gn_X0_init m u13.1 u15).bind fun q16 => xm_chk (q16.2.1 = u15.1 + 1) (
  xm_chk (xm_ic q16.2 r14 16) (xm_chk (xm_ic q16.2 u13.1 0) (xm_chk (xm_in (1 : Int32) (q16.2.2.1 r14).2) (xm_let (d_R q16.2 r14 (Int32.toNatClampNeg (1 : Int32)) u13.1) fun u17 =>
  ((xm_chk (xm_ic u17 a 1) (u17.2.2.1 a 0)).bind fun r18 =>
  xm_let (xm_nw u17 0 0) fun u19 =>
  ((gn_X0_init m u17.1 u19).bind fun q20 => xm_chk (q20.2.1 = u19.1 + 1) (
  xm_chk (xm_ic q20.2 r18 16) (xm_chk (xm_ic q20.2 u17.1 0) (xm_chk (xm_in (2 : Int32) (q20.2.2.1 r18).2) (xm_let (d_R q20.2 r18 (Int32.toNatClampNeg (2 : Int32)) u17.1) fun u21 =>
  ((xm_chk (xm_ic u21 a 1) (u21.2.2.1 a 0)).bind fun r22 =>
  xm_let (xm_nw u21 0 0) fun u23 =>
  ((gn_X0_init m u21.1 u23).bind fun q24 => xm_chk (q24.2.1 = u23.1 + 1) (
  xm_chk (xm_ic q24.2 r22 16) (xm_chk (xm_ic q24.2 u21.1 0) (xm_chk (xm_in (3 : Int32) (q24.2.2.1 r22).2) (xm_let (d_R q24.2 r22 (Int32.toNatClampNeg (3 : Int32)) u21.1) fun u25 =>
  ((xm_chk (xm_ic u25 a 1) (u25.2.2.1 a 0)).bind fun r26 =>
  xm_let (xm_nw u25 0 0) fun u27 =>
  ((gn_X0_init m u25.1 u27).bind fun q28 => xm_chk (q28.2.1 = u27.1 + 1) (
  xm_chk (xm_ic q28.2 r26 16) (xm_chk (xm_ic q28.2 u25.1 0) (xm_chk (xm_in (4 : Int32) (q28.2.2.1 r26).2) (xm_let (d_R q28.2 r26 (Int32.toNatClampNeg (4 : Int32)) u25.1) fun u29 =>
  ((xm_chk (xm_ic u29 a 1) (u29.2.2.1 a 0)).bind fun r30 =>
  xm_let (xm_nw u29 0 0) fun u31 =>
  ((gn_X0_init m u29.1 u31).bind fun q32 => xm_chk (q32.2.1 = u31.1 + 1) (
  xm_chk (xm_ic q32.2 r30 16) (xm_chk (xm_ic q32.2 u29.1 0) (xm_chk (xm_in (5 : Int32) (q32.2.2.1 r30).2) (xm_let (d_R q32.2 r30 (Int32.toNatClampNeg (5 : Int32)) u29.1) fun u33 =>
  ((xm_chk (xm_ic u33 a 1) (u33.2.2.1 a 1)).bind fun r34 =>
  xm_let (xm_nw u33 0 0) fun u35 =>
  ((gn_X0_init m u33.1 u35).bind fun q36 => xm_chk (q36.2.1 = u35.1 + 1) (
  xm_chk (xm_ic q36.2 r34 16) (xm_chk (xm_ic q36.2 u33.1 0) (xm_chk (xm_in (0 : Int32) (q36.2.2.1 r34).2) (xm_let (d_R q36.2 r34 (Int32.toNatClampNeg (0 : Int32)) u33.1) fun u37 =>
  ((xm_chk (xm_ic u37 a 1) (u37.2.2.1 a 1)).bind fun r38 =>
  xm_let (xm_nw u37 0 0) fun u39 =>
  ((gn_X0_init m u37.1 u39).bind fun q40 => xm_chk (q40.2.1 = u39.1 + 1) (
  xm_chk (xm_ic q40.2 r38 16) (xm_chk (xm_ic q40.2 u37.1 0) (xm_chk (xm_in (1 : Int32) (q40.2.2.1 r38).2) (xm_let (d_R q40.2 r38 (Int32.toNatClampNeg (1 : Int32)) u37.1) fun u41 =>
  ((xm_chk (xm_ic u41 a 1) (u41.2.2.1 a 1)).bind fun r42 =>
  xm_let (xm_nw u41 0 0) fun u43 =>
  ((gn_X0_init m u41.1 u43).bind fun q44 => xm_chk (q44.2.1 = u43.1 + 1) (
  xm_chk (xm_ic q44.2 r42 16) (xm_chk (xm_ic q44.2 u41.1 0) (xm_chk (xm_in (2 : Int32) (q44.2.2.1 r42).2) (xm_let (d_R q44.2 r42 (Int32.toNatClampNeg (2 : Int32)) u41.1) fun u45 =>
  some ((), u45)))))))))))))))))))))))))))))))))))))))))))))))))))))))))))))
theorem gm_X1_init (m : Nat) (a : Nat) (u0 : xm_S) : xs_ (fun _ : Unit => none) sg_i mt_X1_init 0 [some (.ref a), none] [] u0 23 573 (gn_X1_init m a u0) := by
  refine xs_top ?_
  rw [gn_X1_init]
  refine xs_aload_n (n := 1) dX1_init_0 rfl rfl ?_
  refine xs_oinit (n := 4) dX1_init_1 rfl tw_37 ⟨Nat.le_of_ble_eq_true rfl, Nat.le_of_ble_eq_true rfl⟩ ?_
  refine xs_aload_n (n := 5) dX1_init_4 rfl rfl ?_
  refine xs_bipush (n := 7) (v := (6 : Int32)) dX1_init_5 rfl rfl ?_
  refine zs_newq16 (n := 10) dX1_init_7 rfl tw_38 (by decide) rfl (by decide) (bc' := 22) (bs' := 567) ⟨by decide, by decide⟩ (fun u1 => ?_)
  refine zs_putr (n := 13) dX1_init_10 rfl fl_X1_11 ⟨rfl, rfl, rfl⟩ (fun u2 => ?_)
  refine xs_aload_n (n := 14) dX1_init_13 rfl rfl ?_
  refine xs_iconst (n := 15) (v := (3 : Int32)) dX1_init_14 rfl rfl ?_
  refine zs_newq16 (n := 18) dX1_init_15 rfl tw_38 (by decide) rfl (by decide) (bc' := 21) (bs' := 564) ⟨by decide, by decide⟩ (fun u3 => ?_)
  refine zs_putr (n := 21) dX1_init_18 rfl fl_X1_17 ⟨rfl, rfl, rfl⟩ (fun u4 => ?_)
  refine xs_aload_n (n := 22) dX1_init_21 rfl rfl ?_
  refine zs_new (n := 25) dX1_init_22 rfl tw_40 tw_41 tw_4 xc_6 xd_6 (bc' := 20) (bs' := 560) ⟨by decide, by decide⟩ (fun u5 => ?_)
  refine xs_dup (n := 26) dX1_init_25 rfl rfl ?_
  refine zs_callcn (n := 29) (Nm := mt_X6_init) (mc := 1) (ms := 512) (bc' := 19) (bs' := 48) dX1_init_26 rfl ok_X6_init tn_42 im_X6_init rfl rfl ⟨Nat.le_of_ble_eq_true rfl, Nat.le_of_ble_eq_true rfl⟩ [.ref u4.1, .ref a] rfl rfl (Nat.le_of_ble_eq_true rfl) rfl (Nat.le_of_ble_eq_true rfl) ⟨by decide, by decide⟩ (gm_X6_init m u4.1 u5) (fun q6 => ?_)
  refine zs_putr (n := 32) dX1_init_29 rfl fl_X1_23 ⟨rfl, rfl, rfl⟩ (fun u7 => ?_)
  refine xs_aload_n (n := 33) dX1_init_32 rfl rfl ?_
  refine xs_iconst (n := 34) (v := (3 : Int32)) dX1_init_33 rfl rfl ?_
  refine zs_newa14 (n := 36) dX1_init_34 rfl (by decide) rfl (by decide) (bc' := 18) (bs' := 45) ⟨by decide, by decide⟩ (fun u8 => ?_)
  refine zs_putr (n := 39) dX1_init_36 rfl fl_X1_27 ⟨rfl, rfl, rfl⟩ (fun u9 => ?_)
  refine xs_iconst (n := 40) (v := (0 : Int32)) dX1_init_39 rfl rfl ?_
  refine xs_istore_n (n := 41) (lv' := [some (.ref a), some (.int (0 : Int32))]) dX1_init_40 rfl (Nat.le_of_ble_eq_true rfl) rfl ?_
  refine xs_iload_n (n := 42) dX1_init_41 rfl rfl ?_
  refine xs_bipush (n := 44) (v := (6 : Int32)) dX1_init_42 rfl rfl ?_
  refine xs_icmp_ge_n (n := 47) (tgt := 66) dX1_init_44 rfl rfl (by decide) ?_
  refine xs_aload_n (n := 48) dX1_init_47 rfl rfl ?_
  refine zs_getr (n := 51) dX1_init_48 rfl fl_X1_11 (fun r10 => ?_)
  refine xs_iload_n (n := 52) dX1_init_51 rfl rfl ?_
  refine zs_new (n := 55) dX1_init_52 rfl tw_38 tw_61 tw_5 xc_0 xd_0 (bc' := 17) (bs' := 43) ⟨by decide, by decide⟩ (fun u11 => ?_)
  refine xs_dup (n := 56) dX1_init_55 rfl rfl ?_
  refine zs_callcn (n := 59) (Nm := mt_X0_init) (mc := 1) (ms := 3) (bc' := 16) (bs' := 40) dX1_init_56 rfl ok_X0_init tn_62 im_X0_init rfl rfl ⟨Nat.le_of_ble_eq_true rfl, Nat.le_of_ble_eq_true rfl⟩ [.ref u9.1, .int (0 : Int32), .ref r10] rfl rfl (Nat.le_of_ble_eq_true rfl) rfl (Nat.le_of_ble_eq_true rfl) ⟨by decide, by decide⟩ (gm_X0_init m u9.1 u11) (fun q12 => ?_)
  refine zs_aastore16 (n := 60) dX1_init_59 rfl (fun u13 => ?_)
  refine xs_iinc (n := 63) (v := (1 : Int32)) (lv' := [some (.ref a), some (.int (1 : Int32))]) dX1_init_60 rfl rfl rfl (Nat.le_of_ble_eq_true rfl) rfl ?_
  refine xs_goto (n := 41) dX1_init_63 rfl ?_
  refine xs_iload_n (n := 42) dX1_init_41 rfl rfl ?_
  refine xs_bipush (n := 44) (v := (6 : Int32)) dX1_init_42 rfl rfl ?_
  refine xs_icmp_ge_n (n := 47) (tgt := 66) dX1_init_44 rfl rfl (by decide) ?_
  refine xs_aload_n (n := 48) dX1_init_47 rfl rfl ?_
  refine zs_getr (n := 51) dX1_init_48 rfl fl_X1_11 (fun r14 => ?_)
  refine xs_iload_n (n := 52) dX1_init_51 rfl rfl ?_
  refine zs_new (n := 55) dX1_init_52 rfl tw_38 tw_61 tw_5 xc_0 xd_0 (bc' := 15) (bs' := 38) ⟨by decide, by decide⟩ (fun u15 => ?_)
  refine xs_dup (n := 56) dX1_init_55 rfl rfl ?_
  refine zs_callcn (n := 59) (Nm := mt_X0_init) (mc := 1) (ms := 3) (bc' := 14) (bs' := 35) dX1_init_56 rfl ok_X0_init tn_62 im_X0_init rfl rfl ⟨Nat.le_of_ble_eq_true rfl, Nat.le_of_ble_eq_true rfl⟩ [.ref u13.1, .int (1 : Int32), .ref r14] rfl rfl (Nat.le_of_ble_eq_true rfl) rfl (Nat.le_of_ble_eq_true rfl) ⟨by decide, by decide⟩ (gm_X0_init m u13.1 u15) (fun q16 => ?_)
  refine zs_aastore16 (n := 60) dX1_init_59 rfl (fun u17 => ?_)
  refine xs_iinc (n := 63) (v := (2 : Int32)) (lv' := [some (.ref a), some (.int (2 : Int32))]) dX1_init_60 rfl rfl rfl (Nat.le_of_ble_eq_true rfl) rfl ?_
  refine xs_goto (n := 41) dX1_init_63 rfl ?_
  refine xs_iload_n (n := 42) dX1_init_41 rfl rfl ?_
  refine xs_bipush (n := 44) (v := (6 : Int32)) dX1_init_42 rfl rfl ?_
  refine xs_icmp_ge_n (n := 47) (tgt := 66) dX1_init_44 rfl rfl (by decide) ?_
  refine xs_aload_n (n := 48) dX1_init_47 rfl rfl ?_
  refine zs_getr (n := 51) dX1_init_48 rfl fl_X1_11 (fun r18 => ?_)
  refine xs_iload_n (n := 52) dX1_init_51 rfl rfl ?_
  refine zs_new (n := 55) dX1_init_52 rfl tw_38 tw_61 tw_5 xc_0 xd_0 (bc' := 13) (bs' := 33) ⟨by decide, by decide⟩ (fun u19 => ?_)
  refine xs_dup (n := 56) dX1_init_55 rfl rfl ?_
  refine zs_callcn (n := 59) (Nm := mt_X0_init) (mc := 1) (ms := 3) (bc' := 12) (bs' := 30) dX1_init_56 rfl ok_X0_init tn_62 im_X0_init rfl rfl ⟨Nat.le_of_ble_eq_true rfl, Nat.le_of_ble_eq_true rfl⟩ [.ref u17.1, .int (2 : Int32), .ref r18] rfl rfl (Nat.le_of_ble_eq_true rfl) rfl (Nat.le_of_ble_eq_true rfl) ⟨by decide, by decide⟩ (gm_X0_init m u17.1 u19) (fun q20 => ?_)
  refine zs_aastore16 (n := 60) dX1_init_59 rfl (fun u21 => ?_)
  refine xs_iinc (n := 63) (v := (3 : Int32)) (lv' := [some (.ref a), some (.int (3 : Int32))]) dX1_init_60 rfl rfl rfl (Nat.le_of_ble_eq_true rfl) rfl ?_
  refine xs_goto (n := 41) dX1_init_63 rfl ?_
  refine xs_iload_n (n := 42) dX1_init_41 rfl rfl ?_
  refine xs_bipush (n := 44) (v := (6 : Int32)) dX1_init_42 rfl rfl ?_
  refine xs_icmp_ge_n (n := 47) (tgt := 66) dX1_init_44 rfl rfl (by decide) ?_
  refine xs_aload_n (n := 48) dX1_init_47 rfl rfl ?_
  refine zs_getr (n := 51) dX1_init_48 rfl fl_X1_11 (fun r22 => ?_)
  refine xs_iload_n (n := 52) dX1_init_51 rfl rfl ?_
  refine zs_new (n := 55) dX1_init_52 rfl tw_38 tw_61 tw_5 xc_0 xd_0 (bc' := 11) (bs' := 28) ⟨by decide, by decide⟩ (fun u23 => ?_)
  refine xs_dup (n := 56) dX1_init_55 rfl rfl ?_
  refine zs_callcn (n := 59) (Nm := mt_X0_init) (mc := 1) (ms := 3) (bc' := 10) (bs' := 25) dX1_init_56 rfl ok_X0_init tn_62 im_X0_init rfl rfl ⟨Nat.le_of_ble_eq_true rfl, Nat.le_of_ble_eq_true rfl⟩ [.ref u21.1, .int (3 : Int32), .ref r22] rfl rfl (Nat.le_of_ble_eq_true rfl) rfl (Nat.le_of_ble_eq_true rfl) ⟨by decide, by decide⟩ (gm_X0_init m u21.1 u23) (fun q24 => ?_)
  refine zs_aastore16 (n := 60) dX1_init_59 rfl (fun u25 => ?_)
  refine xs_iinc (n := 63) (v := (4 : Int32)) (lv' := [some (.ref a), some (.int (4 : Int32))]) dX1_init_60 rfl rfl rfl (Nat.le_of_ble_eq_true rfl) rfl ?_
  refine xs_goto (n := 41) dX1_init_63 rfl ?_
  refine xs_iload_n (n := 42) dX1_init_41 rfl rfl ?_
  refine xs_bipush (n := 44) (v := (6 : Int32)) dX1_init_42 rfl rfl ?_
  refine xs_icmp_ge_n (n := 47) (tgt := 66) dX1_init_44 rfl rfl (by decide) ?_
  refine xs_aload_n (n := 48) dX1_init_47 rfl rfl ?_
  refine zs_getr (n := 51) dX1_init_48 rfl fl_X1_11 (fun r26 => ?_)
  refine xs_iload_n (n := 52) dX1_init_51 rfl rfl ?_
  refine zs_new (n := 55) dX1_init_52 rfl tw_38 tw_61 tw_5 xc_0 xd_0 (bc' := 9) (bs' := 23) ⟨by decide, by decide⟩ (fun u27 => ?_)
  refine xs_dup (n := 56) dX1_init_55 rfl rfl ?_
  refine zs_callcn (n := 59) (Nm := mt_X0_init) (mc := 1) (ms := 3) (bc' := 8) (bs' := 20) dX1_init_56 rfl ok_X0_init tn_62 im_X0_init rfl rfl ⟨Nat.le_of_ble_eq_true rfl, Nat.le_of_ble_eq_true rfl⟩ [.ref u25.1, .int (4 : Int32), .ref r26] rfl rfl (Nat.le_of_ble_eq_true rfl) rfl (Nat.le_of_ble_eq_true rfl) ⟨by decide, by decide⟩ (gm_X0_init m u25.1 u27) (fun q28 => ?_)
  refine zs_aastore16 (n := 60) dX1_init_59 rfl (fun u29 => ?_)
  refine xs_iinc (n := 63) (v := (5 : Int32)) (lv' := [some (.ref a), some (.int (5 : Int32))]) dX1_init_60 rfl rfl rfl (Nat.le_of_ble_eq_true rfl) rfl ?_
  refine xs_goto (n := 41) dX1_init_63 rfl ?_
  refine xs_iload_n (n := 42) dX1_init_41 rfl rfl ?_
  refine xs_bipush (n := 44) (v := (6 : Int32)) dX1_init_42 rfl rfl ?_
  refine xs_icmp_ge_n (n := 47) (tgt := 66) dX1_init_44 rfl rfl (by decide) ?_
  refine xs_aload_n (n := 48) dX1_init_47 rfl rfl ?_
  refine zs_getr (n := 51) dX1_init_48 rfl fl_X1_11 (fun r30 => ?_)
  refine xs_iload_n (n := 52) dX1_init_51 rfl rfl ?_
  refine zs_new (n := 55) dX1_init_52 rfl tw_38 tw_61 tw_5 xc_0 xd_0 (bc' := 7) (bs' := 18) ⟨by decide, by decide⟩ (fun u31 => ?_)
  refine xs_dup (n := 56) dX1_init_55 rfl rfl ?_
  refine zs_callcn (n := 59) (Nm := mt_X0_init) (mc := 1) (ms := 3) (bc' := 6) (bs' := 15) dX1_init_56 rfl ok_X0_init tn_62 im_X0_init rfl rfl ⟨Nat.le_of_ble_eq_true rfl, Nat.le_of_ble_eq_true rfl⟩ [.ref u29.1, .int (5 : Int32), .ref r30] rfl rfl (Nat.le_of_ble_eq_true rfl) rfl (Nat.le_of_ble_eq_true rfl) ⟨by decide, by decide⟩ (gm_X0_init m u29.1 u31) (fun q32 => ?_)
  refine zs_aastore16 (n := 60) dX1_init_59 rfl (fun u33 => ?_)
  refine xs_iinc (n := 63) (v := (6 : Int32)) (lv' := [some (.ref a), some (.int (6 : Int32))]) dX1_init_60 rfl rfl rfl (Nat.le_of_ble_eq_true rfl) rfl ?_
  refine xs_goto (n := 41) dX1_init_63 rfl ?_
  refine xs_iload_n (n := 42) dX1_init_41 rfl rfl ?_
  refine xs_bipush (n := 44) (v := (6 : Int32)) dX1_init_42 rfl rfl ?_
  refine xs_icmp_ge_y (tgt := 66) dX1_init_44 rfl (by decide) ?_
  refine xs_iconst (n := 67) (v := (0 : Int32)) dX1_init_66 rfl rfl ?_
  refine xs_istore_n (n := 68) (lv' := [some (.ref a), some (.int (0 : Int32))]) dX1_init_67 rfl (Nat.le_of_ble_eq_true rfl) rfl ?_
  refine xs_iload_n (n := 69) dX1_init_68 rfl rfl ?_
  refine xs_iconst (n := 70) (v := (3 : Int32)) dX1_init_69 rfl rfl ?_
  refine xs_icmp_ge_n (n := 73) (tgt := 92) dX1_init_70 rfl rfl (by decide) ?_
  refine xs_aload_n (n := 74) dX1_init_73 rfl rfl ?_
  refine zs_getr (n := 77) dX1_init_74 rfl fl_X1_17 (fun r34 => ?_)
  refine xs_iload_n (n := 78) dX1_init_77 rfl rfl ?_
  refine zs_new (n := 81) dX1_init_78 rfl tw_38 tw_61 tw_5 xc_0 xd_0 (bc' := 5) (bs' := 13) ⟨by decide, by decide⟩ (fun u35 => ?_)
  refine xs_dup (n := 82) dX1_init_81 rfl rfl ?_
  refine zs_callcn (n := 85) (Nm := mt_X0_init) (mc := 1) (ms := 3) (bc' := 4) (bs' := 10) dX1_init_82 rfl ok_X0_init tn_62 im_X0_init rfl rfl ⟨Nat.le_of_ble_eq_true rfl, Nat.le_of_ble_eq_true rfl⟩ [.ref u33.1, .int (0 : Int32), .ref r34] rfl rfl (Nat.le_of_ble_eq_true rfl) rfl (Nat.le_of_ble_eq_true rfl) ⟨by decide, by decide⟩ (gm_X0_init m u33.1 u35) (fun q36 => ?_)
  refine zs_aastore16 (n := 86) dX1_init_85 rfl (fun u37 => ?_)
  refine xs_iinc (n := 89) (v := (1 : Int32)) (lv' := [some (.ref a), some (.int (1 : Int32))]) dX1_init_86 rfl rfl rfl (Nat.le_of_ble_eq_true rfl) rfl ?_
  refine xs_goto (n := 68) dX1_init_89 rfl ?_
  refine xs_iload_n (n := 69) dX1_init_68 rfl rfl ?_
  refine xs_iconst (n := 70) (v := (3 : Int32)) dX1_init_69 rfl rfl ?_
  refine xs_icmp_ge_n (n := 73) (tgt := 92) dX1_init_70 rfl rfl (by decide) ?_
  refine xs_aload_n (n := 74) dX1_init_73 rfl rfl ?_
  refine zs_getr (n := 77) dX1_init_74 rfl fl_X1_17 (fun r38 => ?_)
  refine xs_iload_n (n := 78) dX1_init_77 rfl rfl ?_
  refine zs_new (n := 81) dX1_init_78 rfl tw_38 tw_61 tw_5 xc_0 xd_0 (bc' := 3) (bs' := 8) ⟨by decide, by decide⟩ (fun u39 => ?_)
  refine xs_dup (n := 82) dX1_init_81 rfl rfl ?_
  refine zs_callcn (n := 85) (Nm := mt_X0_init) (mc := 1) (ms := 3) (bc' := 2) (bs' := 5) dX1_init_82 rfl ok_X0_init tn_62 im_X0_init rfl rfl ⟨Nat.le_of_ble_eq_true rfl, Nat.le_of_ble_eq_true rfl⟩ [.ref u37.1, .int (1 : Int32), .ref r38] rfl rfl (Nat.le_of_ble_eq_true rfl) rfl (Nat.le_of_ble_eq_true rfl) ⟨by decide, by decide⟩ (gm_X0_init m u37.1 u39) (fun q40 => ?_)
  refine zs_aastore16 (n := 86) dX1_init_85 rfl (fun u41 => ?_)
  refine xs_iinc (n := 89) (v := (2 : Int32)) (lv' := [some (.ref a), some (.int (2 : Int32))]) dX1_init_86 rfl rfl rfl (Nat.le_of_ble_eq_true rfl) rfl ?_
  refine xs_goto (n := 68) dX1_init_89 rfl ?_
  refine xs_iload_n (n := 69) dX1_init_68 rfl rfl ?_
  refine xs_iconst (n := 70) (v := (3 : Int32)) dX1_init_69 rfl rfl ?_
  refine xs_icmp_ge_n (n := 73) (tgt := 92) dX1_init_70 rfl rfl (by decide) ?_
  refine xs_aload_n (n := 74) dX1_init_73 rfl rfl ?_
  refine zs_getr (n := 77) dX1_init_74 rfl fl_X1_17 (fun r42 => ?_)
  refine xs_iload_n (n := 78) dX1_init_77 rfl rfl ?_
  refine zs_new (n := 81) dX1_init_78 rfl tw_38 tw_61 tw_5 xc_0 xd_0 (bc' := 1) (bs' := 3) ⟨by decide, by decide⟩ (fun u43 => ?_)
  refine xs_dup (n := 82) dX1_init_81 rfl rfl ?_
  refine zs_callcn (n := 85) (Nm := mt_X0_init) (mc := 1) (ms := 3) (bc' := 0) (bs' := 0) dX1_init_82 rfl ok_X0_init tn_62 im_X0_init rfl rfl ⟨Nat.le_of_ble_eq_true rfl, Nat.le_of_ble_eq_true rfl⟩ [.ref u41.1, .int (2 : Int32), .ref r42] rfl rfl (Nat.le_of_ble_eq_true rfl) rfl (Nat.le_of_ble_eq_true rfl) ⟨by decide, by decide⟩ (gm_X0_init m u41.1 u43) (fun q44 => ?_)
  refine zs_aastore16 (n := 86) dX1_init_85 rfl (fun u45 => ?_)
  refine xs_iinc (n := 89) (v := (3 : Int32)) (lv' := [some (.ref a), some (.int (3 : Int32))]) dX1_init_86 rfl rfl rfl (Nat.le_of_ble_eq_true rfl) rfl ?_
  refine xs_goto (n := 68) dX1_init_89 rfl ?_
  refine xs_iload_n (n := 69) dX1_init_68 rfl rfl ?_
  refine xs_iconst (n := 70) (v := (3 : Int32)) dX1_init_69 rfl rfl ?_
  refine xs_icmp_ge_y (tgt := 92) dX1_init_70 rfl (by decide) ?_
  exact xs_vret dX1_init_92 rfl rfl
def gn_X7_init (m : Nat) (a : Nat) (u0 : xm_S) : Option (Unit × xm_S) :=
  xm_let (xm_nw u0 17 5) fun u1 =>
  xm_chk (xm_ic u1 a 7) (xm_let (d_R u1 a 0 u0.1) fun u2 =>
  xm_chk (xm_ic u2 a 7) (xm_let (d_I u2 a 1 (2 : Int32)) fun u3 =>
  ((xm_chk (xm_ic u3 a 7) (u3.2.2.1 a 0)).bind fun r4 =>
  xm_let (xm_nw u3 1 0) fun u5 =>
  ((gn_X1_init m u3.1 u5).bind fun q6 => xm_chk (q6.2.1 = u5.1 + 23) (
  xm_chk (xm_ic q6.2 r4 17) (xm_chk (xm_ic q6.2 u3.1 1) (xm_chk (xm_in (0 : Int32) (q6.2.2.1 r4).2) (xm_let (d_R q6.2 r4 (Int32.toNatClampNeg (0 : Int32)) u3.1) fun u7 =>
  ((xm_chk (xm_ic u7 a 7) (u7.2.2.1 a 0)).bind fun r8 =>
  xm_let (xm_nw u7 1 0) fun u9 =>
  ((gn_X1_init m u7.1 u9).bind fun q10 => xm_chk (q10.2.1 = u9.1 + 23) (
  xm_chk (xm_ic q10.2 r8 17) (xm_chk (xm_ic q10.2 u7.1 1) (xm_chk (xm_in (1 : Int32) (q10.2.2.1 r8).2) (xm_let (d_R q10.2 r8 (Int32.toNatClampNeg (1 : Int32)) u7.1) fun u11 =>
  ((xm_chk (xm_ic u11 a 7) (u11.2.2.1 a 0)).bind fun r12 =>
  xm_let (xm_nw u11 1 0) fun u13 =>
  ((gn_X1_init m u11.1 u13).bind fun q14 => xm_chk (q14.2.1 = u13.1 + 23) (
  xm_chk (xm_ic q14.2 r12 17) (xm_chk (xm_ic q14.2 u11.1 1) (xm_chk (xm_in (2 : Int32) (q14.2.2.1 r12).2) (xm_let (d_R q14.2 r12 (Int32.toNatClampNeg (2 : Int32)) u11.1) fun u15 =>
  ((xm_chk (xm_ic u15 a 7) (u15.2.2.1 a 0)).bind fun r16 =>
  xm_let (xm_nw u15 1 0) fun u17 =>
  ((gn_X1_init m u15.1 u17).bind fun q18 => xm_chk (q18.2.1 = u17.1 + 23) (
  xm_chk (xm_ic q18.2 r16 17) (xm_chk (xm_ic q18.2 u15.1 1) (xm_chk (xm_in (3 : Int32) (q18.2.2.1 r16).2) (xm_let (d_R q18.2 r16 (Int32.toNatClampNeg (3 : Int32)) u15.1) fun u19 =>
  ((xm_chk (xm_ic u19 a 7) (u19.2.2.1 a 0)).bind fun r20 =>
  xm_let (xm_nw u19 1 0) fun u21 =>
  ((gn_X1_init m u19.1 u21).bind fun q22 => xm_chk (q22.2.1 = u21.1 + 23) (
  xm_chk (xm_ic q22.2 r20 17) (xm_chk (xm_ic q22.2 u19.1 1) (xm_chk (xm_in (4 : Int32) (q22.2.2.1 r20).2) (xm_let (d_R q22.2 r20 (Int32.toNatClampNeg (4 : Int32)) u19.1) fun u23 =>
  some ((), u23)))))))))))))))))))))))))))))))))
theorem gm_X7_init (m : Nat) (a : Nat) (u0 : xm_S) : xs_ (fun _ : Unit => none) sg_i mt_X7_init 0 [some (.ref a), none] [] u0 121 2895 (gn_X7_init m a u0) := by
  refine xs_top ?_
  rw [gn_X7_init]
  refine xs_aload_n (n := 1) dX7_init_0 rfl rfl ?_
  refine xs_oinit (n := 4) dX7_init_1 rfl tw_30 ⟨Nat.le_of_ble_eq_true rfl, Nat.le_of_ble_eq_true rfl⟩ ?_
  refine xs_aload_n (n := 5) dX7_init_4 rfl rfl ?_
  refine xs_iconst (n := 6) (v := (5 : Int32)) dX7_init_5 rfl rfl ?_
  refine zs_newq17 (n := 9) dX7_init_6 rfl tw_31 (by decide) rfl (by decide) (bc' := 120) (bs' := 2890) ⟨by decide, by decide⟩ (fun u1 => ?_)
  refine zs_putr (n := 12) dX7_init_9 rfl fl_X7_11 ⟨rfl, rfl, rfl⟩ (fun u2 => ?_)
  refine xs_aload_n (n := 13) dX7_init_12 rfl rfl ?_
  refine xs_iconst (n := 14) (v := (2 : Int32)) dX7_init_13 rfl rfl ?_
  refine zs_puti (n := 17) dX7_init_14 rfl fl_X7_17 rfl (fun u3 => ?_)
  refine xs_iconst (n := 18) (v := (0 : Int32)) dX7_init_17 rfl rfl ?_
  refine xs_istore_n (n := 19) (lv' := [some (.ref a), some (.int (0 : Int32))]) dX7_init_18 rfl (Nat.le_of_ble_eq_true rfl) rfl ?_
  refine xs_iload_n (n := 20) dX7_init_19 rfl rfl ?_
  refine xs_iconst (n := 21) (v := (5 : Int32)) dX7_init_20 rfl rfl ?_
  refine xs_icmp_ge_n (n := 24) (tgt := 43) dX7_init_21 rfl rfl (by decide) ?_
  refine xs_aload_n (n := 25) dX7_init_24 rfl rfl ?_
  refine zs_getr (n := 28) dX7_init_25 rfl fl_X7_11 (fun r4 => ?_)
  refine xs_iload_n (n := 29) dX7_init_28 rfl rfl ?_
  refine zs_new (n := 32) dX7_init_29 rfl tw_31 tw_33 tw_3 xc_1 xd_1 (bc' := 119) (bs' := 2885) ⟨by decide, by decide⟩ (fun u5 => ?_)
  refine xs_dup (n := 33) dX7_init_32 rfl rfl ?_
  refine zs_callc (n := 36) (Nm := mt_X1_init) (mc := 23) (ms := 573) (bc' := 96) (bs' := 2312) dX7_init_33 rfl ok_X1_init tw_34 im_X1_init rfl rfl ⟨Nat.le_of_ble_eq_true rfl, Nat.le_of_ble_eq_true rfl⟩ [.ref u3.1, .int (0 : Int32), .ref r4] rfl rfl (Nat.le_of_ble_eq_true rfl) rfl (Nat.le_of_ble_eq_true rfl) ⟨by decide, by decide⟩ (gm_X1_init m u3.1 u5) (fun q6 => ?_)
  refine zs_aastore17 (n := 37) dX7_init_36 rfl (fun u7 => ?_)
  refine xs_iinc (n := 40) (v := (1 : Int32)) (lv' := [some (.ref a), some (.int (1 : Int32))]) dX7_init_37 rfl rfl rfl (Nat.le_of_ble_eq_true rfl) rfl ?_
  refine xs_goto (n := 19) dX7_init_40 rfl ?_
  refine xs_iload_n (n := 20) dX7_init_19 rfl rfl ?_
  refine xs_iconst (n := 21) (v := (5 : Int32)) dX7_init_20 rfl rfl ?_
  refine xs_icmp_ge_n (n := 24) (tgt := 43) dX7_init_21 rfl rfl (by decide) ?_
  refine xs_aload_n (n := 25) dX7_init_24 rfl rfl ?_
  refine zs_getr (n := 28) dX7_init_25 rfl fl_X7_11 (fun r8 => ?_)
  refine xs_iload_n (n := 29) dX7_init_28 rfl rfl ?_
  refine zs_new (n := 32) dX7_init_29 rfl tw_31 tw_33 tw_3 xc_1 xd_1 (bc' := 95) (bs' := 2307) ⟨by decide, by decide⟩ (fun u9 => ?_)
  refine xs_dup (n := 33) dX7_init_32 rfl rfl ?_
  refine zs_callc (n := 36) (Nm := mt_X1_init) (mc := 23) (ms := 573) (bc' := 72) (bs' := 1734) dX7_init_33 rfl ok_X1_init tw_34 im_X1_init rfl rfl ⟨Nat.le_of_ble_eq_true rfl, Nat.le_of_ble_eq_true rfl⟩ [.ref u7.1, .int (1 : Int32), .ref r8] rfl rfl (Nat.le_of_ble_eq_true rfl) rfl (Nat.le_of_ble_eq_true rfl) ⟨by decide, by decide⟩ (gm_X1_init m u7.1 u9) (fun q10 => ?_)
  refine zs_aastore17 (n := 37) dX7_init_36 rfl (fun u11 => ?_)
  refine xs_iinc (n := 40) (v := (2 : Int32)) (lv' := [some (.ref a), some (.int (2 : Int32))]) dX7_init_37 rfl rfl rfl (Nat.le_of_ble_eq_true rfl) rfl ?_
  refine xs_goto (n := 19) dX7_init_40 rfl ?_
  refine xs_iload_n (n := 20) dX7_init_19 rfl rfl ?_
  refine xs_iconst (n := 21) (v := (5 : Int32)) dX7_init_20 rfl rfl ?_
  refine xs_icmp_ge_n (n := 24) (tgt := 43) dX7_init_21 rfl rfl (by decide) ?_
  refine xs_aload_n (n := 25) dX7_init_24 rfl rfl ?_
  refine zs_getr (n := 28) dX7_init_25 rfl fl_X7_11 (fun r12 => ?_)
  refine xs_iload_n (n := 29) dX7_init_28 rfl rfl ?_
  refine zs_new (n := 32) dX7_init_29 rfl tw_31 tw_33 tw_3 xc_1 xd_1 (bc' := 71) (bs' := 1729) ⟨by decide, by decide⟩ (fun u13 => ?_)
  refine xs_dup (n := 33) dX7_init_32 rfl rfl ?_
  refine zs_callc (n := 36) (Nm := mt_X1_init) (mc := 23) (ms := 573) (bc' := 48) (bs' := 1156) dX7_init_33 rfl ok_X1_init tw_34 im_X1_init rfl rfl ⟨Nat.le_of_ble_eq_true rfl, Nat.le_of_ble_eq_true rfl⟩ [.ref u11.1, .int (2 : Int32), .ref r12] rfl rfl (Nat.le_of_ble_eq_true rfl) rfl (Nat.le_of_ble_eq_true rfl) ⟨by decide, by decide⟩ (gm_X1_init m u11.1 u13) (fun q14 => ?_)
  refine zs_aastore17 (n := 37) dX7_init_36 rfl (fun u15 => ?_)
  refine xs_iinc (n := 40) (v := (3 : Int32)) (lv' := [some (.ref a), some (.int (3 : Int32))]) dX7_init_37 rfl rfl rfl (Nat.le_of_ble_eq_true rfl) rfl ?_
  refine xs_goto (n := 19) dX7_init_40 rfl ?_
  refine xs_iload_n (n := 20) dX7_init_19 rfl rfl ?_
  refine xs_iconst (n := 21) (v := (5 : Int32)) dX7_init_20 rfl rfl ?_
  refine xs_icmp_ge_n (n := 24) (tgt := 43) dX7_init_21 rfl rfl (by decide) ?_
  refine xs_aload_n (n := 25) dX7_init_24 rfl rfl ?_
  refine zs_getr (n := 28) dX7_init_25 rfl fl_X7_11 (fun r16 => ?_)
  refine xs_iload_n (n := 29) dX7_init_28 rfl rfl ?_
  refine zs_new (n := 32) dX7_init_29 rfl tw_31 tw_33 tw_3 xc_1 xd_1 (bc' := 47) (bs' := 1151) ⟨by decide, by decide⟩ (fun u17 => ?_)
  refine xs_dup (n := 33) dX7_init_32 rfl rfl ?_
  refine zs_callc (n := 36) (Nm := mt_X1_init) (mc := 23) (ms := 573) (bc' := 24) (bs' := 578) dX7_init_33 rfl ok_X1_init tw_34 im_X1_init rfl rfl ⟨Nat.le_of_ble_eq_true rfl, Nat.le_of_ble_eq_true rfl⟩ [.ref u15.1, .int (3 : Int32), .ref r16] rfl rfl (Nat.le_of_ble_eq_true rfl) rfl (Nat.le_of_ble_eq_true rfl) ⟨by decide, by decide⟩ (gm_X1_init m u15.1 u17) (fun q18 => ?_)
  refine zs_aastore17 (n := 37) dX7_init_36 rfl (fun u19 => ?_)
  refine xs_iinc (n := 40) (v := (4 : Int32)) (lv' := [some (.ref a), some (.int (4 : Int32))]) dX7_init_37 rfl rfl rfl (Nat.le_of_ble_eq_true rfl) rfl ?_
  refine xs_goto (n := 19) dX7_init_40 rfl ?_
  refine xs_iload_n (n := 20) dX7_init_19 rfl rfl ?_
  refine xs_iconst (n := 21) (v := (5 : Int32)) dX7_init_20 rfl rfl ?_
  refine xs_icmp_ge_n (n := 24) (tgt := 43) dX7_init_21 rfl rfl (by decide) ?_
  refine xs_aload_n (n := 25) dX7_init_24 rfl rfl ?_
  refine zs_getr (n := 28) dX7_init_25 rfl fl_X7_11 (fun r20 => ?_)
  refine xs_iload_n (n := 29) dX7_init_28 rfl rfl ?_
  refine zs_new (n := 32) dX7_init_29 rfl tw_31 tw_33 tw_3 xc_1 xd_1 (bc' := 23) (bs' := 573) ⟨by decide, by decide⟩ (fun u21 => ?_)
  refine xs_dup (n := 33) dX7_init_32 rfl rfl ?_
  refine zs_callc (n := 36) (Nm := mt_X1_init) (mc := 23) (ms := 573) (bc' := 0) (bs' := 0) dX7_init_33 rfl ok_X1_init tw_34 im_X1_init rfl rfl ⟨Nat.le_of_ble_eq_true rfl, Nat.le_of_ble_eq_true rfl⟩ [.ref u19.1, .int (4 : Int32), .ref r20] rfl rfl (Nat.le_of_ble_eq_true rfl) rfl (Nat.le_of_ble_eq_true rfl) ⟨by decide, by decide⟩ (gm_X1_init m u19.1 u21) (fun q22 => ?_)
  refine zs_aastore17 (n := 37) dX7_init_36 rfl (fun u23 => ?_)
  refine xs_iinc (n := 40) (v := (5 : Int32)) (lv' := [some (.ref a), some (.int (5 : Int32))]) dX7_init_37 rfl rfl rfl (Nat.le_of_ble_eq_true rfl) rfl ?_
  refine xs_goto (n := 19) dX7_init_40 rfl ?_
  refine xs_iload_n (n := 20) dX7_init_19 rfl rfl ?_
  refine xs_iconst (n := 21) (v := (5 : Int32)) dX7_init_20 rfl rfl ?_
  refine xs_icmp_ge_y (tgt := 43) dX7_init_21 rfl (by decide) ?_
  exact xs_vret dX7_init_43 rfl rfl
def gn_X11_init (m : Nat) (a : Nat) (u0 : xm_S) : Option (Unit × xm_S) :=
  xm_let (xm_nw u0 7 0) fun u1 =>
  ((gn_X7_init m u0.1 u1).bind fun q2 => xm_chk (q2.2.1 = u1.1 + 121) (
  xm_chk (xm_ic q2.2 a 11) (xm_let (d_R q2.2 a 0 u0.1) fun u3 =>
  xm_let (xm_nw u3 14 3) fun u4 =>
  xm_chk (xm_ic u4 a 11) (xm_let (d_R u4 a 1 u3.1) fun u5 =>
  xm_let (xm_nw u5 4 0) fun u6 =>
  ((gn_X4_init m u5.1 u6).bind fun q7 => xm_chk (q7.2.1 = u6.1 + 2) (
  xm_chk (xm_ic q7.2 a 11) (xm_let (d_R q7.2 a 2 u5.1) fun u8 =>
  xm_let (xm_nw u8 2 0) fun u9 =>
  ((gn_X2_init m u8.1 u9).bind fun q10 => xm_chk (q10.2.1 = u9.1 + 1) (
  xm_chk (xm_ic q10.2 a 11) (xm_let (d_R q10.2 a 3 u8.1) fun u11 =>
  xm_let (xm_nw u11 2 0) fun u12 =>
  ((gn_X2_init m u11.1 u12).bind fun q13 => xm_chk (q13.2.1 = u12.1 + 1) (
  xm_chk (xm_ic q13.2 a 11) (xm_let (d_R q13.2 a 4 u11.1) fun u14 =>
  xm_let (xm_nw u14 8 0) fun u15 =>
  ((gn_X8_init m u14.1 u15).bind fun q16 => xm_chk (q16.2.1 = u15.1 + 4) (
  xm_chk (xm_ic q16.2 a 11) (xm_let (d_R q16.2 a 5 u14.1) fun u17 =>
  xm_let (xm_nw u17 9 0) fun u18 =>
  ((gn_X9_init m u17.1 u18).bind fun q19 => xm_chk (q19.2.1 = u18.1 + 2) (
  xm_chk (xm_ic q19.2 a 11) (xm_let (d_R q19.2 a 6 u17.1) fun u20 =>
  xm_let (xm_nw u20 5 0) fun u21 =>
  ((gn_X5_init m u20.1 u21).bind fun q22 => xm_chk (q22.2.1 = u21.1 + 5) (
  xm_chk (xm_ic q22.2 a 11) (xm_let (d_R q22.2 a 7 u20.1) fun u23 =>
  xm_let (xm_nw u23 13 3) fun u24 =>
  xm_chk (xm_ic u24 a 11) (xm_let (d_R u24 a 8 u23.1) fun u25 =>
  xm_let (xm_nw u25 3 0) fun u26 =>
  ((gn_X3_init m u25.1 u26).bind fun q27 => xm_chk (q27.2.1 = u26.1 + 3) (
  xm_chk (xm_ic q27.2 a 11) (xm_let (d_R q27.2 a 9 u25.1) fun u28 =>
  ((xm_chk (xm_ic u28 a 11) (u28.2.2.1 a 3)).bind fun r29 =>
  ((xm_chk (xm_ic u28 a 11) (u28.2.2.1 a 0)).bind fun r30 =>
  xm_chk (xm_ic u28 r30 7) (
  xm_chk (xm_ic u28 r29 2) (((gn_X2_openAll m r29 (u28.2.2.2.1 r30 1) u28).bind fun q31 => xm_chk (q31.2.1 = u28.1 + 0) (
  some ((), q31.2)))))))))))))))))))))))))))))))))
theorem gm_X11_init (m : Nat) (a : Nat) (u0 : xm_S) : xs_ (fun _ : Unit => none) sg_i mt_X11_init 0 [some (.ref a)] [] u0 149 6134 (gn_X11_init m a u0) := by
  refine xs_top ?_
  rw [gn_X11_init]
  refine xs_aload_n (n := 1) dX11_init_0 rfl rfl ?_
  refine xs_oinit (n := 4) dX11_init_1 rfl tw_22 ⟨Nat.le_of_ble_eq_true rfl, Nat.le_of_ble_eq_true rfl⟩ ?_
  refine xs_aload_n (n := 5) dX11_init_4 rfl rfl ?_
  refine zs_new (n := 8) dX11_init_5 rfl tw_25 tw_26 tw_2 xc_7 xd_7 (bc' := 148) (bs' := 6131) ⟨by decide, by decide⟩ (fun u1 => ?_)
  refine xs_dup (n := 9) dX11_init_8 rfl rfl ?_
  refine zs_callc (n := 12) (Nm := mt_X7_init) (mc := 121) (ms := 2895) (bc' := 27) (bs' := 3236) dX11_init_9 rfl ok_X7_init tw_27 im_X7_init rfl rfl ⟨Nat.le_of_ble_eq_true rfl, Nat.le_of_ble_eq_true rfl⟩ [.ref u0.1, .ref a] rfl rfl (Nat.le_of_ble_eq_true rfl) rfl (Nat.le_of_ble_eq_true rfl) ⟨by decide, by decide⟩ (gm_X7_init m u0.1 u1) (fun q2 => ?_)
  refine zs_putr (n := 15) dX11_init_12 rfl fl_X11_10 ⟨rfl, rfl, rfl⟩ (fun u3 => ?_)
  refine xs_aload_n (n := 16) dX11_init_15 rfl rfl ?_
  refine xs_iconst (n := 17) (v := (3 : Int32)) dX11_init_16 rfl rfl ?_
  refine zs_newa14 (n := 19) dX11_init_17 rfl (by decide) rfl (by decide) (bc' := 26) (bs' := 3233) ⟨by decide, by decide⟩ (fun u4 => ?_)
  refine zs_putr (n := 22) dX11_init_19 rfl fl_X11_16 ⟨rfl, rfl, rfl⟩ (fun u5 => ?_)
  refine xs_aload_n (n := 23) dX11_init_22 rfl rfl ?_
  refine zs_new (n := 26) dX11_init_23 rfl tw_121 tw_122 tw_6 xc_4 xd_4 (bc' := 25) (bs' := 3230) ⟨by decide, by decide⟩ (fun u6 => ?_)
  refine xs_dup (n := 27) dX11_init_26 rfl rfl ?_
  refine zs_callcn (n := 30) (Nm := mt_X4_init) (mc := 2) (ms := 6) (bc' := 23) (bs' := 3224) dX11_init_27 rfl ok_X4_init tn_123 im_X4_init rfl rfl ⟨Nat.le_of_ble_eq_true rfl, Nat.le_of_ble_eq_true rfl⟩ [.ref u5.1, .ref a] rfl rfl (Nat.le_of_ble_eq_true rfl) rfl (Nat.le_of_ble_eq_true rfl) ⟨by decide, by decide⟩ (gm_X4_init m u5.1 u6) (fun q7 => ?_)
  refine zs_putr (n := 33) dX11_init_30 rfl fl_X11_23 ⟨rfl, rfl, rfl⟩ (fun u8 => ?_)
  refine xs_aload_n (n := 34) dX11_init_33 rfl rfl ?_
  refine zs_new (n := 37) dX11_init_34 rfl tw_138 tw_139 tw_7 xc_2 xd_2 (bc' := 22) (bs' := 3223) ⟨by decide, by decide⟩ (fun u9 => ?_)
  refine xs_dup (n := 38) dX11_init_37 rfl rfl ?_
  refine zs_callcn (n := 41) (Nm := mt_X2_init) (mc := 1) (ms := 6) (bc' := 21) (bs' := 3217) dX11_init_38 rfl ok_X2_init tn_140 im_X2_init rfl rfl ⟨Nat.le_of_ble_eq_true rfl, Nat.le_of_ble_eq_true rfl⟩ [.ref u8.1, .ref a] rfl rfl (Nat.le_of_ble_eq_true rfl) rfl (Nat.le_of_ble_eq_true rfl) ⟨by decide, by decide⟩ (gm_X2_init m u8.1 u9) (fun q10 => ?_)
  refine zs_putr (n := 44) dX11_init_41 rfl fl_X11_30 ⟨rfl, rfl, rfl⟩ (fun u11 => ?_)
  refine xs_aload_n (n := 45) dX11_init_44 rfl rfl ?_
  refine zs_new (n := 48) dX11_init_45 rfl tw_138 tw_139 tw_7 xc_2 xd_2 (bc' := 20) (bs' := 3216) ⟨by decide, by decide⟩ (fun u12 => ?_)
  refine xs_dup (n := 49) dX11_init_48 rfl rfl ?_
  refine zs_callcn (n := 52) (Nm := mt_X2_init) (mc := 1) (ms := 6) (bc' := 19) (bs' := 3210) dX11_init_49 rfl ok_X2_init tn_140 im_X2_init rfl rfl ⟨Nat.le_of_ble_eq_true rfl, Nat.le_of_ble_eq_true rfl⟩ [.ref u11.1, .ref a] rfl rfl (Nat.le_of_ble_eq_true rfl) rfl (Nat.le_of_ble_eq_true rfl) ⟨by decide, by decide⟩ (gm_X2_init m u11.1 u12) (fun q13 => ?_)
  refine zs_putr (n := 55) dX11_init_52 rfl fl_X11_34 ⟨rfl, rfl, rfl⟩ (fun u14 => ?_)
  refine xs_aload_n (n := 56) dX11_init_55 rfl rfl ?_
  refine zs_new (n := 59) dX11_init_56 rfl tw_149 tw_150 tw_8 xc_8 xd_8 (bc' := 18) (bs' := 3208) ⟨by decide, by decide⟩ (fun u15 => ?_)
  refine xs_dup (n := 60) dX11_init_59 rfl rfl ?_
  refine zs_callcn (n := 63) (Nm := mt_X8_init) (mc := 4) (ms := 14) (bc' := 14) (bs' := 3194) dX11_init_60 rfl ok_X8_init tn_151 im_X8_init rfl rfl ⟨Nat.le_of_ble_eq_true rfl, Nat.le_of_ble_eq_true rfl⟩ [.ref u14.1, .ref a] rfl rfl (Nat.le_of_ble_eq_true rfl) rfl (Nat.le_of_ble_eq_true rfl) ⟨by decide, by decide⟩ (gm_X8_init m u14.1 u15) (fun q16 => ?_)
  refine zs_putr (n := 66) dX11_init_63 rfl fl_X11_40 ⟨rfl, rfl, rfl⟩ (fun u17 => ?_)
  refine xs_aload_n (n := 67) dX11_init_66 rfl rfl ?_
  refine zs_new (n := 70) dX11_init_67 rfl tw_165 tw_166 tw_9 xc_9 xd_9 (bc' := 13) (bs' := 3190) ⟨by decide, by decide⟩ (fun u18 => ?_)
  refine xs_dup (n := 71) dX11_init_70 rfl rfl ?_
  refine zs_callcn (n := 74) (Nm := mt_X9_init) (mc := 2) (ms := 52) (bc' := 11) (bs' := 3138) dX11_init_71 rfl ok_X9_init tn_167 im_X9_init rfl rfl ⟨Nat.le_of_ble_eq_true rfl, Nat.le_of_ble_eq_true rfl⟩ [.ref u17.1, .ref a] rfl rfl (Nat.le_of_ble_eq_true rfl) rfl (Nat.le_of_ble_eq_true rfl) ⟨by decide, by decide⟩ (gm_X9_init m u17.1 u18) (fun q19 => ?_)
  refine zs_putr (n := 77) dX11_init_74 rfl fl_X11_47 ⟨rfl, rfl, rfl⟩ (fun u20 => ?_)
  refine xs_aload_n (n := 78) dX11_init_77 rfl rfl ?_
  refine zs_new (n := 81) dX11_init_78 rfl tw_184 tw_185 tw_10 xc_5 xd_5 (bc' := 10) (bs' := 3131) ⟨by decide, by decide⟩ (fun u21 => ?_)
  refine xs_dup (n := 82) dX11_init_81 rfl rfl ?_
  refine zs_callc (n := 85) (Nm := mt_X5_init) (mc := 5) (ms := 32) (bc' := 5) (bs' := 3099) dX11_init_82 rfl ok_X5_init tw_186 im_X5_init rfl rfl ⟨Nat.le_of_ble_eq_true rfl, Nat.le_of_ble_eq_true rfl⟩ [.ref u20.1, .ref a] rfl rfl (Nat.le_of_ble_eq_true rfl) rfl (Nat.le_of_ble_eq_true rfl) ⟨by decide, by decide⟩ (gm_X5_init m u20.1 u21) (fun q22 => ?_)
  refine zs_putr (n := 88) dX11_init_85 rfl fl_X11_54 ⟨rfl, rfl, rfl⟩ (fun u23 => ?_)
  refine xs_aload_n (n := 89) dX11_init_88 rfl rfl ?_
  refine xs_iconst (n := 90) (v := (3 : Int32)) dX11_init_89 rfl rfl ?_
  refine zs_newa13 (n := 92) dX11_init_90 rfl (by decide) rfl (by decide) (bc' := 4) (bs' := 3096) ⟨by decide, by decide⟩ (fun u24 => ?_)
  refine zs_putr (n := 95) dX11_init_92 rfl fl_X11_58 ⟨rfl, rfl, rfl⟩ (fun u25 => ?_)
  refine xs_aload_n (n := 96) dX11_init_95 rfl rfl ?_
  refine zs_new (n := 99) dX11_init_96 rfl tw_244 tw_245 tw_13 xc_3 xd_3 (bc' := 3) (bs' := 3088) ⟨by decide, by decide⟩ (fun u26 => ?_)
  refine xs_dup (n := 100) dX11_init_99 rfl rfl ?_
  refine zs_callcn (n := 103) (Nm := mt_X3_init) (mc := 3) (ms := 3088) (bc' := 0) (bs' := 0) dX11_init_100 rfl ok_X3_init tn_246 im_X3_init rfl rfl ⟨Nat.le_of_ble_eq_true rfl, Nat.le_of_ble_eq_true rfl⟩ [.ref u25.1, .ref a] rfl rfl (Nat.le_of_ble_eq_true rfl) rfl (Nat.le_of_ble_eq_true rfl) ⟨by decide, by decide⟩ (gm_X3_init m u25.1 u26) (fun q27 => ?_)
  refine zs_putr (n := 106) dX11_init_103 rfl fl_X11_65 ⟨rfl, rfl, rfl⟩ (fun u28 => ?_)
  refine xs_aload_n (n := 107) dX11_init_106 rfl rfl ?_
  refine zs_getr (n := 110) dX11_init_107 rfl fl_X11_30 (fun r29 => ?_)
  refine xs_aload_n (n := 111) dX11_init_110 rfl rfl ?_
  refine zs_getr (n := 114) dX11_init_111 rfl fl_X11_10 (fun r30 => ?_)
  refine zs_geti (n := 117) dX11_init_114 rfl fl_X11_69 (Or.inl rfl) ?_
  refine zs_callvv (n := 120) (Nm := mt_X2_openAll) dX11_init_117 rfl ok_X2_openAll tw_279 im_X2_openAll se_X2_openAll ⟨Nat.le_of_ble_eq_true rfl, Nat.le_of_ble_eq_true rfl⟩ [.int (u28.2.2.2.1 r30 1)] [] rfl rfl (Nat.le_of_ble_eq_true rfl) rfl (Nat.le_of_ble_eq_true rfl) (gm_X2_openAll m r29 (u28.2.2.2.1 r30 1) u28) (by decide) rfl (fun q31 => ?_)
  exact xs_vret dX11_init_120 rfl rfl
def gn_X12_init (m : Nat) (a : Nat) (u0 : xm_S) : Option (Unit × xm_S) :=
  xm_chk (xm_ic u0 a 12) (xm_let (d_I u0 a 0 (2 : Int32)) fun u1 =>
  xm_let (xm_nw u1 13 5) fun u2 =>
  xm_chk (xm_ic u2 a 12) (xm_let (d_R u2 a 2 u1.1) fun u3 =>
  xm_let (xm_nw u3 13 120) fun u4 =>
  xm_chk (xm_ic u4 a 12) (xm_let (d_R u4 a 3 u3.1) fun u5 =>
  xm_let (xm_nw u5 13 60) fun u6 =>
  xm_chk (xm_ic u6 a 12) (xm_let (d_R u6 a 4 u5.1) fun u7 =>
  xm_let (xm_nw u7 14 3) fun u8 =>
  xm_chk (xm_ic u8 a 12) (xm_let (d_R u8 a 5 u7.1) fun u9 =>
  xm_let (xm_nw u9 14 6) fun u10 =>
  xm_chk (xm_ic u10 a 12) (xm_let (d_R u10 a 6 u9.1) fun u11 =>
  xm_let (xm_nw u11 15 6) fun u12 =>
  xm_chk (xm_ic u12 a 12) (xm_let (d_R u12 a 7 u11.1) fun u13 =>
  xm_let (xm_nw u13 14 6) fun u14 =>
  xm_chk (xm_ic u14 a 12) (xm_let (d_R u14 a 8 u13.1) fun u15 =>
  xm_let (xm_nw u15 15 6) fun u16 =>
  xm_chk (xm_ic u16 a 12) (xm_let (d_R u16 a 9 u15.1) fun u17 =>
  xm_let (xm_nw u17 14 48) fun u18 =>
  xm_chk (xm_ic u18 a 12) (xm_let (d_R u18 a 10 u17.1) fun u19 =>
  xm_let (xm_nw u19 14 3) fun u20 =>
  xm_chk (xm_ic u20 a 12) (xm_let (d_R u20 a 12 u19.1) fun u21 =>
  xm_let (xm_nw u21 13 15) fun u22 =>
  xm_chk (xm_ic u22 a 12) (xm_let (d_R u22 a 18 u21.1) fun u23 =>
  xm_let (xm_nw u23 13 3) fun u24 =>
  xm_chk (xm_ic u24 a 12) (xm_let (d_R u24 a 20 u23.1) fun u25 =>
  xm_let (xm_nw u25 13 5) fun u26 =>
  xm_chk (xm_ic u26 a 12) (xm_let (d_R u26 a 22 u25.1) fun u27 =>
  xm_let (xm_nw u27 15 5) fun u28 =>
  xm_chk (xm_ic u28 a 12) (xm_let (d_R u28 a 23 u27.1) fun u29 =>
  xm_let (xm_nw u29 14 30003) fun u30 =>
  xm_chk (xm_ic u30 a 12) (xm_let (d_R u30 a 24 u29.1) fun u31 =>
  xm_let (xm_nw u31 13 32768) fun u32 =>
  xm_chk (xm_ic u32 a 12) (xm_let (d_R u32 a 25 u31.1) fun u33 =>
  xm_chk (xm_ic u33 a 12) (xm_let (d_I u33 a 26 (-1 : Int32)) fun u34 =>
  xm_let (xm_nw u34 14 3) fun u35 =>
  xm_chk (xm_ic u35 a 12) (xm_let (d_R u35 a 27 u34.1) fun u36 =>
  xm_let (xm_nw u36 14 3) fun u37 =>
  xm_chk (xm_ic u37 a 12) (xm_let (d_R u37 a 28 u36.1) fun u38 =>
  xm_let (xm_nw u38 14 6) fun u39 =>
  xm_chk (xm_ic u39 a 12) (xm_let (d_R u39 a 29 u38.1) fun u40 =>
  xm_let (xm_nw u40 15 6) fun u41 =>
  xm_chk (xm_ic u41 a 12) (xm_let (d_R u41 a 30 u40.1) fun u42 =>
  xm_let (xm_nw u42 14 6) fun u43 =>
  xm_chk (xm_ic u43 a 12) (xm_let (d_R u43 a 31 u42.1) fun u44 =>
  xm_let (xm_nw u44 15 6) fun u45 =>
  xm_chk (xm_ic u45 a 12) (xm_let (d_R u45 a 32 u44.1) fun u46 =>
  xm_let (xm_nw u46 13 40) fun u47 =>
  xm_chk (xm_ic u47 a 12) (xm_let (d_R u47 a 33 u46.1) fun u48 =>
  xm_let (xm_nw u48 13 40) fun u49 =>
  xm_chk (xm_ic u49 a 12) (xm_let (d_R u49 a 34 u48.1) fun u50 =>
  xm_let (xm_nw u50 13 40) fun u51 =>
  xm_chk (xm_ic u51 a 12) (xm_let (d_R u51 a 35 u50.1) fun u52 =>
  xm_let (xm_nw u52 13 1001) fun u53 =>
  xm_chk (xm_ic u53 a 12) (xm_let (d_R u53 a 37 u52.1) fun u54 =>
  xm_let (xm_nw u54 13 1001) fun u55 =>
  xm_chk (xm_ic u55 a 12) (xm_let (d_R u55 a 38 u54.1) fun u56 =>
  xm_let (xm_nw u56 13 1001) fun u57 =>
  xm_chk (xm_ic u57 a 12) (xm_let (d_R u57 a 39 u56.1) fun u58 =>
  xm_chk (xm_ic u58 a 12) (xm_let (d_I u58 a 40 (-1 : Int32)) fun u59 =>
  xm_chk (xm_ic u59 a 12) (xm_let (d_I u59 a 41 (-1 : Int32)) fun u60 =>
  xm_chk (xm_ic u60 a 12) (xm_let (d_I u60 a 42 (-1 : Int32)) fun u61 =>
  xm_chk (xm_ic u61 a 12) (xm_let (d_I u61 a 43 (-1 : Int32)) fun u62 =>
  xm_let (xm_nw u62 13 16) fun u63 =>
  xm_chk (xm_ic u63 a 12) (xm_let (d_R u63 a 44 u62.1) fun u64 =>
  xm_let (xm_nw u64 13 16) fun u65 =>
  xm_chk (xm_ic u65 a 12) (xm_let (d_R u65 a 45 u64.1) fun u66 =>
  xm_let (xm_nw u66 14 3) fun u67 =>
  xm_chk (xm_ic u67 a 12) (xm_let (d_R u67 a 46 u66.1) fun u68 =>
  xm_let (xm_nw u68 13 3) fun u69 =>
  xm_chk (xm_ic u69 a 12) (xm_let (d_R u69 a 47 u68.1) fun u70 =>
  xm_chk (xm_ic u70 a 12) (((gn_X12_openAll m a u70).bind fun q71 => xm_chk (q71.2.1 = u70.1 + 0) (
  ((xm_chk (xm_ic q71.2 a 12) (q71.2.2.2.1 a 22)).bind fun r72 =>
  xm_chk (xm_ic q71.2 r72 13) (xm_chk (xm_in (0 : Int32) (q71.2.2.1 r72).2) (xm_let (d_I q71.2 r72 (Int32.toNatClampNeg (0 : Int32)) (-1 : Int32)) fun u73 =>
  ((xm_chk (xm_ic u73 a 12) (u73.2.2.1 a 22)).bind fun r74 =>
  xm_chk (xm_ic u73 r74 13) (xm_chk (xm_in (1 : Int32) (u73.2.1 r74).2) (xm_let (d_I u73 r74 (Int32.toNatClampNeg (1 : Int32)) (-1 : Int32)) fun u75 =>
  ((xm_chk (xm_ic u75 a 12) (u75.2.2.1 a 22)).bind fun r76 =>
  xm_chk (xm_ic u75 r76 13) (xm_chk (xm_in (2 : Int32) (u75.2.1 r76).2) (xm_let (d_I u75 r76 (Int32.toNatClampNeg (2 : Int32)) (-1 : Int32)) fun u77 =>
  ((xm_chk (xm_ic u77 a 12) (u77.2.2.1 a 22)).bind fun r78 =>
  xm_chk (xm_ic u77 r78 13) (xm_chk (xm_in (3 : Int32) (u77.2.1 r78).2) (xm_let (d_I u77 r78 (Int32.toNatClampNeg (3 : Int32)) (-1 : Int32)) fun u79 =>
  ((xm_chk (xm_ic u79 a 12) (u79.2.2.1 a 22)).bind fun r80 =>
  xm_chk (xm_ic u79 r80 13) (xm_chk (xm_in (4 : Int32) (u79.2.1 r80).2) (xm_let (d_I u79 r80 (Int32.toNatClampNeg (4 : Int32)) (-1 : Int32)) fun u81 =>
  some ((), u81)))))))))))))))))))))))))))))))))))))))))))))))))))))))))
theorem gm_X12_init (m : Nat) (a : Nat) (u0 : xm_S) : xs_ (fun _ : Unit => none) sg_i mt_X12_init 0 [some (.ref a), none] [] u0 32 66253 (gn_X12_init m a u0) := by
  refine xs_top ?_
  rw [gn_X12_init]
  refine xs_aload_n (n := 1) dX12_init_0 rfl rfl ?_
  refine xs_oinit (n := 4) dX12_init_1 rfl tw_861 ⟨Nat.le_of_ble_eq_true rfl, Nat.le_of_ble_eq_true rfl⟩ ?_
  refine xs_aload_n (n := 5) dX12_init_4 rfl rfl ?_
  refine xs_iconst (n := 6) (v := (2 : Int32)) dX12_init_5 rfl rfl ?_
  refine zs_puti (n := 9) dX12_init_6 rfl fl_X12_7 rfl (fun u1 => ?_)
  refine xs_aload_n (n := 10) dX12_init_9 rfl rfl ?_
  refine xs_iconst (n := 11) (v := (5 : Int32)) dX12_init_10 rfl rfl ?_
  refine zs_newa13 (n := 13) dX12_init_11 rfl (by decide) rfl (by decide) (bc' := 31) (bs' := 66248) ⟨by decide, by decide⟩ (fun u2 => ?_)
  refine zs_putr (n := 16) dX12_init_13 rfl fl_X12_13 ⟨rfl, rfl, rfl⟩ (fun u3 => ?_)
  refine xs_aload_n (n := 17) dX12_init_16 rfl rfl ?_
  refine xs_bipush (n := 19) (v := (120 : Int32)) dX12_init_17 rfl rfl ?_
  refine zs_newa13 (n := 21) dX12_init_19 rfl (by decide) rfl (by decide) (bc' := 30) (bs' := 66128) ⟨by decide, by decide⟩ (fun u4 => ?_)
  refine zs_putr (n := 24) dX12_init_21 rfl fl_X12_17 ⟨rfl, rfl, rfl⟩ (fun u5 => ?_)
  refine xs_aload_n (n := 25) dX12_init_24 rfl rfl ?_
  refine xs_bipush (n := 27) (v := (60 : Int32)) dX12_init_25 rfl rfl ?_
  refine zs_newa13 (n := 29) dX12_init_27 rfl (by decide) rfl (by decide) (bc' := 29) (bs' := 66068) ⟨by decide, by decide⟩ (fun u6 => ?_)
  refine zs_putr (n := 32) dX12_init_29 rfl fl_X12_20 ⟨rfl, rfl, rfl⟩ (fun u7 => ?_)
  refine xs_aload_n (n := 33) dX12_init_32 rfl rfl ?_
  refine xs_iconst (n := 34) (v := (3 : Int32)) dX12_init_33 rfl rfl ?_
  refine zs_newa14 (n := 36) dX12_init_34 rfl (by decide) rfl (by decide) (bc' := 28) (bs' := 66065) ⟨by decide, by decide⟩ (fun u8 => ?_)
  refine zs_putr (n := 39) dX12_init_36 rfl fl_X12_23 ⟨rfl, rfl, rfl⟩ (fun u9 => ?_)
  refine xs_aload_n (n := 40) dX12_init_39 rfl rfl ?_
  refine xs_bipush (n := 42) (v := (6 : Int32)) dX12_init_40 rfl rfl ?_
  refine zs_newa14 (n := 44) dX12_init_42 rfl (by decide) rfl (by decide) (bc' := 27) (bs' := 66059) ⟨by decide, by decide⟩ (fun u10 => ?_)
  refine zs_putr (n := 47) dX12_init_44 rfl fl_X12_27 ⟨rfl, rfl, rfl⟩ (fun u11 => ?_)
  refine xs_aload_n (n := 48) dX12_init_47 rfl rfl ?_
  refine xs_bipush (n := 50) (v := (6 : Int32)) dX12_init_48 rfl rfl ?_
  refine zs_newa15 (n := 52) dX12_init_50 rfl (by decide) rfl (by decide) (bc' := 26) (bs' := 66053) ⟨by decide, by decide⟩ (fun u12 => ?_)
  refine zs_putr (n := 55) dX12_init_52 rfl fl_X12_30 ⟨rfl, rfl, rfl⟩ (fun u13 => ?_)
  refine xs_aload_n (n := 56) dX12_init_55 rfl rfl ?_
  refine xs_bipush (n := 58) (v := (6 : Int32)) dX12_init_56 rfl rfl ?_
  refine zs_newa14 (n := 60) dX12_init_58 rfl (by decide) rfl (by decide) (bc' := 25) (bs' := 66047) ⟨by decide, by decide⟩ (fun u14 => ?_)
  refine zs_putr (n := 63) dX12_init_60 rfl fl_X12_34 ⟨rfl, rfl, rfl⟩ (fun u15 => ?_)
  refine xs_aload_n (n := 64) dX12_init_63 rfl rfl ?_
  refine xs_bipush (n := 66) (v := (6 : Int32)) dX12_init_64 rfl rfl ?_
  refine zs_newa15 (n := 68) dX12_init_66 rfl (by decide) rfl (by decide) (bc' := 24) (bs' := 66041) ⟨by decide, by decide⟩ (fun u16 => ?_)
  refine zs_putr (n := 71) dX12_init_68 rfl fl_X12_37 ⟨rfl, rfl, rfl⟩ (fun u17 => ?_)
  refine xs_aload_n (n := 72) dX12_init_71 rfl rfl ?_
  refine xs_bipush (n := 74) (v := (48 : Int32)) dX12_init_72 rfl rfl ?_
  refine zs_newa14 (n := 76) dX12_init_74 rfl (by decide) rfl (by decide) (bc' := 23) (bs' := 65993) ⟨by decide, by decide⟩ (fun u18 => ?_)
  refine zs_putr (n := 79) dX12_init_76 rfl fl_X12_40 ⟨rfl, rfl, rfl⟩ (fun u19 => ?_)
  refine xs_aload_n (n := 80) dX12_init_79 rfl rfl ?_
  refine xs_iconst (n := 81) (v := (3 : Int32)) dX12_init_80 rfl rfl ?_
  refine zs_newa14 (n := 83) dX12_init_81 rfl (by decide) rfl (by decide) (bc' := 22) (bs' := 65990) ⟨by decide, by decide⟩ (fun u20 => ?_)
  refine zs_putr (n := 86) dX12_init_83 rfl fl_X12_43 ⟨rfl, rfl, rfl⟩ (fun u21 => ?_)
  refine xs_aload_n (n := 87) dX12_init_86 rfl rfl ?_
  refine xs_bipush (n := 89) (v := (15 : Int32)) dX12_init_87 rfl rfl ?_
  refine zs_newa13 (n := 91) dX12_init_89 rfl (by decide) rfl (by decide) (bc' := 21) (bs' := 65975) ⟨by decide, by decide⟩ (fun u22 => ?_)
  refine zs_putr (n := 94) dX12_init_91 rfl fl_X12_46 ⟨rfl, rfl, rfl⟩ (fun u23 => ?_)
  refine xs_aload_n (n := 95) dX12_init_94 rfl rfl ?_
  refine xs_iconst (n := 96) (v := (3 : Int32)) dX12_init_95 rfl rfl ?_
  refine zs_newa13 (n := 98) dX12_init_96 rfl (by decide) rfl (by decide) (bc' := 20) (bs' := 65972) ⟨by decide, by decide⟩ (fun u24 => ?_)
  refine zs_putr (n := 101) dX12_init_98 rfl fl_X12_49 ⟨rfl, rfl, rfl⟩ (fun u25 => ?_)
  refine xs_aload_n (n := 102) dX12_init_101 rfl rfl ?_
  refine xs_iconst (n := 103) (v := (5 : Int32)) dX12_init_102 rfl rfl ?_
  refine zs_newa13 (n := 105) dX12_init_103 rfl (by decide) rfl (by decide) (bc' := 19) (bs' := 65967) ⟨by decide, by decide⟩ (fun u26 => ?_)
  refine zs_putr (n := 108) dX12_init_105 rfl fl_X12_52 ⟨rfl, rfl, rfl⟩ (fun u27 => ?_)
  refine xs_aload_n (n := 109) dX12_init_108 rfl rfl ?_
  refine xs_iconst (n := 110) (v := (5 : Int32)) dX12_init_109 rfl rfl ?_
  refine zs_newa15 (n := 112) dX12_init_110 rfl (by decide) rfl (by decide) (bc' := 18) (bs' := 65962) ⟨by decide, by decide⟩ (fun u28 => ?_)
  refine zs_putr (n := 115) dX12_init_112 rfl fl_X12_55 ⟨rfl, rfl, rfl⟩ (fun u29 => ?_)
  refine xs_aload_n (n := 116) dX12_init_115 rfl rfl ?_
  refine xs_sipush (n := 119) (v := (30003 : Int32)) dX12_init_116 rfl rfl ?_
  refine zs_newa14 (n := 121) dX12_init_119 rfl (by decide) rfl (by decide) (bc' := 17) (bs' := 35959) ⟨by decide, by decide⟩ (fun u30 => ?_)
  refine zs_putr (n := 124) dX12_init_121 rfl fl_X12_58 ⟨rfl, rfl, rfl⟩ (fun u31 => ?_)
  refine xs_aload_n (n := 125) dX12_init_124 rfl rfl ?_
  refine xs_ldc (n := 127) (v := (32768 : Int32)) dX12_init_125 rfl tw_862 ?_
  refine zs_newa13 (n := 129) dX12_init_127 rfl (by decide) rfl (by decide) (bc' := 16) (bs' := 3191) ⟨by decide, by decide⟩ (fun u32 => ?_)
  refine zs_putr (n := 132) dX12_init_129 rfl fl_X12_62 ⟨rfl, rfl, rfl⟩ (fun u33 => ?_)
  refine xs_aload_n (n := 133) dX12_init_132 rfl rfl ?_
  refine xs_iconst (n := 134) (v := (-1 : Int32)) dX12_init_133 rfl rfl ?_
  refine zs_puti (n := 137) dX12_init_134 rfl fl_X12_65 rfl (fun u34 => ?_)
  refine xs_aload_n (n := 138) dX12_init_137 rfl rfl ?_
  refine xs_iconst (n := 139) (v := (3 : Int32)) dX12_init_138 rfl rfl ?_
  refine zs_newa14 (n := 141) dX12_init_139 rfl (by decide) rfl (by decide) (bc' := 15) (bs' := 3188) ⟨by decide, by decide⟩ (fun u35 => ?_)
  refine zs_putr (n := 144) dX12_init_141 rfl fl_X12_68 ⟨rfl, rfl, rfl⟩ (fun u36 => ?_)
  refine xs_aload_n (n := 145) dX12_init_144 rfl rfl ?_
  refine xs_iconst (n := 146) (v := (3 : Int32)) dX12_init_145 rfl rfl ?_
  refine zs_newa14 (n := 148) dX12_init_146 rfl (by decide) rfl (by decide) (bc' := 14) (bs' := 3185) ⟨by decide, by decide⟩ (fun u37 => ?_)
  refine zs_putr (n := 151) dX12_init_148 rfl fl_X12_71 ⟨rfl, rfl, rfl⟩ (fun u38 => ?_)
  refine xs_aload_n (n := 152) dX12_init_151 rfl rfl ?_
  refine xs_bipush (n := 154) (v := (6 : Int32)) dX12_init_152 rfl rfl ?_
  refine zs_newa14 (n := 156) dX12_init_154 rfl (by decide) rfl (by decide) (bc' := 13) (bs' := 3179) ⟨by decide, by decide⟩ (fun u39 => ?_)
  refine zs_putr (n := 159) dX12_init_156 rfl fl_X12_74 ⟨rfl, rfl, rfl⟩ (fun u40 => ?_)
  refine xs_aload_n (n := 160) dX12_init_159 rfl rfl ?_
  refine xs_bipush (n := 162) (v := (6 : Int32)) dX12_init_160 rfl rfl ?_
  refine zs_newa15 (n := 164) dX12_init_162 rfl (by decide) rfl (by decide) (bc' := 12) (bs' := 3173) ⟨by decide, by decide⟩ (fun u41 => ?_)
  refine zs_putr (n := 167) dX12_init_164 rfl fl_X12_77 ⟨rfl, rfl, rfl⟩ (fun u42 => ?_)
  refine xs_aload_n (n := 168) dX12_init_167 rfl rfl ?_
  refine xs_bipush (n := 170) (v := (6 : Int32)) dX12_init_168 rfl rfl ?_
  refine zs_newa14 (n := 172) dX12_init_170 rfl (by decide) rfl (by decide) (bc' := 11) (bs' := 3167) ⟨by decide, by decide⟩ (fun u43 => ?_)
  refine zs_putr (n := 175) dX12_init_172 rfl fl_X12_80 ⟨rfl, rfl, rfl⟩ (fun u44 => ?_)
  refine xs_aload_n (n := 176) dX12_init_175 rfl rfl ?_
  refine xs_bipush (n := 178) (v := (6 : Int32)) dX12_init_176 rfl rfl ?_
  refine zs_newa15 (n := 180) dX12_init_178 rfl (by decide) rfl (by decide) (bc' := 10) (bs' := 3161) ⟨by decide, by decide⟩ (fun u45 => ?_)
  refine zs_putr (n := 183) dX12_init_180 rfl fl_X12_83 ⟨rfl, rfl, rfl⟩ (fun u46 => ?_)
  refine xs_aload_n (n := 184) dX12_init_183 rfl rfl ?_
  refine xs_bipush (n := 186) (v := (40 : Int32)) dX12_init_184 rfl rfl ?_
  refine zs_newa13 (n := 188) dX12_init_186 rfl (by decide) rfl (by decide) (bc' := 9) (bs' := 3121) ⟨by decide, by decide⟩ (fun u47 => ?_)
  refine zs_putr (n := 191) dX12_init_188 rfl fl_X12_86 ⟨rfl, rfl, rfl⟩ (fun u48 => ?_)
  refine xs_aload_n (n := 192) dX12_init_191 rfl rfl ?_
  refine xs_bipush (n := 194) (v := (40 : Int32)) dX12_init_192 rfl rfl ?_
  refine zs_newa13 (n := 196) dX12_init_194 rfl (by decide) rfl (by decide) (bc' := 8) (bs' := 3081) ⟨by decide, by decide⟩ (fun u49 => ?_)
  refine zs_putr (n := 199) dX12_init_196 rfl fl_X12_89 ⟨rfl, rfl, rfl⟩ (fun u50 => ?_)
  refine xs_aload_n (n := 200) dX12_init_199 rfl rfl ?_
  refine xs_bipush (n := 202) (v := (40 : Int32)) dX12_init_200 rfl rfl ?_
  refine zs_newa13 (n := 204) dX12_init_202 rfl (by decide) rfl (by decide) (bc' := 7) (bs' := 3041) ⟨by decide, by decide⟩ (fun u51 => ?_)
  refine zs_putr (n := 207) dX12_init_204 rfl fl_X12_92 ⟨rfl, rfl, rfl⟩ (fun u52 => ?_)
  refine xs_aload_n (n := 208) dX12_init_207 rfl rfl ?_
  refine xs_sipush (n := 211) (v := (1001 : Int32)) dX12_init_208 rfl rfl ?_
  refine zs_newa13 (n := 213) dX12_init_211 rfl (by decide) rfl (by decide) (bc' := 6) (bs' := 2040) ⟨by decide, by decide⟩ (fun u53 => ?_)
  refine zs_putr (n := 216) dX12_init_213 rfl fl_X12_95 ⟨rfl, rfl, rfl⟩ (fun u54 => ?_)
  refine xs_aload_n (n := 217) dX12_init_216 rfl rfl ?_
  refine xs_sipush (n := 220) (v := (1001 : Int32)) dX12_init_217 rfl rfl ?_
  refine zs_newa13 (n := 222) dX12_init_220 rfl (by decide) rfl (by decide) (bc' := 5) (bs' := 1039) ⟨by decide, by decide⟩ (fun u55 => ?_)
  refine zs_putr (n := 225) dX12_init_222 rfl fl_X12_98 ⟨rfl, rfl, rfl⟩ (fun u56 => ?_)
  refine xs_aload_n (n := 226) dX12_init_225 rfl rfl ?_
  refine xs_sipush (n := 229) (v := (1001 : Int32)) dX12_init_226 rfl rfl ?_
  refine zs_newa13 (n := 231) dX12_init_229 rfl (by decide) rfl (by decide) (bc' := 4) (bs' := 38) ⟨by decide, by decide⟩ (fun u57 => ?_)
  refine zs_putr (n := 234) dX12_init_231 rfl fl_X12_101 ⟨rfl, rfl, rfl⟩ (fun u58 => ?_)
  refine xs_aload_n (n := 235) dX12_init_234 rfl rfl ?_
  refine xs_iconst (n := 236) (v := (-1 : Int32)) dX12_init_235 rfl rfl ?_
  refine zs_puti (n := 239) dX12_init_236 rfl fl_X12_104 rfl (fun u59 => ?_)
  refine xs_aload_n (n := 240) dX12_init_239 rfl rfl ?_
  refine xs_iconst (n := 241) (v := (-1 : Int32)) dX12_init_240 rfl rfl ?_
  refine zs_puti (n := 244) dX12_init_241 rfl fl_X12_107 rfl (fun u60 => ?_)
  refine xs_aload_n (n := 245) dX12_init_244 rfl rfl ?_
  refine xs_iconst (n := 246) (v := (-1 : Int32)) dX12_init_245 rfl rfl ?_
  refine zs_puti (n := 249) dX12_init_246 rfl fl_X12_110 rfl (fun u61 => ?_)
  refine xs_aload_n (n := 250) dX12_init_249 rfl rfl ?_
  refine xs_iconst (n := 251) (v := (-1 : Int32)) dX12_init_250 rfl rfl ?_
  refine zs_puti (n := 254) dX12_init_251 rfl fl_X12_113 rfl (fun u62 => ?_)
  refine xs_aload_n (n := 255) dX12_init_254 rfl rfl ?_
  refine xs_bipush (n := 257) (v := (16 : Int32)) dX12_init_255 rfl rfl ?_
  refine zs_newa13 (n := 259) dX12_init_257 rfl (by decide) rfl (by decide) (bc' := 3) (bs' := 22) ⟨by decide, by decide⟩ (fun u63 => ?_)
  refine zs_putr (n := 262) dX12_init_259 rfl fl_X12_116 ⟨rfl, rfl, rfl⟩ (fun u64 => ?_)
  refine xs_aload_n (n := 263) dX12_init_262 rfl rfl ?_
  refine xs_bipush (n := 265) (v := (16 : Int32)) dX12_init_263 rfl rfl ?_
  refine zs_newa13 (n := 267) dX12_init_265 rfl (by decide) rfl (by decide) (bc' := 2) (bs' := 6) ⟨by decide, by decide⟩ (fun u65 => ?_)
  refine zs_putr (n := 270) dX12_init_267 rfl fl_X12_119 ⟨rfl, rfl, rfl⟩ (fun u66 => ?_)
  refine xs_aload_n (n := 271) dX12_init_270 rfl rfl ?_
  refine xs_iconst (n := 272) (v := (3 : Int32)) dX12_init_271 rfl rfl ?_
  refine zs_newa14 (n := 274) dX12_init_272 rfl (by decide) rfl (by decide) (bc' := 1) (bs' := 3) ⟨by decide, by decide⟩ (fun u67 => ?_)
  refine zs_putr (n := 277) dX12_init_274 rfl fl_X12_122 ⟨rfl, rfl, rfl⟩ (fun u68 => ?_)
  refine xs_aload_n (n := 278) dX12_init_277 rfl rfl ?_
  refine xs_iconst (n := 279) (v := (3 : Int32)) dX12_init_278 rfl rfl ?_
  refine zs_newa13 (n := 281) dX12_init_279 rfl (by decide) rfl (by decide) (bc' := 0) (bs' := 0) ⟨by decide, by decide⟩ (fun u69 => ?_)
  refine zs_putr (n := 284) dX12_init_281 rfl fl_X12_125 ⟨rfl, rfl, rfl⟩ (fun u70 => ?_)
  refine xs_aload_n (n := 285) dX12_init_284 rfl rfl ?_
  refine zs_callvv (n := 288) (Nm := mt_X12_openAll) dX12_init_285 rfl ok_X12_openAll tw_863 im_X12_openAll se_X12_openAll ⟨Nat.le_of_ble_eq_true rfl, Nat.le_of_ble_eq_true rfl⟩ [] [] rfl rfl (Nat.le_of_ble_eq_true rfl) rfl (Nat.le_of_ble_eq_true rfl) (gm_X12_openAll m a u70) (by decide) rfl (fun q71 => ?_)
  refine xs_iconst (n := 289) (v := (0 : Int32)) dX12_init_288 rfl rfl ?_
  refine xs_istore_n (n := 290) (lv' := [some (.ref a), some (.int (0 : Int32))]) dX12_init_289 rfl (Nat.le_of_ble_eq_true rfl) rfl ?_
  refine xs_iload_n (n := 291) dX12_init_290 rfl rfl ?_
  refine xs_iconst (n := 292) (v := (5 : Int32)) dX12_init_291 rfl rfl ?_
  refine xs_icmp_ge_n (n := 295) (tgt := 308) dX12_init_292 rfl rfl (by decide) ?_
  refine xs_aload_n (n := 296) dX12_init_295 rfl rfl ?_
  refine zs_getr (n := 299) dX12_init_296 rfl fl_X12_52 (fun r72 => ?_)
  refine xs_iload_n (n := 300) dX12_init_299 rfl rfl ?_
  refine xs_iconst (n := 301) (v := (-1 : Int32)) dX12_init_300 rfl rfl ?_
  refine zs_iastore (n := 302) dX12_init_301 rfl (fun u73 => ?_)
  refine xs_iinc (n := 305) (v := (1 : Int32)) (lv' := [some (.ref a), some (.int (1 : Int32))]) dX12_init_302 rfl rfl rfl (Nat.le_of_ble_eq_true rfl) rfl ?_
  refine xs_goto (n := 290) dX12_init_305 rfl ?_
  refine xs_iload_n (n := 291) dX12_init_290 rfl rfl ?_
  refine xs_iconst (n := 292) (v := (5 : Int32)) dX12_init_291 rfl rfl ?_
  refine xs_icmp_ge_n (n := 295) (tgt := 308) dX12_init_292 rfl rfl (by decide) ?_
  refine xs_aload_n (n := 296) dX12_init_295 rfl rfl ?_
  refine zs_getr (n := 299) dX12_init_296 rfl fl_X12_52 (fun r74 => ?_)
  refine xs_iload_n (n := 300) dX12_init_299 rfl rfl ?_
  refine xs_iconst (n := 301) (v := (-1 : Int32)) dX12_init_300 rfl rfl ?_
  refine zs_iastore (n := 302) dX12_init_301 rfl (fun u75 => ?_)
  refine xs_iinc (n := 305) (v := (2 : Int32)) (lv' := [some (.ref a), some (.int (2 : Int32))]) dX12_init_302 rfl rfl rfl (Nat.le_of_ble_eq_true rfl) rfl ?_
  refine xs_goto (n := 290) dX12_init_305 rfl ?_
  refine xs_iload_n (n := 291) dX12_init_290 rfl rfl ?_
  refine xs_iconst (n := 292) (v := (5 : Int32)) dX12_init_291 rfl rfl ?_
  refine xs_icmp_ge_n (n := 295) (tgt := 308) dX12_init_292 rfl rfl (by decide) ?_
  refine xs_aload_n (n := 296) dX12_init_295 rfl rfl ?_
  refine zs_getr (n := 299) dX12_init_296 rfl fl_X12_52 (fun r76 => ?_)
  refine xs_iload_n (n := 300) dX12_init_299 rfl rfl ?_
  refine xs_iconst (n := 301) (v := (-1 : Int32)) dX12_init_300 rfl rfl ?_
  refine zs_iastore (n := 302) dX12_init_301 rfl (fun u77 => ?_)
  refine xs_iinc (n := 305) (v := (3 : Int32)) (lv' := [some (.ref a), some (.int (3 : Int32))]) dX12_init_302 rfl rfl rfl (Nat.le_of_ble_eq_true rfl) rfl ?_
  refine xs_goto (n := 290) dX12_init_305 rfl ?_
  refine xs_iload_n (n := 291) dX12_init_290 rfl rfl ?_
  refine xs_iconst (n := 292) (v := (5 : Int32)) dX12_init_291 rfl rfl ?_
  refine xs_icmp_ge_n (n := 295) (tgt := 308) dX12_init_292 rfl rfl (by decide) ?_
  refine xs_aload_n (n := 296) dX12_init_295 rfl rfl ?_
  refine zs_getr (n := 299) dX12_init_296 rfl fl_X12_52 (fun r78 => ?_)
  refine xs_iload_n (n := 300) dX12_init_299 rfl rfl ?_
  refine xs_iconst (n := 301) (v := (-1 : Int32)) dX12_init_300 rfl rfl ?_
  refine zs_iastore (n := 302) dX12_init_301 rfl (fun u79 => ?_)
  refine xs_iinc (n := 305) (v := (4 : Int32)) (lv' := [some (.ref a), some (.int (4 : Int32))]) dX12_init_302 rfl rfl rfl (Nat.le_of_ble_eq_true rfl) rfl ?_
  refine xs_goto (n := 290) dX12_init_305 rfl ?_
  refine xs_iload_n (n := 291) dX12_init_290 rfl rfl ?_
  refine xs_iconst (n := 292) (v := (5 : Int32)) dX12_init_291 rfl rfl ?_
  refine xs_icmp_ge_n (n := 295) (tgt := 308) dX12_init_292 rfl rfl (by decide) ?_
  refine xs_aload_n (n := 296) dX12_init_295 rfl rfl ?_
  refine zs_getr (n := 299) dX12_init_296 rfl fl_X12_52 (fun r80 => ?_)
  refine xs_iload_n (n := 300) dX12_init_299 rfl rfl ?_
  refine xs_iconst (n := 301) (v := (-1 : Int32)) dX12_init_300 rfl rfl ?_
  refine zs_iastore (n := 302) dX12_init_301 rfl (fun u81 => ?_)
  refine xs_iinc (n := 305) (v := (5 : Int32)) (lv' := [some (.ref a), some (.int (5 : Int32))]) dX12_init_302 rfl rfl rfl (Nat.le_of_ble_eq_true rfl) rfl ?_
  refine xs_goto (n := 290) dX12_init_305 rfl ?_
  refine xs_iload_n (n := 291) dX12_init_290 rfl rfl ?_
  refine xs_iconst (n := 292) (v := (5 : Int32)) dX12_init_291 rfl rfl ?_
  refine xs_icmp_ge_y (tgt := 308) dX12_init_292 rfl (by decide) ?_
  exact xs_vret dX12_init_308 rfl rfl
