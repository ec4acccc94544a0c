def lp_X3_makeAll_15 (m : Nat) : Nat → Int32 → xm_Y → Option (Int32 × xm_Y)
  | 0, _, _ => none
  | n + 1, l1, u0 =>
  if (u0.1 146 1) ≤ l1 then (
  some (l1, u0)) else (
  xm_chk (xm_in l1 40) (
  ((fn_X3_keep m (u0.2 147 (Int32.toNatClampNeg l1)) u0).bind fun q4 =>
  xm_let (α := Int32) (l1 + (1)) fun v5 =>
  lp_X3_makeAll_15 m n v5 q4.2)))
def lp_X3_makeAll_64 (m : Nat) (c1 : Int32) (c2 : Int32) : Nat → Int32 → xm_Y → Option ((Int32 × xm_Y) ⊕ (Int32 × xm_Y))
  | 0, _, _ => none
  | n + 1, l3, u0 =>
  if c1 ≤ l3 then (
  some (.inr (l3, u0))) else (
  xm_chk (xm_in c2 1000) (
  ((fn_X3_toOf m (u0.2 148 (Int32.toNatClampNeg c2)) u0).bind fun q11 =>
  xm_chk (xm_in l3 1000) (
  ((fn_X3_fromOf m (q11.2.2 148 (Int32.toNatClampNeg l3)) q11.2).bind fun q12 =>
  if q11.1 = q12.1 then (
  xm_chk (xm_in c2 1000) (
  xm_chk (xm_in l3 1000) (
  ((fn_X3_together m (q12.2.2 148 (Int32.toNatClampNeg c2)) (q12.2.2 148 (Int32.toNatClampNeg l3)) q12.2).bind fun q14 =>
  ((fn_X3_keep m q14.1 q14.2).bind fun q15 =>
  if q15.1 = 0 then (
  some (.inl ((0), q15.2))) else (
  xm_let (α := Int32) (l3 + (1)) fun v17 =>
  lp_X3_makeAll_64 m c1 c2 n v17 q15.2)))))) else (
  xm_let (α := Int32) (l3 + (1)) fun v18 =>
  lp_X3_makeAll_64 m c1 c2 n v18 q12.2))))))
def lp_X3_makeAll_47 (m : Nat) (c1 : Int32) : Nat → Int32 → xm_Y → Option ((Int32 × xm_Y) ⊕ (Int32 × xm_Y))
  | 0, _, _ => none
  | n + 1, l2, u0 =>
  if (1000) ≤ l2 then (
  some (.inr (l2, u0))) else (
  if (u0.1 146 3) ≤ l2 then (
  some (.inr (l2, u0))) else (
  ((lp_X3_makeAll_64 m c1 l2 m (0) u0).bind (Sum.elim (fun r => some (.inl r)) (fun q19 =>
  xm_let (α := Int32) (l2 + (1)) fun v20 =>
  lp_X3_makeAll_47 m c1 n v20 q19.2)))))
def fn_X3_makeAll (m : Nat) (u0 : xm_Y) : Option (Int32 × xm_Y) :=
  ((fn_J7_fill_53178 m 149 2048 (0) u0).bind fun q1 =>
  xm_let (w_I q1.2 146 3 (0)) fun u2 =>
  ((lp_X3_makeAll_15 m m (0) u2).bind fun q6 =>
  xm_let (α := Int32) ((q6.2.1 146 3)) fun v7 =>
  ((lp_X3_makeAll_47 m v7 m (0) q6.2).bind (Sum.elim (fun r => some r) (fun q21 =>
  some ((1), q21.2))))))
theorem el_X3_makeAll_15 (m : Nat) (K : Int32 × xm_Y → Option (Int32 × xm_Y)) (kE : ∀ q : Int32 × xm_Y, xs_ (fun x : Int32 => some (.int x)) sg_0 mt_X3_makeAll 40 [some (.ref 146), none, none, none] [] q.2 0 0 (K q)) : ∀ (n : Nat) (l1 : Int32) (u0 : xm_Y), xs_ (fun x : Int32 => some (.int x)) sg_0 mt_X3_makeAll 15 [some (.ref 146), some (.int l1), none, none] [] u0 0 0 ((lp_X3_makeAll_15 m n l1 u0).bind K) := by
  intro n
  induction n with
  | zero =>
    intro l1 u0
    exact xs_none
  | succ n ih =>
    intro l1 u0
    rw [lp_X3_makeAll_15]
    refine xs_iload_n (n := 16) dX3_makeAll_15 rfl rfl ?_
    refine xs_aload_n (n := 17) dX3_makeAll_16 rfl rfl ?_
    refine ys_geti (n := 20) dX3_makeAll_17 rfl fl_X3_32 (Or.inl rfl) sh_146 ?_
    refine xs_icmp_ge (n := 23) (tgt := 40) dX3_makeAll_20 rfl rfl (fun hc3 => ?_) (fun hc3 => ?_)
    · exact xs_gf (kE (l1, u0)) (And.intro rfl trivial)
    · refine xs_aload_n (n := 24) dX3_makeAll_23 rfl rfl ?_
      refine xs_aload_n (n := 25) dX3_makeAll_24 rfl rfl ?_
      refine ys_getr (n := 28) dX3_makeAll_25 rfl fl_X3_9 sh_146 rfl ?_
      refine xs_iload_n (n := 29) dX3_makeAll_28 rfl rfl ?_
      refine ys_laload (n := 30) dX3_makeAll_29 rfl sh_147 ?_
      refine ys_callvi (n := 33) (N := mt_X3_keep) dX3_makeAll_30 rfl ok_X3_keep tw_819 im_X3_keep se_X3_keep ⟨Nat.le_of_ble_eq_true rfl, Nat.le_of_ble_eq_true rfl⟩ [.long (u0.2 147 (Int32.toNatClampNeg l1))] [] rfl rfl (Nat.le_of_ble_eq_true rfl) rfl (Nat.le_of_ble_eq_true rfl) (en_X3_keep m (u0.2 147 (Int32.toNatClampNeg l1)) u0) sh_146 (by decide) rfl (fun q4 => ?_)
      refine xs_pop (n := 34) dX3_makeAll_33 rfl rfl ?_
      refine xs_iincl (n := 37) (dv := (1)) (fun v5 => [some (.ref 146), some (.int v5), none, none]) dX3_makeAll_34 rfl rfl rfl (Nat.le_of_ble_eq_true rfl) (fun _ => rfl) (fun v5 => ?_)
      refine xs_goto (n := 15) dX3_makeAll_37 rfl ?_
      exact xs_gf (ih v5 q4.2) (And.intro rfl (And.intro rfl trivial))
theorem el_X3_makeAll_64 (m : Nat) (c1 : Int32) (c2 : Int32) (K : (Int32 × xm_Y) ⊕ (Int32 × xm_Y) → Option (Int32 × xm_Y)) (hK : ∀ r, K (.inl r) = some r) (kE : ∀ q : Int32 × xm_Y, xs_ (fun x : Int32 => some (.int x)) sg_0 mt_X3_makeAll 120 [some (.ref 146), some (.int c1), some (.int c2), none] [] q.2 0 0 (K (.inr q))) : ∀ (n : Nat) (l3 : Int32) (u0 : xm_Y), xs_ (fun x : Int32 => some (.int x)) sg_0 mt_X3_makeAll 64 [some (.ref 146), some (.int c1), some (.int c2), some (.int l3)] [] u0 0 0 ((lp_X3_makeAll_64 m c1 c2 n l3 u0).bind K) := by
  intro n
  induction n with
  | zero =>
    intro l3 u0
    exact xs_none
  | succ n ih =>
    intro l3 u0
    rw [lp_X3_makeAll_64]
    refine xs_iload_n (n := 65) dX3_makeAll_64 rfl rfl ?_
    refine xs_iload_n (n := 66) dX3_makeAll_65 rfl rfl ?_
    refine xs_icmp_ge (n := 69) (tgt := 120) dX3_makeAll_66 rfl rfl (fun hc10 => ?_) (fun hc10 => ?_)
    · exact xs_gf (kE (l3, u0)) (And.intro rfl (And.intro rfl (And.intro rfl trivial)))
    · refine xs_aload_n (n := 70) dX3_makeAll_69 rfl rfl ?_
      refine ys_getr (n := 73) dX3_makeAll_70 rfl fl_X3_15 sh_146 rfl ?_
      refine xs_iload_n (n := 74) dX3_makeAll_73 rfl rfl ?_
      refine ys_laload (n := 75) dX3_makeAll_74 rfl sh_148 ?_
      refine ys_callsi (n := 78) (N := mt_X3_toOf) dX3_makeAll_75 rfl ok_X3_toOf tw_824 st_X3_toOf ⟨Nat.le_of_ble_eq_true rfl, Nat.le_of_ble_eq_true rfl⟩ [.long (u0.2 148 (Int32.toNatClampNeg c2))] [] rfl rfl (Nat.le_of_ble_eq_true rfl) rfl (Nat.le_of_ble_eq_true rfl) (en_X3_toOf m (u0.2 148 (Int32.toNatClampNeg c2)) u0) (fun q11 => ?_)
      refine xs_aload_n (n := 79) dX3_makeAll_78 rfl rfl ?_
      refine ys_getr (n := 82) dX3_makeAll_79 rfl fl_X3_15 sh_146 rfl ?_
      refine xs_iload_n (n := 83) dX3_makeAll_82 rfl rfl ?_
      refine ys_laload (n := 84) dX3_makeAll_83 rfl sh_148 ?_
      refine ys_callsi (n := 87) (N := mt_X3_fromOf) dX3_makeAll_84 rfl ok_X3_fromOf tw_827 st_X3_fromOf ⟨Nat.le_of_ble_eq_true rfl, Nat.le_of_ble_eq_true rfl⟩ [.long (q11.2.2 148 (Int32.toNatClampNeg l3))] [.int q11.1] rfl rfl (Nat.le_of_ble_eq_true rfl) rfl (Nat.le_of_ble_eq_true rfl) (en_X3_fromOf m (q11.2.2 148 (Int32.toNatClampNeg l3)) q11.2) (fun q12 => ?_)
      refine xs_icmp_ne (n := 90) (tgt := 114) dX3_makeAll_87 rfl rfl (fun hc13 => ?_) (fun hc13 => ?_)
      · refine xs_aload_n (n := 91) dX3_makeAll_90 rfl rfl ?_
        refine xs_aload_n (n := 92) dX3_makeAll_91 rfl rfl ?_
        refine ys_getr (n := 95) dX3_makeAll_92 rfl fl_X3_15 sh_146 rfl ?_
        refine xs_iload_n (n := 96) dX3_makeAll_95 rfl rfl ?_
        refine ys_laload (n := 97) dX3_makeAll_96 rfl sh_148 ?_
        refine xs_aload_n (n := 98) dX3_makeAll_97 rfl rfl ?_
        refine ys_getr (n := 101) dX3_makeAll_98 rfl fl_X3_15 sh_146 rfl ?_
        refine xs_iload_n (n := 102) dX3_makeAll_101 rfl rfl ?_
        refine ys_laload (n := 103) dX3_makeAll_102 rfl sh_148 ?_
        refine ys_callsl (n := 106) (N := mt_X3_together) dX3_makeAll_103 rfl ok_X3_together tw_830 st_X3_together ⟨Nat.le_of_ble_eq_true rfl, Nat.le_of_ble_eq_true rfl⟩ [.long (q12.2.2 148 (Int32.toNatClampNeg c2)), .long (q12.2.2 148 (Int32.toNatClampNeg l3))] [.ref 146] rfl rfl (Nat.le_of_ble_eq_true rfl) rfl (Nat.le_of_ble_eq_true rfl) (en_X3_together m (q12.2.2 148 (Int32.toNatClampNeg c2)) (q12.2.2 148 (Int32.toNatClampNeg l3)) q12.2) (fun q14 => ?_)
        refine ys_callvi (n := 109) (N := mt_X3_keep) dX3_makeAll_106 rfl ok_X3_keep tw_819 im_X3_keep se_X3_keep ⟨Nat.le_of_ble_eq_true rfl, Nat.le_of_ble_eq_true rfl⟩ [.long q14.1] [] rfl rfl (Nat.le_of_ble_eq_true rfl) rfl (Nat.le_of_ble_eq_true rfl) (en_X3_keep m q14.1 q14.2) sh_146 (by decide) rfl (fun q15 => ?_)
        refine xs_if_ne (n := 112) (tgt := 114) dX3_makeAll_109 rfl rfl (fun hc16 => ?_) (fun hc16 => ?_)
        · refine xs_iconst (n := 113) (v := (0)) dX3_makeAll_112 rfl rfl ?_
          exact xs_zretc dX3_makeAll_113 rfl (Or.inl rfl) (hK _)
        · refine xs_iincl (n := 117) (dv := (1)) (fun v17 => [some (.ref 146), some (.int c1), some (.int c2), some (.int v17)]) dX3_makeAll_114 rfl rfl rfl (Nat.le_of_ble_eq_true rfl) (fun _ => rfl) (fun v17 => ?_)
          refine xs_goto (n := 64) dX3_makeAll_117 rfl ?_
          exact xs_gf (ih v17 q15.2) (And.intro rfl (And.intro rfl (And.intro rfl (And.intro rfl trivial))))
      · refine xs_iincl (n := 117) (dv := (1)) (fun v18 => [some (.ref 146), some (.int c1), some (.int c2), some (.int v18)]) dX3_makeAll_114 rfl rfl rfl (Nat.le_of_ble_eq_true rfl) (fun _ => rfl) (fun v18 => ?_)
        refine xs_goto (n := 64) dX3_makeAll_117 rfl ?_
        exact xs_gf (ih v18 q12.2) (And.intro rfl (And.intro rfl (And.intro rfl (And.intro rfl trivial))))
theorem el_X3_makeAll_47 (m : Nat) (c1 : Int32) (K : (Int32 × xm_Y) ⊕ (Int32 × xm_Y) → Option (Int32 × xm_Y)) (hK : ∀ r, K (.inl r) = some r) (kE : ∀ q : Int32 × xm_Y, xs_ (fun x : Int32 => some (.int x)) sg_0 mt_X3_makeAll 126 [none, none, none, none] [] q.2 0 0 (K (.inr q))) : ∀ (n : Nat) (l2 : Int32) (u0 : xm_Y), xs_ (fun x : Int32 => some (.int x)) sg_0 mt_X3_makeAll 47 [some (.ref 146), some (.int c1), some (.int l2), none] [] u0 0 0 ((lp_X3_makeAll_47 m c1 n l2 u0).bind K) := by
  intro n
  induction n with
  | zero =>
    intro l2 u0
    exact xs_none
  | succ n ih =>
    intro l2 u0
    rw [lp_X3_makeAll_47]
    refine xs_iload_n (n := 48) dX3_makeAll_47 rfl rfl ?_
    refine xs_sipush (n := 51) (v := (1000)) dX3_makeAll_48 rfl rfl ?_
    refine xs_icmp_ge (n := 54) (tgt := 126) dX3_makeAll_51 rfl rfl (fun hc8 => ?_) (fun hc8 => ?_)
    · exact xs_gf (kE (l2, u0)) trivial
    · refine xs_iload_n (n := 55) dX3_makeAll_54 rfl rfl ?_
      refine xs_aload_n (n := 56) dX3_makeAll_55 rfl rfl ?_
      refine ys_geti (n := 59) dX3_makeAll_56 rfl fl_X3_47 (Or.inl rfl) sh_146 ?_
      refine xs_icmp_ge (n := 62) (tgt := 126) dX3_makeAll_59 rfl rfl (fun hc9 => ?_) (fun hc9 => ?_)
      · exact xs_gf (kE (l2, u0)) trivial
      · refine xs_iconst (n := 63) (v := (0)) dX3_makeAll_62 rfl rfl ?_
        refine xs_istore_n (n := 64) (lv' := [some (.ref 146), some (.int c1), some (.int l2), some (.int (0))]) dX3_makeAll_63 rfl (Nat.le_of_ble_eq_true rfl) rfl ?_
        refine xs_reg ?_
        refine xs_fg (lv' := [some (.ref 146), some (.int c1), some (.int l2), some (.int (0))]) (And.intro rfl (And.intro rfl (And.intro rfl (And.intro rfl trivial)))) ?_
        refine el_X3_makeAll_64 m c1 l2 _ (fun r => hK r) (fun q19 => ?_) m (0) u0
        refine xs_inr ?_
        refine xs_iincl (n := 123) (dv := (1)) (fun v20 => [some (.ref 146), some (.int c1), some (.int v20), none]) dX3_makeAll_120 rfl rfl rfl (Nat.le_of_ble_eq_true rfl) (fun _ => rfl) (fun v20 => ?_)
        refine xs_goto (n := 47) dX3_makeAll_123 rfl ?_
        exact xs_gf (ih v20 q19.2) (And.intro rfl (And.intro rfl (And.intro rfl trivial)))
theorem en_X3_makeAll (m : Nat) (u0 : xm_Y) : xs_ (fun x : Int32 => some (.int x)) sg_0 mt_X3_makeAll 0 [some (.ref 146), none, none, none] [] u0 0 0 (fn_X3_makeAll m u0) := by
  refine xs_top ?_
  rw [fn_X3_makeAll]
  refine xs_aload_n (n := 1) dX3_makeAll_0 rfl rfl ?_
  refine ys_getr (n := 4) dX3_makeAll_1 rfl fl_X3_18 sh_146 rfl ?_
  refine xs_iconst (n := 5) (v := (0)) dX3_makeAll_4 rfl rfl ?_
  refine ys_callsv (n := 8) (N := mt_J7_fill_53178) dX3_makeAll_5 rfl ok_J7_fill_53178 tw_818 st_J7_fill_53178 ⟨Nat.le_of_ble_eq_true rfl, Nat.le_of_ble_eq_true rfl⟩ [.ref 149, .int (0)] [] rfl rfl (Nat.le_of_ble_eq_true rfl) rfl (Nat.le_of_ble_eq_true rfl) (en_J7_fill_53178 m 149 2048 (0) sh_149 u0) (fun q1 => ?_)
  refine xs_aload_n (n := 9) dX3_makeAll_8 rfl rfl ?_
  refine xs_iconst (n := 10) (v := (0)) dX3_makeAll_9 rfl rfl ?_
  refine ys_puti (n := 13) dX3_makeAll_10 rfl fl_X3_47 rfl sh_146 (fun u2 => ?_)
  refine xs_iconst (n := 14) (v := (0)) dX3_makeAll_13 rfl rfl ?_
  refine xs_istore_n (n := 15) (lv' := [some (.ref 146), some (.int (0)), none, none]) dX3_makeAll_14 rfl (Nat.le_of_ble_eq_true rfl) rfl ?_
  refine xs_reg ?_
  refine xs_fg (lv' := [some (.ref 146), some (.int (0)), none, none]) (And.intro rfl (And.intro rfl trivial)) ?_
  refine el_X3_makeAll_15 m _ (fun q6 => ?_) m (0) u2
  refine xs_aload_n (n := 41) dX3_makeAll_40 rfl rfl ?_
  refine ys_geti (n := 44) dX3_makeAll_41 rfl fl_X3_47 (Or.inl rfl) sh_146 ?_
  refine xs_leti (fun v7 => ?_)
  refine xs_istore_n (n := 45) (lv' := [some (.ref 146), some (.int v7), none, none]) dX3_makeAll_44 rfl (Nat.le_of_ble_eq_true rfl) rfl ?_
  refine xs_iconst (n := 46) (v := (0)) dX3_makeAll_45 rfl rfl ?_
  refine xs_istore_n (n := 47) (lv' := [some (.ref 146), some (.int v7), some (.int (0)), none]) dX3_makeAll_46 rfl (Nat.le_of_ble_eq_true rfl) rfl ?_
  refine xs_reg ?_
  refine xs_fg (lv' := [some (.ref 146), some (.int v7), some (.int (0)), none]) (And.intro rfl (And.intro rfl (And.intro rfl trivial))) ?_
  refine el_X3_makeAll_47 m v7 _ (fun _ => rfl) (fun q21 => ?_) m (0) q6.2
  refine xs_inr ?_
  refine xs_iconst (n := 127) (v := (1)) dX3_makeAll_126 rfl rfl ?_
  exact xs_zretc dX3_makeAll_127 rfl (Or.inr rfl) rfl
def lp_X3_isFault_15 (m : Nat) (c0 : Int64) : Nat → Int32 → xm_Y → Option ((Int32 × xm_Y) ⊕ (Int32 × xm_Y))
  | 0, _, _ => none
  | n + 1, l2, u0 =>
  if (4) ≤ l2 then (
  some (.inr (l2, u0))) else (
  ((fn_X3_lessOf m c0 u0).bind fun q5 =>
  if ((q5.1 >>> ((((4) * l2) + l2) &&& 31)) &&& (1)) = 0 then (
  xm_let (α := Int32) (l2 + (1)) fun v7 =>
  lp_X3_isFault_15 m c0 n v7 q5.2) else (
  some (.inl ((0), q5.2)))))
def fn_X3_isFault (m : Nat) (x0 : Int64) (u0 : xm_Y) : Option (Int32 × xm_Y) :=
  ((fn_X3_fromOf m x0 u0).bind fun q1 =>
  ((fn_X3_toOf m x0 q1.2).bind fun q2 =>
  if q1.1 = q2.1 then (
  ((lp_X3_isFault_15 m x0 m (0) q2.2).bind (Sum.elim (fun r => some r) (fun q8 =>
  ((fn_X3_together m x0 x0 q8.2).bind fun q9 =>
  ((if q9.1 = x0 then (
  some ((1))) else (
  some ((0))) : Option (Int32)).bind fun q10 =>
  xm_chk (q10 = 0 ∨ q10 = 1) (some (q10, q9.2)))))))) else (
  some ((0), q2.2))))
theorem el_X3_isFault_15 (m : Nat) (c0 : Int64) (K : (Int32 × xm_Y) ⊕ (Int32 × xm_Y) → Option (Int32 × xm_Y)) (hK : ∀ r, K (.inl r) = some r) (kE : ∀ q : Int32 × xm_Y, xs_ (fun x : Int32 => some (.int x)) sg_0 mt_X3_isFault 43 [some (.long c0), none, none] [] q.2 0 0 (K (.inr q))) : ∀ (n : Nat) (l2 : Int32) (u0 : xm_Y), xs_ (fun x : Int32 => some (.int x)) sg_0 mt_X3_isFault 15 [some (.long c0), none, some (.int l2)] [] u0 0 0 ((lp_X3_isFault_15 m c0 n l2 u0).bind K) := by
  intro n
  induction n with
  | zero =>
    intro l2 u0
    exact xs_none
  | succ n ih =>
    intro l2 u0
    rw [lp_X3_isFault_15]
    refine xs_iload_n (n := 16) dX3_isFault_15 rfl rfl ?_
    refine xs_iconst (n := 17) (v := (4)) dX3_isFault_16 rfl rfl ?_
    refine xs_icmp_ge (n := 20) (tgt := 43) dX3_isFault_17 rfl rfl (fun hc4 => ?_) (fun hc4 => ?_)
    · exact xs_gf (kE (l2, u0)) (And.intro rfl trivial)
    · refine xs_lload_n (n := 21) dX3_isFault_20 rfl rfl ?_
      refine ys_callsi (n := 24) (N := mt_X3_lessOf) dX3_isFault_21 rfl ok_X3_lessOf tw_837 st_X3_lessOf ⟨Nat.le_of_ble_eq_true rfl, Nat.le_of_ble_eq_true rfl⟩ [.long c0] [] rfl rfl (Nat.le_of_ble_eq_true rfl) rfl (Nat.le_of_ble_eq_true rfl) (en_X3_lessOf m c0 u0) (fun q5 => ?_)
      refine xs_iconst (n := 25) (v := (4)) dX3_isFault_24 rfl rfl ?_
      refine xs_iload_n (n := 26) dX3_isFault_25 rfl rfl ?_
      refine xs_imul (n := 27) dX3_isFault_26 rfl ?_
      refine xs_iload_n (n := 28) dX3_isFault_27 rfl rfl ?_
      refine xs_iadd (n := 29) dX3_isFault_28 rfl ?_
      refine xs_ishr (n := 30) dX3_isFault_29 rfl ?_
      refine xs_iconst (n := 31) (v := (1)) dX3_isFault_30 rfl rfl ?_
      refine xs_iand (n := 32) dX3_isFault_31 rfl ?_
      refine xs_if_eq (n := 35) (tgt := 37) dX3_isFault_32 rfl rfl (fun hc6 => ?_) (fun hc6 => ?_)
      · refine xs_iincl (n := 40) (dv := (1)) (fun v7 => [some (.long c0), none, some (.int v7)]) dX3_isFault_37 rfl rfl rfl (Nat.le_of_ble_eq_true rfl) (fun _ => rfl) (fun v7 => ?_)
        refine xs_goto (n := 15) dX3_isFault_40 rfl ?_
        exact xs_gf (ih v7 q5.2) (And.intro rfl (And.intro rfl trivial))
      · refine xs_iconst (n := 36) (v := (0)) dX3_isFault_35 rfl rfl ?_
        exact xs_zretc dX3_isFault_36 rfl (Or.inl rfl) (hK _)
theorem en_X3_isFault (m : Nat) (x0 : Int64) (u0 : xm_Y) : xs_ (fun x : Int32 => some (.int x)) sg_0 mt_X3_isFault 0 [some (.long x0), none, none] [] u0 0 0 (fn_X3_isFault m x0 u0) := by
  refine xs_top ?_
  rw [fn_X3_isFault]
  refine xs_lload_n (n := 1) dX3_isFault_0 rfl rfl ?_
  refine ys_callsi (n := 4) (N := mt_X3_fromOf) dX3_isFault_1 rfl ok_X3_fromOf tw_827 st_X3_fromOf ⟨Nat.le_of_ble_eq_true rfl, Nat.le_of_ble_eq_true rfl⟩ [.long x0] [] rfl rfl (Nat.le_of_ble_eq_true rfl) rfl (Nat.le_of_ble_eq_true rfl) (en_X3_fromOf m x0 u0) (fun q1 => ?_)
  refine xs_lload_n (n := 5) dX3_isFault_4 rfl rfl ?_
  refine ys_callsi (n := 8) (N := mt_X3_toOf) dX3_isFault_5 rfl ok_X3_toOf tw_824 st_X3_toOf ⟨Nat.le_of_ble_eq_true rfl, Nat.le_of_ble_eq_true rfl⟩ [.long x0] [.int q1.1] rfl rfl (Nat.le_of_ble_eq_true rfl) rfl (Nat.le_of_ble_eq_true rfl) (en_X3_toOf m x0 q1.2) (fun q2 => ?_)
  refine xs_icmp_eq (n := 11) (tgt := 13) dX3_isFault_8 rfl rfl (fun hc3 => ?_) (fun hc3 => ?_)
  · refine xs_iconst (n := 14) (v := (0)) dX3_isFault_13 rfl rfl ?_
    refine xs_istore_n (n := 15) (lv' := [some (.long x0), none, some (.int (0))]) dX3_isFault_14 rfl (Nat.le_of_ble_eq_true rfl) rfl ?_
    refine xs_reg ?_
    refine xs_fg (lv' := [some (.long x0), none, some (.int (0))]) (And.intro rfl (And.intro rfl trivial)) ?_
    refine el_X3_isFault_15 m x0 _ (fun _ => rfl) (fun q8 => ?_) m (0) q2.2
    refine xs_inr ?_
    refine xs_lload_n (n := 44) dX3_isFault_43 rfl rfl ?_
    refine xs_lload_n (n := 45) dX3_isFault_44 rfl rfl ?_
    refine ys_callsl (n := 48) (N := mt_X3_together) dX3_isFault_45 rfl ok_X3_together tw_830 st_X3_together ⟨Nat.le_of_ble_eq_true rfl, Nat.le_of_ble_eq_true rfl⟩ [.long x0, .long x0] [] rfl rfl (Nat.le_of_ble_eq_true rfl) rfl (Nat.le_of_ble_eq_true rfl) (en_X3_together m x0 x0 q8.2) (fun q9 => ?_)
    refine xs_lload_n (n := 49) dX3_isFault_48 rfl rfl ?_
    refine xs_join 58 (fun q10 => [none, none, none]) (fun q10 => [.int q10]) (fun q10 => q9.2) (fun q10 => ?_) (fun kj11 => ?_)
    · exact xs_zret dX3_isFault_58 rfl rfl
    · refine xs_lif_ne (n := 53) (pc1 := 50) (tgt := 57) dX3_isFault_49 rfl dX3_isFault_50 rfl rfl (fun hc12 => ?_) (fun hc12 => ?_)
      · refine xs_iconst (n := 54) (v := (1)) dX3_isFault_53 rfl rfl ?_
        refine xs_goto (n := 58) dX3_isFault_54 rfl ?_
        exact xs_gf (kj11 ((1))) trivial
      · refine xs_iconst (n := 58) (v := (0)) dX3_isFault_57 rfl rfl ?_
        exact xs_gf (kj11 ((0))) trivial
  · refine xs_iconst (n := 12) (v := (0)) dX3_isFault_11 rfl rfl ?_
    exact xs_zretc dX3_isFault_12 rfl (Or.inl rfl) rfl
def lp_X3_numberOf_4 (m : Nat) (c0 : Int64) : Nat → Int32 → Int32 → xm_Y → Option (Int32 × Int32 × xm_Y)
  | 0, _, _, _ => none
  | n + 1, l2, l3, u0 =>
  if (16) ≤ l3 then (
  some (l2, l3, u0)) else (
  ((fn_X3_toldOf m c0 u0).bind fun q2 =>
  ((fn_X3_lessOf m c0 q2.2).bind fun q3 =>
  xm_let (α := Int32) (((((3) * l2) + ((q2.1 >>> (l3 &&& 31)) &&& (1))) + ((q3.1 >>> (l3 &&& 31)) &&& (1)))) fun v4 =>
  xm_let (α := Int32) (l3 + (1)) fun v5 =>
  lp_X3_numberOf_4 m c0 n v4 v5 q3.2)))
def fn_X3_numberOf (m : Nat) (x0 : Int64) (u0 : xm_Y) : Option (Int32 × xm_Y) :=
  ((lp_X3_numberOf_4 m x0 m (0) (0) u0).bind fun q6 =>
  some (q6.1, q6.2.2))
theorem el_X3_numberOf_4 (m : Nat) (c0 : Int64) (K : Int32 × Int32 × xm_Y → Option (Int32 × xm_Y)) (kE : ∀ q : Int32 × Int32 × xm_Y, xs_ (fun x : Int32 => some (.int x)) sg_0 mt_X3_numberOf 38 [none, none, some (.int q.1), none] [] q.2.2 0 0 (K q)) : ∀ (n : Nat) (l2 : Int32) (l3 : Int32) (u0 : xm_Y), xs_ (fun x : Int32 => some (.int x)) sg_0 mt_X3_numberOf 4 [some (.long c0), none, some (.int l2), some (.int l3)] [] u0 0 0 ((lp_X3_numberOf_4 m c0 n l2 l3 u0).bind K) := by
  intro n
  induction n with
  | zero =>
    intro l2 l3 u0
    exact xs_none
  | succ n ih =>
    intro l2 l3 u0
    rw [lp_X3_numberOf_4]
    refine xs_iload_n (n := 5) dX3_numberOf_4 rfl rfl ?_
    refine xs_bipush (n := 7) (v := (16)) dX3_numberOf_5 rfl rfl ?_
    refine xs_icmp_ge (n := 10) (tgt := 38) dX3_numberOf_7 rfl rfl (fun hc1 => ?_) (fun hc1 => ?_)
    · exact xs_gf (kE (l2, l3, u0)) (And.intro rfl trivial)
    · refine xs_iconst (n := 11) (v := (3)) dX3_numberOf_10 rfl rfl ?_
      refine xs_iload_n (n := 12) dX3_numberOf_11 rfl rfl ?_
      refine xs_imul (n := 13) dX3_numberOf_12 rfl ?_
      refine xs_lload_n (n := 14) dX3_numberOf_13 rfl rfl ?_
      refine ys_callsi (n := 17) (N := mt_X3_toldOf) dX3_numberOf_14 rfl ok_X3_toldOf tw_833 st_X3_toldOf ⟨Nat.le_of_ble_eq_true rfl, Nat.le_of_ble_eq_true rfl⟩ [.long c0] [.int ((3) * l2)] rfl rfl (Nat.le_of_ble_eq_true rfl) rfl (Nat.le_of_ble_eq_true rfl) (en_X3_toldOf m c0 u0) (fun q2 => ?_)
      refine xs_iload_n (n := 18) dX3_numberOf_17 rfl rfl ?_
      refine xs_ishr (n := 19) dX3_numberOf_18 rfl ?_
      refine xs_iconst (n := 20) (v := (1)) dX3_numberOf_19 rfl rfl ?_
      refine xs_iand (n := 21) dX3_numberOf_20 rfl ?_
      refine xs_iadd (n := 22) dX3_numberOf_21 rfl ?_
      refine xs_lload_n (n := 23) dX3_numberOf_22 rfl rfl ?_
      refine ys_callsi (n := 26) (N := mt_X3_lessOf) dX3_numberOf_23 rfl ok_X3_lessOf tw_837 st_X3_lessOf ⟨Nat.le_of_ble_eq_true rfl, Nat.le_of_ble_eq_true rfl⟩ [.long c0] [.int (((3) * l2) + ((q2.1 >>> (l3 &&& 31)) &&& (1)))] rfl rfl (Nat.le_of_ble_eq_true rfl) rfl (Nat.le_of_ble_eq_true rfl) (en_X3_lessOf m c0 q2.2) (fun q3 => ?_)
      refine xs_iload_n (n := 27) dX3_numberOf_26 rfl rfl ?_
      refine xs_ishr (n := 28) dX3_numberOf_27 rfl ?_
      refine xs_iconst (n := 29) (v := (1)) dX3_numberOf_28 rfl rfl ?_
      refine xs_iand (n := 30) dX3_numberOf_29 rfl ?_
      refine xs_iadd (n := 31) dX3_numberOf_30 rfl ?_
      refine xs_leti (fun v4 => ?_)
      refine xs_istore_n (n := 32) (lv' := [some (.long c0), none, some (.int v4), some (.int l3)]) dX3_numberOf_31 rfl (Nat.le_of_ble_eq_true rfl) rfl ?_
      refine xs_iincl (n := 35) (dv := (1)) (fun v5 => [some (.long c0), none, some (.int v4), some (.int v5)]) dX3_numberOf_32 rfl rfl rfl (Nat.le_of_ble_eq_true rfl) (fun _ => rfl) (fun v5 => ?_)
      refine xs_goto (n := 4) dX3_numberOf_35 rfl ?_
      exact xs_gf (ih v4 v5 q3.2) (And.intro rfl (And.intro rfl (And.intro rfl trivial)))
theorem en_X3_numberOf (m : Nat) (x0 : Int64) (u0 : xm_Y) : xs_ (fun x : Int32 => some (.int x)) sg_0 mt_X3_numberOf 0 [some (.long x0), none, none, none] [] u0 0 0 (fn_X3_numberOf m x0 u0) := by
  refine xs_top ?_
  rw [fn_X3_numberOf]
  refine xs_iconst (n := 1) (v := (0)) dX3_numberOf_0 rfl rfl ?_
  refine xs_istore_n (n := 2) (lv' := [some (.long x0), none, some (.int (0)), none]) dX3_numberOf_1 rfl (Nat.le_of_ble_eq_true rfl) rfl ?_
  refine xs_iconst (n := 3) (v := (0)) dX3_numberOf_2 rfl rfl ?_
  refine xs_istore_n (n := 4) (lv' := [some (.long x0), none, some (.int (0)), some (.int (0))]) dX3_numberOf_3 rfl (Nat.le_of_ble_eq_true rfl) rfl ?_
  refine xs_reg ?_
  refine xs_fg (lv' := [some (.long x0), none, some (.int (0)), some (.int (0))]) (And.intro rfl (And.intro rfl (And.intro rfl trivial))) ?_
  refine el_X3_numberOf_4 m x0 _ (fun q6 => ?_) m (0) (0) u0
  refine xs_iload_n (n := 39) dX3_numberOf_38 rfl rfl ?_
  exact xs_iret dX3_numberOf_39 rfl rfl
def fn_X3_isAhead (m : Nat) (x0 : Int64) (x1 : Int64) (u0 : xm_Y) : Option (Int32 × xm_Y) :=
  ((fn_X3_fromOf m x0 u0).bind fun q1 =>
  ((fn_X3_fromOf m x1 q1.2).bind fun q2 =>
  if q1.1 = q2.1 then (
  ((fn_X3_numberOf m x0 q2.2).bind fun q4 =>
  ((fn_X3_numberOf m x1 q4.2).bind fun q5 =>
  ((if q5.1 ≤ q4.1 then (
  some ((0))) else (
  some ((1))) : Option (Int32)).bind fun q6 =>
  xm_chk (q6 = 0 ∨ q6 = 1) (some (q6, q5.2)))))) else (
  ((fn_X3_fromOf m x0 q2.2).bind fun q9 =>
  ((fn_X3_fromOf m x1 q9.2).bind fun q10 =>
  ((if q10.1 ≤ q9.1 then (
  some ((0))) else (
  some ((1))) : Option (Int32)).bind fun q11 =>
  xm_chk (q11 = 0 ∨ q11 = 1) (some (q11, q10.2))))))))
theorem en_X3_isAhead (m : Nat) (x0 : Int64) (x1 : Int64) (u0 : xm_Y) : xs_ (fun x : Int32 => some (.int x)) sg_0 mt_X3_isAhead 0 [some (.long x0), none, some (.long x1), none] [] u0 0 0 (fn_X3_isAhead m x0 x1 u0) := by
  refine xs_top ?_
  rw [fn_X3_isAhead]
  refine xs_lload_n (n := 1) dX3_isAhead_0 rfl rfl ?_
  refine ys_callsi (n := 4) (N := mt_X3_fromOf) dX3_isAhead_1 rfl ok_X3_fromOf tw_827 st_X3_fromOf ⟨Nat.le_of_ble_eq_true rfl, Nat.le_of_ble_eq_true rfl⟩ [.long x0] [] rfl rfl (Nat.le_of_ble_eq_true rfl) rfl (Nat.le_of_ble_eq_true rfl) (en_X3_fromOf m x0 u0) (fun q1 => ?_)
  refine xs_lload_n (n := 5) dX3_isAhead_4 rfl rfl ?_
  refine ys_callsi (n := 8) (N := mt_X3_fromOf) dX3_isAhead_5 rfl ok_X3_fromOf tw_827 st_X3_fromOf ⟨Nat.le_of_ble_eq_true rfl, Nat.le_of_ble_eq_true rfl⟩ [.long x1] [.int q1.1] rfl rfl (Nat.le_of_ble_eq_true rfl) rfl (Nat.le_of_ble_eq_true rfl) (en_X3_fromOf m x1 q1.2) (fun q2 => ?_)
  refine xs_icmp_eq (n := 11) (tgt := 28) dX3_isAhead_8 rfl rfl (fun hc3 => ?_) (fun hc3 => ?_)
  · refine xs_lload_n (n := 29) dX3_isAhead_28 rfl rfl ?_
    refine ys_callsi (n := 32) (N := mt_X3_numberOf) dX3_isAhead_29 rfl ok_X3_numberOf tw_850 st_X3_numberOf ⟨Nat.le_of_ble_eq_true rfl, Nat.le_of_ble_eq_true rfl⟩ [.long x0] [] rfl rfl (Nat.le_of_ble_eq_true rfl) rfl (Nat.le_of_ble_eq_true rfl) (en_X3_numberOf m x0 q2.2) (fun q4 => ?_)
    refine xs_lload_n (n := 33) dX3_isAhead_32 rfl rfl ?_
    refine ys_callsi (n := 36) (N := mt_X3_numberOf) dX3_isAhead_33 rfl ok_X3_numberOf tw_850 st_X3_numberOf ⟨Nat.le_of_ble_eq_true rfl, Nat.le_of_ble_eq_true rfl⟩ [.long x1] [.int q4.1] rfl rfl (Nat.le_of_ble_eq_true rfl) rfl (Nat.le_of_ble_eq_true rfl) (en_X3_numberOf m x1 q4.2) (fun q5 => ?_)
    refine xs_join 44 (fun q6 => [none, none, none, none]) (fun q6 => [.int q6]) (fun q6 => q5.2) (fun q6 => ?_) (fun kj7 => ?_)
    · exact xs_zret dX3_isAhead_44 rfl rfl
    · refine xs_icmp_ge (n := 39) (tgt := 43) dX3_isAhead_36 rfl rfl (fun hc8 => ?_) (fun hc8 => ?_)
      · refine xs_iconst (n := 44) (v := (0)) dX3_isAhead_43 rfl rfl ?_
        exact xs_gf (kj7 ((0))) trivial
      · refine xs_iconst (n := 40) (v := (1)) dX3_isAhead_39 rfl rfl ?_
        refine xs_goto (n := 44) dX3_isAhead_40 rfl ?_
        exact xs_gf (kj7 ((1))) trivial
  · refine xs_lload_n (n := 12) dX3_isAhead_11 rfl rfl ?_
    refine ys_callsi (n := 15) (N := mt_X3_fromOf) dX3_isAhead_12 rfl ok_X3_fromOf tw_827 st_X3_fromOf ⟨Nat.le_of_ble_eq_true rfl, Nat.le_of_ble_eq_true rfl⟩ [.long x0] [] rfl rfl (Nat.le_of_ble_eq_true rfl) rfl (Nat.le_of_ble_eq_true rfl) (en_X3_fromOf m x0 q2.2) (fun q9 => ?_)
    refine xs_lload_n (n := 16) dX3_isAhead_15 rfl rfl ?_
    refine ys_callsi (n := 19) (N := mt_X3_fromOf) dX3_isAhead_16 rfl ok_X3_fromOf tw_827 st_X3_fromOf ⟨Nat.le_of_ble_eq_true rfl, Nat.le_of_ble_eq_true rfl⟩ [.long x1] [.int q9.1] rfl rfl (Nat.le_of_ble_eq_true rfl) rfl (Nat.le_of_ble_eq_true rfl) (en_X3_fromOf m x1 q9.2) (fun q10 => ?_)
    refine xs_join 27 (fun q11 => [none, none, none, none]) (fun q11 => [.int q11]) (fun q11 => q10.2) (fun q11 => ?_) (fun kj12 => ?_)
    · exact xs_zret dX3_isAhead_27 rfl rfl
    · refine xs_icmp_ge (n := 22) (tgt := 26) dX3_isAhead_19 rfl rfl (fun hc13 => ?_) (fun hc13 => ?_)
      · refine xs_iconst (n := 27) (v := (0)) dX3_isAhead_26 rfl rfl ?_
        exact xs_gf (kj12 ((0))) trivial
      · refine xs_iconst (n := 23) (v := (1)) dX3_isAhead_22 rfl rfl ?_
        refine xs_goto (n := 27) dX3_isAhead_23 rfl ?_
        exact xs_gf (kj12 ((1))) trivial
def lp_X3_firstFault_4 (m : Nat) : Nat → Int32 → Int32 → xm_Y → Option (Int32 × Int32 × xm_Y)
  | 0, _, _, _ => none
  | n + 1, l1, l2, u0 =>
  if (u0.1 146 3) ≤ l2 then (
  some (l1, l2, u0)) else (
  xm_chk (xm_in l2 1000) (
  ((fn_X3_isFault m (u0.2 148 (Int32.toNatClampNeg l2)) u0).bind fun q2 =>
  ((if q2.1 = 0 then (
  some (l1, q2.2)) else (
  if l1 < 0 then (
  some (l2, q2.2)) else (
  xm_chk (xm_in l2 1000) (
  xm_chk (xm_in l1 1000) (
  ((fn_X3_isAhead m (q2.2.2 148 (Int32.toNatClampNeg l2)) (q2.2.2 148 (Int32.toNatClampNeg l1)) q2.2).bind fun q7 =>
  if q7.1 = 0 then (
  some (l1, q7.2)) else (
  some (l2, q7.2))))))) : Option (Int32 × xm_Y)).bind fun q3 =>
  xm_let (α := Int32) (l2 + (1)) fun v9 =>
  lp_X3_firstFault_4 m n q3.1 v9 q3.2))))
def fn_X3_firstFault (m : Nat) (u0 : xm_Y) : Option (Int32 × xm_Y) :=
  ((lp_X3_firstFault_4 m m (-1) (0) u0).bind fun q10 =>
  some (q10.1, q10.2.2))
theorem el_X3_firstFault_4 (m : Nat) (K : Int32 × Int32 × xm_Y → Option (Int32 × xm_Y)) (kE : ∀ q : Int32 × Int32 × xm_Y, xs_ (fun x : Int32 => some (.int x)) sg_0 mt_X3_firstFault 54 [none, some (.int q.1), none] [] q.2.2 0 0 (K q)) : ∀ (n : Nat) (l1 : Int32) (l2 : Int32) (u0 : xm_Y), xs_ (fun x : Int32 => some (.int x)) sg_0 mt_X3_firstFault 4 [some (.ref 146), some (.int l1), some (.int l2)] [] u0 0 0 ((lp_X3_firstFault_4 m n l1 l2 u0).bind K) := by
  intro n
  induction n with
  | zero =>
    intro l1 l2 u0
    exact xs_none
  | succ n ih =>
    intro l1 l2 u0
    rw [lp_X3_firstFault_4]
    refine xs_iload_n (n := 5) dX3_firstFault_4 rfl rfl ?_
    refine xs_aload_n (n := 6) dX3_firstFault_5 rfl rfl ?_
    refine ys_geti (n := 9) dX3_firstFault_6 rfl fl_X3_47 (Or.inl rfl) sh_146 ?_
    refine xs_icmp_ge (n := 12) (tgt := 54) dX3_firstFault_9 rfl rfl (fun hc1 => ?_) (fun hc1 => ?_)
    · exact xs_gf (kE (l1, l2, u0)) (And.intro rfl trivial)
    · refine xs_aload_n (n := 13) dX3_firstFault_12 rfl rfl ?_
      refine ys_getr (n := 16) dX3_firstFault_13 rfl fl_X3_15 sh_146 rfl ?_
      refine xs_iload_n (n := 17) dX3_firstFault_16 rfl rfl ?_
      refine ys_laload (n := 18) dX3_firstFault_17 rfl sh_148 ?_
      refine ys_callsi (n := 21) (N := mt_X3_isFault) dX3_firstFault_18 rfl ok_X3_isFault tw_844 st_X3_isFault ⟨Nat.le_of_ble_eq_true rfl, Nat.le_of_ble_eq_true rfl⟩ [.long (u0.2 148 (Int32.toNatClampNeg l2))] [] rfl rfl (Nat.le_of_ble_eq_true rfl) rfl (Nat.le_of_ble_eq_true rfl) (en_X3_isFault m (u0.2 148 (Int32.toNatClampNeg l2)) u0) (fun q2 => ?_)
      refine xs_join 48 (fun q3 => [some (.ref 146), some (.int q3.1), some (.int l2)]) (fun q3 => []) (fun q3 => q3.2) (fun q3 => ?_) (fun kj4 => ?_)
      · refine xs_iincl (n := 51) (dv := (1)) (fun v9 => [some (.ref 146), some (.int q3.1), some (.int v9)]) dX3_firstFault_48 rfl rfl rfl (Nat.le_of_ble_eq_true rfl) (fun _ => rfl) (fun v9 => ?_)
        refine xs_goto (n := 4) dX3_firstFault_51 rfl ?_
        exact xs_gf (ih q3.1 v9 q3.2) (And.intro rfl (And.intro rfl (And.intro rfl trivial)))
      · refine xs_if_eq (n := 24) (tgt := 48) dX3_firstFault_21 rfl rfl (fun hc5 => ?_) (fun hc5 => ?_)
        · exact xs_gf (kj4 (l1, q2.2)) (And.intro rfl (And.intro rfl (And.intro rfl trivial)))
        · refine xs_iload_n (n := 25) dX3_firstFault_24 rfl rfl ?_
          refine xs_if_lt (n := 28) (tgt := 46) dX3_firstFault_25 rfl rfl (fun hc6 => ?_) (fun hc6 => ?_)
          · refine xs_iload_n (n := 47) dX3_firstFault_46 rfl rfl ?_
            refine xs_istore_n (n := 48) (lv' := [some (.ref 146), some (.int l2), some (.int l2)]) dX3_firstFault_47 rfl (Nat.le_of_ble_eq_true rfl) rfl ?_
            exact xs_gf (kj4 (l2, q2.2)) (And.intro rfl (And.intro rfl (And.intro rfl trivial)))
          · refine xs_aload_n (n := 29) dX3_firstFault_28 rfl rfl ?_
            refine ys_getr (n := 32) dX3_firstFault_29 rfl fl_X3_15 sh_146 rfl ?_
            refine xs_iload_n (n := 33) dX3_firstFault_32 rfl rfl ?_
            refine ys_laload (n := 34) dX3_firstFault_33 rfl sh_148 ?_
            refine xs_aload_n (n := 35) dX3_firstFault_34 rfl rfl ?_
            refine ys_getr (n := 38) dX3_firstFault_35 rfl fl_X3_15 sh_146 rfl ?_
            refine xs_iload_n (n := 39) dX3_firstFault_38 rfl rfl ?_
            refine ys_laload (n := 40) dX3_firstFault_39 rfl sh_148 ?_
            refine ys_callsi (n := 43) (N := mt_X3_isAhead) dX3_firstFault_40 rfl ok_X3_isAhead tw_847 st_X3_isAhead ⟨Nat.le_of_ble_eq_true rfl, Nat.le_of_ble_eq_true rfl⟩ [.long (q2.2.2 148 (Int32.toNatClampNeg l2)), .long (q2.2.2 148 (Int32.toNatClampNeg l1))] [] rfl rfl (Nat.le_of_ble_eq_true rfl) rfl (Nat.le_of_ble_eq_true rfl) (en_X3_isAhead m (q2.2.2 148 (Int32.toNatClampNeg l2)) (q2.2.2 148 (Int32.toNatClampNeg l1)) q2.2) (fun q7 => ?_)
            refine xs_if_eq (n := 46) (tgt := 48) dX3_firstFault_43 rfl rfl (fun hc8 => ?_) (fun hc8 => ?_)
            · exact xs_gf (kj4 (l1, q7.2)) (And.intro rfl (And.intro rfl (And.intro rfl trivial)))
            · refine xs_iload_n (n := 47) dX3_firstFault_46 rfl rfl ?_
              refine xs_istore_n (n := 48) (lv' := [some (.ref 146), some (.int l2), some (.int l2)]) dX3_firstFault_47 rfl (Nat.le_of_ble_eq_true rfl) rfl ?_
              exact xs_gf (kj4 (l2, q7.2)) (And.intro rfl (And.intro rfl (And.intro rfl trivial)))
theorem en_X3_firstFault (m : Nat) (u0 : xm_Y) : xs_ (fun x : Int32 => some (.int x)) sg_0 mt_X3_firstFault 0 [some (.ref 146), none, none] [] u0 0 0 (fn_X3_firstFault m u0) := by
  refine xs_top ?_
  rw [fn_X3_firstFault]
  refine xs_iconst (n := 1) (v := (-1)) dX3_firstFault_0 rfl rfl ?_
  refine xs_istore_n (n := 2) (lv' := [some (.ref 146), some (.int (-1)), none]) dX3_firstFault_1 rfl (Nat.le_of_ble_eq_true rfl) rfl ?_
  refine xs_iconst (n := 3) (v := (0)) dX3_firstFault_2 rfl rfl ?_
  refine xs_istore_n (n := 4) (lv' := [some (.ref 146), some (.int (-1)), some (.int (0))]) dX3_firstFault_3 rfl (Nat.le_of_ble_eq_true rfl) rfl ?_
  refine xs_reg ?_
  refine xs_fg (lv' := [some (.ref 146), some (.int (-1)), some (.int (0))]) (And.intro rfl (And.intro rfl (And.intro rfl trivial))) ?_
  refine el_X3_firstFault_4 m _ (fun q10 => ?_) m (-1) (0) u0
  refine xs_iload_n (n := 55) dX3_firstFault_54 rfl rfl ?_
  exact xs_iret dX3_firstFault_55 rfl rfl
def fn_X3_judge (m : Nat) (u0 : xm_Y) : Option (Int32 × xm_Y) :=
  ((fn_X3_makeAll m u0).bind fun q1 =>
  if q1.1 = 0 then (
  xm_let (w_I q1.2 146 5 (1000)) fun u3 =>
  some ((-3), u3)) else (
  xm_let (w_I q1.2 146 5 (q1.2.1 146 3)) fun u4 =>
  ((fn_X3_firstFault m u4).bind fun q5 =>
  if 0 ≤ q5.1 then (
  xm_chk (xm_in q5.1 1000) (
  ((fn_X3_fromOf m (q5.2.2 148 (Int32.toNatClampNeg q5.1)) q5.2).bind fun q7 =>
  xm_let (w_I q7.2 146 6 q7.1) fun u8 =>
  xm_chk (xm_in q5.1 1000) (
  ((fn_X3_numberOf m (u8.2 148 (Int32.toNatClampNeg q5.1)) u8).bind fun q9 =>
  xm_let (w_I q9.2 146 7 q9.1) fun u10 =>
  some ((0), u10)))))) else (
  some ((1), q5.2)))))
theorem en_X3_judge (m : Nat) (u0 : xm_Y) : xs_ (fun x : Int32 => some (.int x)) sg_0 mt_X3_judge 0 [some (.ref 146), none] [] u0 0 0 (fn_X3_judge m u0) := by
  refine xs_top ?_
  rw [fn_X3_judge]
  refine xs_aload_n (n := 1) dX3_judge_0 rfl rfl ?_
  refine ys_callvi (n := 4) (N := mt_X3_makeAll) dX3_judge_1 rfl ok_X3_makeAll tw_814 im_X3_makeAll se_X3_makeAll ⟨Nat.le_of_ble_eq_true rfl, Nat.le_of_ble_eq_true rfl⟩ [] [] rfl rfl (Nat.le_of_ble_eq_true rfl) rfl (Nat.le_of_ble_eq_true rfl) (en_X3_makeAll m u0) sh_146 (by decide) rfl (fun q1 => ?_)
  refine xs_if_ne (n := 7) (tgt := 17) dX3_judge_4 rfl rfl (fun hc2 => ?_) (fun hc2 => ?_)
  · refine xs_aload_n (n := 8) dX3_judge_7 rfl rfl ?_
    refine xs_sipush (n := 11) (v := (1000)) dX3_judge_8 rfl rfl ?_
    refine ys_puti (n := 14) dX3_judge_11 rfl fl_X3_22 rfl sh_146 (fun u3 => ?_)
    refine xs_bipush (n := 16) (v := (-3)) dX3_judge_14 rfl rfl ?_
    exact xs_iret dX3_judge_16 rfl rfl
  · refine xs_aload_n (n := 18) dX3_judge_17 rfl rfl ?_
    refine xs_aload_n (n := 19) dX3_judge_18 rfl rfl ?_
    refine ys_geti (n := 22) dX3_judge_19 rfl fl_X3_47 (Or.inl rfl) sh_146 ?_
    refine ys_puti (n := 25) dX3_judge_22 rfl fl_X3_22 rfl sh_146 (fun u4 => ?_)
    refine xs_aload_n (n := 26) dX3_judge_25 rfl rfl ?_
    refine ys_callvi (n := 29) (N := mt_X3_firstFault) dX3_judge_26 rfl ok_X3_firstFault tw_840 im_X3_firstFault se_X3_firstFault ⟨Nat.le_of_ble_eq_true rfl, Nat.le_of_ble_eq_true rfl⟩ [] [] rfl rfl (Nat.le_of_ble_eq_true rfl) rfl (Nat.le_of_ble_eq_true rfl) (en_X3_firstFault m u4) sh_146 (by decide) rfl (fun q5 => ?_)
    refine xs_istore_n (n := 30) (lv' := [some (.ref 146), some (.int q5.1)]) dX3_judge_29 rfl (Nat.le_of_ble_eq_true rfl) rfl ?_
    refine xs_iload_n (n := 31) dX3_judge_30 rfl rfl ?_
    refine xs_if_ge (n := 34) (tgt := 36) dX3_judge_31 rfl rfl (fun hc6 => ?_) (fun hc6 => ?_)
    · refine xs_aload_n (n := 37) dX3_judge_36 rfl rfl ?_
      refine xs_aload_n (n := 38) dX3_judge_37 rfl rfl ?_
      refine ys_getr (n := 41) dX3_judge_38 rfl fl_X3_15 sh_146 rfl ?_
      refine xs_iload_n (n := 42) dX3_judge_41 rfl rfl ?_
      refine ys_laload (n := 43) dX3_judge_42 rfl sh_148 ?_
      refine ys_callsi (n := 46) (N := mt_X3_fromOf) dX3_judge_43 rfl ok_X3_fromOf tw_827 st_X3_fromOf ⟨Nat.le_of_ble_eq_true rfl, Nat.le_of_ble_eq_true rfl⟩ [.long (q5.2.2 148 (Int32.toNatClampNeg q5.1))] [.ref 146] rfl rfl (Nat.le_of_ble_eq_true rfl) rfl (Nat.le_of_ble_eq_true rfl) (en_X3_fromOf m (q5.2.2 148 (Int32.toNatClampNeg q5.1)) q5.2) (fun q7 => ?_)
      refine ys_puti (n := 49) dX3_judge_46 rfl fl_X3_26 rfl sh_146 (fun u8 => ?_)
      refine xs_aload_n (n := 50) dX3_judge_49 rfl rfl ?_
      refine xs_aload_n (n := 51) dX3_judge_50 rfl rfl ?_
      refine ys_getr (n := 54) dX3_judge_51 rfl fl_X3_15 sh_146 rfl ?_
      refine xs_iload_n (n := 55) dX3_judge_54 rfl rfl ?_
      refine ys_laload (n := 56) dX3_judge_55 rfl sh_148 ?_
      refine ys_callsi (n := 59) (N := mt_X3_numberOf) dX3_judge_56 rfl ok_X3_numberOf tw_850 st_X3_numberOf ⟨Nat.le_of_ble_eq_true rfl, Nat.le_of_ble_eq_true rfl⟩ [.long (u8.2 148 (Int32.toNatClampNeg q5.1))] [.ref 146] rfl rfl (Nat.le_of_ble_eq_true rfl) rfl (Nat.le_of_ble_eq_true rfl) (en_X3_numberOf m (u8.2 148 (Int32.toNatClampNeg q5.1)) u8) (fun q9 => ?_)
      refine ys_puti (n := 62) dX3_judge_59 rfl fl_X3_29 rfl sh_146 (fun u10 => ?_)
      refine xs_iconst (n := 63) (v := (0)) dX3_judge_62 rfl rfl ?_
      exact xs_iret dX3_judge_63 rfl rfl
    · refine xs_iconst (n := 35) (v := (1)) dX3_judge_34 rfl rfl ?_
      exact xs_iret dX3_judge_35 rfl rfl
def fn_X11_ending (m : Nat) (u0 : xm_Y) : Option (Int32 × xm_Y) :=
  ((fn_X3_judge m u0).bind fun q1 =>
  some (q1.1, q1.2))
theorem en_X11_ending (m : Nat) (u0 : xm_Y) : xs_ (fun x : Int32 => some (.int x)) sg_0 mt_X11_ending 0 [some (.ref 0)] [] u0 0 0 (fn_X11_ending m u0) := by
  refine xs_top ?_
  rw [fn_X11_ending]
  refine xs_aload_n (n := 1) dX11_ending_0 rfl rfl ?_
  refine ys_getr (n := 4) dX11_ending_1 rfl fl_X11_65 sh_0 rfl ?_
  refine ys_callvi (n := 7) (N := mt_X3_judge) dX11_ending_4 rfl ok_X3_judge tw_810 im_X3_judge se_X3_judge ⟨Nat.le_of_ble_eq_true rfl, Nat.le_of_ble_eq_true rfl⟩ [] [] rfl rfl (Nat.le_of_ble_eq_true rfl) rfl (Nat.le_of_ble_eq_true rfl) (en_X3_judge m u0) sh_146 (by decide) rfl (fun q1 => ?_)
  exact xs_iret dX11_ending_7 rfl rfl
def fn_X11_made (m : Nat) (u0 : xm_Y) : Option (Int32 × xm_Y) :=
  some ((u0.1 146 5), u0)
theorem en_X11_made (m : Nat) (u0 : xm_Y) : xs_ (fun x : Int32 => some (.int x)) sg_0 mt_X11_made 0 [some (.ref 0)] [] u0 0 0 (fn_X11_made m u0) := by
  refine xs_top ?_
  rw [fn_X11_made]
  refine xs_aload_n (n := 1) dX11_made_0 rfl rfl ?_
  refine ys_getr (n := 4) dX11_made_1 rfl fl_X11_65 sh_0 rfl ?_
  refine ys_geti (n := 7) dX11_made_4 rfl fl_X11_277 (Or.inl rfl) sh_146 ?_
  exact xs_iret dX11_made_7 rfl rfl
def fn_X11_witness (m : Nat) (x0 : Int32) (u0 : xm_Y) : Option (Int32 × xm_Y) :=
  if x0 = 0 then (
  some ((u0.1 146 6), u0)) else (
  ((if x0 = (1) then (
  some ((u0.1 146 7))) else (
  some ((-1))) : Option (Int32)).bind fun q2 =>
  some (q2, u0)))
theorem en_X11_witness (m : Nat) (x0 : Int32) (u0 : xm_Y) : xs_ (fun x : Int32 => some (.int x)) sg_0 mt_X11_witness 0 [some (.ref 0), some (.int x0)] [] u0 0 0 (fn_X11_witness m x0 u0) := by
  refine xs_top ?_
  rw [fn_X11_witness]
  refine xs_iload_n (n := 1) dX11_witness_0 rfl rfl ?_
  refine xs_if_ne (n := 4) (tgt := 12) dX11_witness_1 rfl rfl (fun hc1 => ?_) (fun hc1 => ?_)
  · refine xs_aload_n (n := 5) dX11_witness_4 rfl rfl ?_
    refine ys_getr (n := 8) dX11_witness_5 rfl fl_X11_65 sh_0 rfl ?_
    refine ys_geti (n := 11) dX11_witness_8 rfl fl_X11_280 (Or.inl rfl) sh_146 ?_
    exact xs_iret dX11_witness_11 rfl rfl
  · refine xs_iload_n (n := 13) dX11_witness_12 rfl rfl ?_
    refine xs_iconst (n := 14) (v := (1)) dX11_witness_13 rfl rfl ?_
    refine xs_join 28 (fun q2 => [none, none]) (fun q2 => [.int q2]) (fun q2 => u0) (fun q2 => ?_) (fun kj3 => ?_)
    · exact xs_iret dX11_witness_28 rfl rfl
    · refine xs_icmp_ne (n := 17) (tgt := 27) dX11_witness_14 rfl rfl (fun hc4 => ?_) (fun hc4 => ?_)
      · refine xs_aload_n (n := 18) dX11_witness_17 rfl rfl ?_
        refine ys_getr (n := 21) dX11_witness_18 rfl fl_X11_65 sh_0 rfl ?_
        refine ys_geti (n := 24) dX11_witness_21 rfl fl_X11_283 (Or.inl rfl) sh_146 ?_
        refine xs_goto (n := 28) dX11_witness_24 rfl ?_
        exact xs_gf (kj3 ((u0.1 146 7))) trivial
      · refine xs_iconst (n := 28) (v := (-1)) dX11_witness_27 rfl rfl ?_
        exact xs_gf (kj3 ((-1))) trivial
def lp_X12_openAll_2 (m : Nat) : Nat → Int32 → xm_Y → Option (Int32 × xm_Y)
  | 0, _, _ => none
  | n + 1, l1, u0 =>
  if (6) ≤ l1 then (
  some (l1, u0)) else (
  xm_chk (xm_in l1 6) (xm_let (w_I u0 156 (Int32.toNatClampNeg l1) (vp_nar .boolean (1))) fun u2 =>
  xm_let (α := Int32) (l1 + (1)) fun v3 =>
  lp_X12_openAll_2 m n v3 u2))
def fn_X12_openAll (m : Nat) (u0 : xm_Y) : Option (Unit × xm_Y) :=
  ((lp_X12_openAll_2 m m (0) u0).bind fun q4 =>
  xm_let (w_I q4.2 150 21 (0)) fun u5 =>
  some ((), u5))
theorem el_X12_openAll_2 (m : Nat) (K : Int32 × xm_Y → Option (Unit × xm_Y)) (kE : ∀ q : Int32 × xm_Y, xs_ (fun _ : Unit => none) sg_0 mt_X12_openAll 21 [some (.ref 150), none] [] q.2 0 0 (K q)) : ∀ (n : Nat) (l1 : Int32) (u0 : xm_Y), xs_ (fun _ : Unit => none) sg_0 mt_X12_openAll 2 [some (.ref 150), some (.int l1)] [] u0 0 0 ((lp_X12_openAll_2 m n l1 u0).bind K) := by
  intro n
  induction n with
  | zero =>
    intro l1 u0
    exact xs_none
  | succ n ih =>
    intro l1 u0
    rw [lp_X12_openAll_2]
    refine xs_iload_n (n := 3) dX12_openAll_2 rfl rfl ?_
    refine xs_bipush (n := 5) (v := (6)) dX12_openAll_3 rfl rfl ?_
    refine xs_icmp_ge (n := 8) (tgt := 21) dX12_openAll_5 rfl rfl (fun hc1 => ?_) (fun hc1 => ?_)
    · exact xs_gf (kE (l1, u0)) (And.intro rfl trivial)
    · refine xs_aload_n (n := 9) dX12_openAll_8 rfl rfl ?_
      refine ys_getr (n := 12) dX12_openAll_9 rfl fl_X12_30 sh_150 rfl ?_
      refine xs_iload_n (n := 13) dX12_openAll_12 rfl rfl ?_
      refine xs_iconst (n := 14) (v := (1)) dX12_openAll_13 rfl rfl ?_
      refine ys_bastore (n := 15) dX12_openAll_14 rfl sh_156 (fun u2 => ?_)
      refine xs_iincl (n := 18) (dv := (1)) (fun v3 => [some (.ref 150), some (.int v3)]) dX12_openAll_15 rfl rfl rfl (Nat.le_of_ble_eq_true rfl) (fun _ => rfl) (fun v3 => ?_)
      refine xs_goto (n := 2) dX12_openAll_18 rfl ?_
      exact xs_gf (ih v3 u2) (And.intro rfl (And.intro rfl trivial))
theorem en_X12_openAll (m : Nat) (u0 : xm_Y) : xs_ (fun _ : Unit => none) sg_0 mt_X12_openAll 0 [some (.ref 150), none] [] u0 0 0 (fn_X12_openAll m u0) := by
  refine xs_top ?_
  rw [fn_X12_openAll]
  refine xs_iconst (n := 1) (v := (0)) dX12_openAll_0 rfl rfl ?_
  refine xs_istore_n (n := 2) (lv' := [some (.ref 150), some (.int (0))]) dX12_openAll_1 rfl (Nat.le_of_ble_eq_true rfl) rfl ?_
  refine xs_reg ?_
  refine xs_fg (lv' := [some (.ref 150), some (.int (0))]) (And.intro rfl (And.intro rfl trivial)) ?_
  refine el_X12_openAll_2 m _ (fun q4 => ?_) m (0) u0
  refine xs_aload_n (n := 22) dX12_openAll_21 rfl rfl ?_
  refine xs_iconst (n := 23) (v := (0)) dX12_openAll_22 rfl rfl ?_
  refine ys_putzc (n := 26) dX12_openAll_23 rfl fl_X12_131 rfl sh_150 (Or.inl rfl) (fun u5 => ?_)
  exact xs_vret dX12_openAll_26 rfl rfl
def lp_X12_loop_33 (m : Nat) : Nat → Int32 → xm_Y → Option (Int32 × xm_Y)
  | 0, _, _ => none
  | n + 1, l3, u0 =>
  if (3) ≤ l3 then (
  some (l3, u0)) else (
  xm_chk (xm_in l3 3) (xm_let (w_J u0 154 (Int32.toNatClampNeg l3) (0)) fun u8 =>
  xm_let (α := Int32) (l3 + (1)) fun v9 =>
  lp_X12_loop_33 m n v9 u8))
def lp_X12_loop_53 (m : Nat) : Nat → Int32 → xm_Y → Option (Int32 × xm_Y)
  | 0, _, _ => none
  | n + 1, l3, u0 =>
  if (6) ≤ l3 then (
  some (l3, u0)) else (
  xm_chk (xm_in l3 6) (xm_let (w_J u0 157 (Int32.toNatClampNeg l3) (0)) fun u12 =>
  xm_chk (xm_in l3 6) (xm_let (w_I u12 158 (Int32.toNatClampNeg l3) (vp_nar .boolean (0))) fun u13 =>
  xm_let (α := Int32) (l3 + (1)) fun v14 =>
  lp_X12_loop_53 m n v14 u13)))
def lp_X12_loop_91 (m : Nat) : Nat → Int32 → xm_Y → Option (Int32 × xm_Y)
  | 0, _, _ => none
  | n + 1, l3, u0 =>
  if (5) ≤ l3 then (
  some (l3, u0)) else (
  xm_chk (xm_in l3 5) (xm_let (w_I u0 163 (Int32.toNatClampNeg l3) (-1)) fun u19 =>
  xm_let (α := Int32) (l3 + (1)) fun v20 =>
  lp_X12_loop_91 m n v20 u19))
def fn_X12_loop (m : Nat) (x0 : Int32) (u0 : xm_Y) : Option (Int32 × xm_Y) :=
  if x0 < (1) then (
  some ((-1), u0)) else (
  if x0 ≤ (3) then (
  xm_let (α := Int32) ((u0.1 150 0)) fun v3 =>
  xm_let (w_I u0 150 0 x0) fun u4 =>
  xm_let (w_I u4 150 1 (0)) fun u5 =>
  ((fn_X12_openAll m u5).bind fun q6 =>
  ((lp_X12_loop_33 m m (0) q6.2).bind fun q10 =>
  ((lp_X12_loop_53 m m (0) q10.2).bind fun q15 =>
  xm_let (w_I q15.2 150 19 (0)) fun u16 =>
  xm_let (w_I u16 150 26 (-1)) fun u17 =>
  ((lp_X12_loop_91 m m (0) u17).bind fun q21 =>
  some (v3, q21.2)))))) else (
  some ((-1), u0)))
theorem el_X12_loop_33 (m : Nat) (c2 : Int32) (K : Int32 × xm_Y → Option (Int32 × xm_Y)) (kE : ∀ q : Int32 × xm_Y, xs_ (fun x : Int32 => some (.int x)) sg_0 mt_X12_loop 51 [some (.ref 150), none, some (.int c2), none] [] q.2 0 0 (K q)) : ∀ (n : Nat) (l3 : Int32) (u0 : xm_Y), xs_ (fun x : Int32 => some (.int x)) sg_0 mt_X12_loop 33 [some (.ref 150), none, some (.int c2), some (.int l3)] [] u0 0 0 ((lp_X12_loop_33 m n l3 u0).bind K) := by
  intro n
  induction n with
  | zero =>
    intro l3 u0
    exact xs_none
  | succ n ih =>
    intro l3 u0
    rw [lp_X12_loop_33]
    refine xs_iload_n (n := 34) dX12_loop_33 rfl rfl ?_
    refine xs_iconst (n := 35) (v := (3)) dX12_loop_34 rfl rfl ?_
    refine xs_icmp_ge (n := 38) (tgt := 51) dX12_loop_35 rfl rfl (fun hc7 => ?_) (fun hc7 => ?_)
    · exact xs_gf (kE (l3, u0)) (And.intro rfl (And.intro rfl trivial))
    · refine xs_aload_n (n := 39) dX12_loop_38 rfl rfl ?_
      refine ys_getr (n := 42) dX12_loop_39 rfl fl_X12_23 sh_150 rfl ?_
      refine xs_iload_n (n := 43) dX12_loop_42 rfl rfl ?_
      refine xs_lconst (n := 44) (v := (0)) dX12_loop_43 rfl rfl ?_
      refine ys_lastore (n := 45) dX12_loop_44 rfl sh_154 (fun u8 => ?_)
      refine xs_iincl (n := 48) (dv := (1)) (fun v9 => [some (.ref 150), none, some (.int c2), some (.int v9)]) dX12_loop_45 rfl rfl rfl (Nat.le_of_ble_eq_true rfl) (fun _ => rfl) (fun v9 => ?_)
      refine xs_goto (n := 33) dX12_loop_48 rfl ?_
      exact xs_gf (ih v9 u8) (And.intro rfl (And.intro rfl (And.intro rfl trivial)))
theorem el_X12_loop_53 (m : Nat) (c2 : Int32) (K : Int32 × xm_Y → Option (Int32 × xm_Y)) (kE : ∀ q : Int32 × xm_Y, xs_ (fun x : Int32 => some (.int x)) sg_0 mt_X12_loop 79 [some (.ref 150), none, some (.int c2), none] [] q.2 0 0 (K q)) : ∀ (n : Nat) (l3 : Int32) (u0 : xm_Y), xs_ (fun x : Int32 => some (.int x)) sg_0 mt_X12_loop 53 [some (.ref 150), none, some (.int c2), some (.int l3)] [] u0 0 0 ((lp_X12_loop_53 m n l3 u0).bind K) := by
  intro n
  induction n with
  | zero =>
    intro l3 u0
    exact xs_none
  | succ n ih =>
    intro l3 u0
    rw [lp_X12_loop_53]
    refine xs_iload_n (n := 54) dX12_loop_53 rfl rfl ?_
    refine xs_bipush (n := 56) (v := (6)) dX12_loop_54 rfl rfl ?_
    refine xs_icmp_ge (n := 59) (tgt := 79) dX12_loop_56 rfl rfl (fun hc11 => ?_) (fun hc11 => ?_)
    · exact xs_gf (kE (l3, u0)) (And.intro rfl (And.intro rfl trivial))
    · refine xs_aload_n (n := 60) dX12_loop_59 rfl rfl ?_
      refine ys_getr (n := 63) dX12_loop_60 rfl fl_X12_34 sh_150 rfl ?_
      refine xs_iload_n (n := 64) dX12_loop_63 rfl rfl ?_
      refine xs_lconst (n := 65) (v := (0)) dX12_loop_64 rfl rfl ?_
      refine ys_lastore (n := 66) dX12_loop_65 rfl sh_157 (fun u12 => ?_)
      refine xs_aload_n (n := 67) dX12_loop_66 rfl rfl ?_
      refine ys_getr (n := 70) dX12_loop_67 rfl fl_X12_37 sh_150 rfl ?_
      refine xs_iload_n (n := 71) dX12_loop_70 rfl rfl ?_
      refine xs_iconst (n := 72) (v := (0)) dX12_loop_71 rfl rfl ?_
      refine ys_bastore (n := 73) dX12_loop_72 rfl sh_158 (fun u13 => ?_)
      refine xs_iincl (n := 76) (dv := (1)) (fun v14 => [some (.ref 150), none, some (.int c2), some (.int v14)]) dX12_loop_73 rfl rfl rfl (Nat.le_of_ble_eq_true rfl) (fun _ => rfl) (fun v14 => ?_)
      refine xs_goto (n := 53) dX12_loop_76 rfl ?_
      exact xs_gf (ih v14 u13) (And.intro rfl (And.intro rfl (And.intro rfl trivial)))
theorem el_X12_loop_91 (m : Nat) (c2 : Int32) (K : Int32 × xm_Y → Option (Int32 × xm_Y)) (kE : ∀ q : Int32 × xm_Y, xs_ (fun x : Int32 => some (.int x)) sg_0 mt_X12_loop 109 [none, none, some (.int c2), none] [] q.2 0 0 (K q)) : ∀ (n : Nat) (l3 : Int32) (u0 : xm_Y), xs_ (fun x : Int32 => some (.int x)) sg_0 mt_X12_loop 91 [some (.ref 150), none, some (.int c2), some (.int l3)] [] u0 0 0 ((lp_X12_loop_91 m n l3 u0).bind K) := by
  intro n
  induction n with
  | zero =>
    intro l3 u0
    exact xs_none
  | succ n ih =>
    intro l3 u0
    rw [lp_X12_loop_91]
    refine xs_iload_n (n := 92) dX12_loop_91 rfl rfl ?_
    refine xs_iconst (n := 93) (v := (5)) dX12_loop_92 rfl rfl ?_
    refine xs_icmp_ge (n := 96) (tgt := 109) dX12_loop_93 rfl rfl (fun hc18 => ?_) (fun hc18 => ?_)
    · exact xs_gf (kE (l3, u0)) (And.intro rfl trivial)
    · refine xs_aload_n (n := 97) dX12_loop_96 rfl rfl ?_
      refine ys_getr (n := 100) dX12_loop_97 rfl fl_X12_52 sh_150 rfl ?_
      refine xs_iload_n (n := 101) dX12_loop_100 rfl rfl ?_
      refine xs_iconst (n := 102) (v := (-1)) dX12_loop_101 rfl rfl ?_
      refine ys_iastore (n := 103) dX12_loop_102 rfl sh_163 (fun u19 => ?_)
      refine xs_iincl (n := 106) (dv := (1)) (fun v20 => [some (.ref 150), none, some (.int c2), some (.int v20)]) dX12_loop_103 rfl rfl rfl (Nat.le_of_ble_eq_true rfl) (fun _ => rfl) (fun v20 => ?_)
      refine xs_goto (n := 91) dX12_loop_106 rfl ?_
      exact xs_gf (ih v20 u19) (And.intro rfl (And.intro rfl (And.intro rfl trivial)))
theorem en_X12_loop (m : Nat) (x0 : Int32) (u0 : xm_Y) : xs_ (fun x : Int32 => some (.int x)) sg_0 mt_X12_loop 0 [some (.ref 150), some (.int x0), none, none] [] u0 0 0 (fn_X12_loop m x0 u0) := by
  refine xs_top ?_
  rw [fn_X12_loop]
  refine xs_iload_n (n := 1) dX12_loop_0 rfl rfl ?_
  refine xs_iconst (n := 2) (v := (1)) dX12_loop_1 rfl rfl ?_
  refine xs_icmp_lt (n := 5) (tgt := 10) dX12_loop_2 rfl rfl (fun hc1 => ?_) (fun hc1 => ?_)
  · refine xs_iconst (n := 11) (v := (-1)) dX12_loop_10 rfl rfl ?_
    exact xs_iret dX12_loop_11 rfl rfl
  · refine xs_iload_n (n := 6) dX12_loop_5 rfl rfl ?_
    refine xs_iconst (n := 7) (v := (3)) dX12_loop_6 rfl rfl ?_
    refine xs_icmp_le (n := 10) (tgt := 12) dX12_loop_7 rfl rfl (fun hc2 => ?_) (fun hc2 => ?_)
    · refine xs_aload_n (n := 13) dX12_loop_12 rfl rfl ?_
      refine ys_geti (n := 16) dX12_loop_13 rfl fl_X12_7 (Or.inl rfl) sh_150 ?_
      refine xs_leti (fun v3 => ?_)
      refine xs_istore_n (n := 17) (lv' := [some (.ref 150), some (.int x0), some (.int v3), none]) dX12_loop_16 rfl (Nat.le_of_ble_eq_true rfl) rfl ?_
      refine xs_aload_n (n := 18) dX12_loop_17 rfl rfl ?_
      refine xs_iload_n (n := 19) dX12_loop_18 rfl rfl ?_
      refine ys_puti (n := 22) dX12_loop_19 rfl fl_X12_7 rfl sh_150 (fun u4 => ?_)
      refine xs_aload_n (n := 23) dX12_loop_22 rfl rfl ?_
      refine xs_iconst (n := 24) (v := (0)) dX12_loop_23 rfl rfl ?_
      refine ys_puti (n := 27) dX12_loop_24 rfl fl_X12_135 rfl sh_150 (fun u5 => ?_)
      refine xs_aload_n (n := 28) dX12_loop_27 rfl rfl ?_
      refine ys_callvv (n := 31) (N := mt_X12_openAll) dX12_loop_28 rfl ok_X12_openAll tw_868 im_X12_openAll se_X12_openAll ⟨Nat.le_of_ble_eq_true rfl, Nat.le_of_ble_eq_true rfl⟩ [] [] rfl rfl (Nat.le_of_ble_eq_true rfl) rfl (Nat.le_of_ble_eq_true rfl) (en_X12_openAll m u5) sh_150 (by decide) rfl (fun q6 => ?_)
      refine xs_iconst (n := 32) (v := (0)) dX12_loop_31 rfl rfl ?_
      refine xs_istore_n (n := 33) (lv' := [some (.ref 150), some (.int x0), some (.int v3), some (.int (0))]) dX12_loop_32 rfl (Nat.le_of_ble_eq_true rfl) rfl ?_
      refine xs_reg ?_
      refine xs_fg (lv' := [some (.ref 150), none, some (.int v3), some (.int (0))]) (And.intro rfl (And.intro rfl (And.intro rfl trivial))) ?_
      refine el_X12_loop_33 m v3 _ (fun q10 => ?_) m (0) q6.2
      refine xs_iconst (n := 52) (v := (0)) dX12_loop_51 rfl rfl ?_
      refine xs_istore_n (n := 53) (lv' := [some (.ref 150), none, some (.int v3), some (.int (0))]) dX12_loop_52 rfl (Nat.le_of_ble_eq_true rfl) rfl ?_
      refine xs_reg ?_
      refine xs_fg (lv' := [some (.ref 150), none, some (.int v3), some (.int (0))]) (And.intro rfl (And.intro rfl (And.intro rfl trivial))) ?_
      refine el_X12_loop_53 m v3 _ (fun q15 => ?_) m (0) q10.2
      refine xs_aload_n (n := 80) dX12_loop_79 rfl rfl ?_
      refine xs_iconst (n := 81) (v := (0)) dX12_loop_80 rfl rfl ?_
      refine ys_puti (n := 84) dX12_loop_81 rfl fl_X12_138 rfl sh_150 (fun u16 => ?_)
      refine xs_aload_n (n := 85) dX12_loop_84 rfl rfl ?_
      refine xs_iconst (n := 86) (v := (-1)) dX12_loop_85 rfl rfl ?_
      refine ys_puti (n := 89) dX12_loop_86 rfl fl_X12_65 rfl sh_150 (fun u17 => ?_)
      refine xs_iconst (n := 90) (v := (0)) dX12_loop_89 rfl rfl ?_
      refine xs_istore_n (n := 91) (lv' := [some (.ref 150), none, some (.int v3), some (.int (0))]) dX12_loop_90 rfl (Nat.le_of_ble_eq_true rfl) rfl ?_
      refine xs_reg ?_
      refine xs_fg (lv' := [some (.ref 150), none, some (.int v3), some (.int (0))]) (And.intro rfl (And.intro rfl (And.intro rfl trivial))) ?_
      refine el_X12_loop_91 m v3 _ (fun q21 => ?_) m (0) u17
      refine xs_iload_n (n := 110) dX12_loop_109 rfl rfl ?_
      exact xs_iret dX12_loop_110 rfl rfl
    · refine xs_iconst (n := 11) (v := (-1)) dX12_loop_10 rfl rfl ?_
      exact xs_iret dX12_loop_11 rfl rfl
def lp_X12_body_39 (m : Nat) (c1 : Int32) (c2 : Int32) : Nat → Int32 → xm_Y → Option (Int32 × xm_Y)
  | 0, _, _ => none
  | n + 1, l3, u0 =>
  if (4) ≤ l3 then (
  some (l3, u0)) else (
  ((if l3 = c2 then (
  some ((1))) else (
  some ((0))) : Option (Int32)).bind fun q7 =>
  xm_chk (xm_in (((((3) * c1) + c2) * (4)) + l3) 60) (xm_let (w_I u0 153 (Int32.toNatClampNeg (((((3) * c1) + c2) * (4)) + l3)) q7) fun u10 =>
  xm_let (α := Int32) (l3 + (1)) fun v11 =>
  lp_X12_body_39 m c1 c2 n v11 u10)))
def lp_X12_body_32 (m : Nat) (c1 : Int32) : Nat → Int32 → xm_Y → Option (Int32 × xm_Y)
  | 0, _, _ => none
  | n + 1, l2, u0 =>
  if (3) ≤ l2 then (
  some (l2, u0)) else (
  ((lp_X12_body_39 m c1 l2 m (0) u0).bind fun q12 =>
  xm_let (α := Int32) (l2 + (1)) fun v13 =>
  lp_X12_body_32 m c1 n v13 q12.2))
def fn_X12_body (m : Nat) (u0 : xm_Y) : Option (Int32 × xm_Y) :=
  if (u0.1 150 1) = (5) then (
  some ((-2), u0)) else (
  xm_let (α := Int32) ((u0.1 150 1)) fun v2 =>
  xm_chk (xm_in v2 5) (xm_let (w_I u0 151 (Int32.toNatClampNeg v2) (0)) fun u3 =>
  xm_chk (xm_in v2 5) (xm_let (w_I u3 163 (Int32.toNatClampNeg v2) (-1)) fun u4 =>
  ((lp_X12_body_32 m v2 m (0) u4).bind fun q14 =>
  xm_let (w_I q14.2 150 1 ((q14.2.1 150 1) + (1))) fun u15 =>
  ((fn_X12_openAll m u15).bind fun q16 =>
  some (v2, q16.2))))))
theorem el_X12_body_39 (m : Nat) (c1 : Int32) (c2 : Int32) (K : Int32 × xm_Y → Option (Int32 × xm_Y)) (kE : ∀ q : Int32 × xm_Y, xs_ (fun x : Int32 => some (.int x)) sg_0 mt_X12_body 74 [some (.ref 150), some (.int c1), some (.int c2), none] [] q.2 0 0 (K q)) : ∀ (n : Nat) (l3 : Int32) (u0 : xm_Y), xs_ (fun x : Int32 => some (.int x)) sg_0 mt_X12_body 39 [some (.ref 150), some (.int c1), some (.int c2), some (.int l3)] [] u0 0 0 ((lp_X12_body_39 m c1 c2 n l3 u0).bind K) := by
  intro n
  induction n with
  | zero =>
    intro l3 u0
    exact xs_none
  | succ n ih =>
    intro l3 u0
    rw [lp_X12_body_39]
    refine xs_iload_n (n := 40) dX12_body_39 rfl rfl ?_
    refine xs_iconst (n := 41) (v := (4)) dX12_body_40 rfl rfl ?_
    refine xs_icmp_ge (n := 44) (tgt := 74) dX12_body_41 rfl rfl (fun hc6 => ?_) (fun hc6 => ?_)
    · exact xs_gf (kE (l3, u0)) (And.intro rfl (And.intro rfl (And.intro rfl trivial)))
    · refine xs_aload_n (n := 45) dX12_body_44 rfl rfl ?_
      refine ys_getr (n := 48) dX12_body_45 rfl fl_X12_20 sh_150 rfl ?_
      refine xs_iconst (n := 49) (v := (3)) dX12_body_48 rfl rfl ?_
      refine xs_iload_n (n := 50) dX12_body_49 rfl rfl ?_
      refine xs_imul (n := 51) dX12_body_50 rfl ?_
      refine xs_iload_n (n := 52) dX12_body_51 rfl rfl ?_
      refine xs_iadd (n := 53) dX12_body_52 rfl ?_
      refine xs_iconst (n := 54) (v := (4)) dX12_body_53 rfl rfl ?_
      refine xs_imul (n := 55) dX12_body_54 rfl ?_
      refine xs_iload_n (n := 56) dX12_body_55 rfl rfl ?_
      refine xs_iadd (n := 57) dX12_body_56 rfl ?_
      refine xs_iload_n (n := 58) dX12_body_57 rfl rfl ?_
      refine xs_iload_n (n := 59) dX12_body_58 rfl rfl ?_
      refine xs_join 67 (fun q7 => [some (.ref 150), some (.int c1), some (.int c2), some (.int l3)]) (fun q7 => [.int q7, .int (((((3) * c1) + c2) * (4)) + l3), .ref 153]) (fun q7 => u0) (fun q7 => ?_) (fun kj8 => ?_)
      · refine ys_iastore (n := 68) dX12_body_67 rfl sh_153 (fun u10 => ?_)
        refine xs_iincl (n := 71) (dv := (1)) (fun v11 => [some (.ref 150), some (.int c1), some (.int c2), some (.int v11)]) dX12_body_68 rfl rfl rfl (Nat.le_of_ble_eq_true rfl) (fun _ => rfl) (fun v11 => ?_)
        refine xs_goto (n := 39) dX12_body_71 rfl ?_
        exact xs_gf (ih v11 u10) (And.intro rfl (And.intro rfl (And.intro rfl (And.intro rfl trivial))))
      · refine xs_icmp_ne (n := 62) (tgt := 66) dX12_body_59 rfl rfl (fun hc9 => ?_) (fun hc9 => ?_)
        · refine xs_iconst (n := 63) (v := (1)) dX12_body_62 rfl rfl ?_
          refine xs_goto (n := 67) dX12_body_63 rfl ?_
          exact xs_gf (kj8 ((1))) (And.intro rfl (And.intro rfl (And.intro rfl (And.intro rfl trivial))))
        · refine xs_iconst (n := 67) (v := (0)) dX12_body_66 rfl rfl ?_
          exact xs_gf (kj8 ((0))) (And.intro rfl (And.intro rfl (And.intro rfl (And.intro rfl trivial))))
theorem el_X12_body_32 (m : Nat) (c1 : Int32) (K : Int32 × xm_Y → Option (Int32 × xm_Y)) (kE : ∀ q : Int32 × xm_Y, xs_ (fun x : Int32 => some (.int x)) sg_0 mt_X12_body 80 [some (.ref 150), some (.int c1), none, none] [] q.2 0 0 (K q)) : ∀ (n : Nat) (l2 : Int32) (u0 : xm_Y), xs_ (fun x : Int32 => some (.int x)) sg_0 mt_X12_body 32 [some (.ref 150), some (.int c1), some (.int l2), none] [] u0 0 0 ((lp_X12_body_32 m c1 n l2 u0).bind K) := by
  intro n
  induction n with
  | zero =>
    intro l2 u0
    exact xs_none
  | succ n ih =>
    intro l2 u0
    rw [lp_X12_body_32]
    refine xs_iload_n (n := 33) dX12_body_32 rfl rfl ?_
    refine xs_iconst (n := 34) (v := (3)) dX12_body_33 rfl rfl ?_
    refine xs_icmp_ge (n := 37) (tgt := 80) dX12_body_34 rfl rfl (fun hc5 => ?_) (fun hc5 => ?_)
    · exact xs_gf (kE (l2, u0)) (And.intro rfl (And.intro rfl trivial))
    · refine xs_iconst (n := 38) (v := (0)) dX12_body_37 rfl rfl ?_
      refine xs_istore_n (n := 39) (lv' := [some (.ref 150), some (.int c1), some (.int l2), some (.int (0))]) dX12_body_38 rfl (Nat.le_of_ble_eq_true rfl) rfl ?_
      refine xs_reg ?_
      refine xs_fg (lv' := [some (.ref 150), some (.int c1), some (.int l2), some (.int (0))]) (And.intro rfl (And.intro rfl (And.intro rfl (And.intro rfl trivial)))) ?_
      refine el_X12_body_39 m c1 l2 _ (fun q12 => ?_) m (0) u0
      refine xs_iincl (n := 77) (dv := (1)) (fun v13 => [some (.ref 150), some (.int c1), some (.int v13), none]) dX12_body_74 rfl rfl rfl (Nat.le_of_ble_eq_true rfl) (fun _ => rfl) (fun v13 => ?_)
      refine xs_goto (n := 32) dX12_body_77 rfl ?_
      exact xs_gf (ih v13 q12.2) (And.intro rfl (And.intro rfl (And.intro rfl trivial)))
theorem en_X12_body (m : Nat) (u0 : xm_Y) : xs_ (fun x : Int32 => some (.int x)) sg_0 mt_X12_body 0 [some (.ref 150), none, none, none] [] u0 0 0 (fn_X12_body m u0) := by
  refine xs_top ?_
  rw [fn_X12_body]
  refine xs_aload_n (n := 1) dX12_body_0 rfl rfl ?_
  refine ys_geti (n := 4) dX12_body_1 rfl fl_X12_135 (Or.inl rfl) sh_150 ?_
  refine xs_iconst (n := 5) (v := (5)) dX12_body_4 rfl rfl ?_
  refine xs_icmp_ne (n := 8) (tgt := 11) dX12_body_5 rfl rfl (fun hc1 => ?_) (fun hc1 => ?_)
  · refine xs_bipush (n := 10) (v := (-2)) dX12_body_8 rfl rfl ?_
    exact xs_iret dX12_body_10 rfl rfl
  · refine xs_aload_n (n := 12) dX12_body_11 rfl rfl ?_
    refine ys_geti (n := 15) dX12_body_12 rfl fl_X12_135 (Or.inl rfl) sh_150 ?_
    refine xs_leti (fun v2 => ?_)
    refine xs_istore_n (n := 16) (lv' := [some (.ref 150), some (.int v2), none, none]) dX12_body_15 rfl (Nat.le_of_ble_eq_true rfl) rfl ?_
    refine xs_aload_n (n := 17) dX12_body_16 rfl rfl ?_
    refine ys_getr (n := 20) dX12_body_17 rfl fl_X12_13 sh_150 rfl ?_
    refine xs_iload_n (n := 21) dX12_body_20 rfl rfl ?_
    refine xs_iconst (n := 22) (v := (0)) dX12_body_21 rfl rfl ?_
    refine ys_iastore (n := 23) dX12_body_22 rfl sh_151 (fun u3 => ?_)
    refine xs_aload_n (n := 24) dX12_body_23 rfl rfl ?_
    refine ys_getr (n := 27) dX12_body_24 rfl fl_X12_52 sh_150 rfl ?_
    refine xs_iload_n (n := 28) dX12_body_27 rfl rfl ?_
    refine xs_iconst (n := 29) (v := (-1)) dX12_body_28 rfl rfl ?_
    refine ys_iastore (n := 30) dX12_body_29 rfl sh_163 (fun u4 => ?_)
    refine xs_iconst (n := 31) (v := (0)) dX12_body_30 rfl rfl ?_
    refine xs_istore_n (n := 32) (lv' := [some (.ref 150), some (.int v2), some (.int (0)), none]) dX12_body_31 rfl (Nat.le_of_ble_eq_true rfl) rfl ?_
    refine xs_reg ?_
    refine xs_fg (lv' := [some (.ref 150), some (.int v2), some (.int (0)), none]) (And.intro rfl (And.intro rfl (And.intro rfl trivial))) ?_
    refine el_X12_body_32 m v2 _ (fun q14 => ?_) m (0) u4
    refine xs_aload_n (n := 81) dX12_body_80 rfl rfl ?_
    refine xs_dup (n := 82) dX12_body_81 rfl rfl ?_
    refine ys_geti (n := 85) dX12_body_82 rfl fl_X12_135 (Or.inl rfl) sh_150 ?_
    refine xs_iconst (n := 86) (v := (1)) dX12_body_85 rfl rfl ?_
    refine xs_iadd (n := 87) dX12_body_86 rfl ?_
    refine ys_puti (n := 90) dX12_body_87 rfl fl_X12_135 rfl sh_150 (fun u15 => ?_)
    refine xs_aload_n (n := 91) dX12_body_90 rfl rfl ?_
    refine ys_callvv (n := 94) (N := mt_X12_openAll) dX12_body_91 rfl ok_X12_openAll tw_868 im_X12_openAll se_X12_openAll ⟨Nat.le_of_ble_eq_true rfl, Nat.le_of_ble_eq_true rfl⟩ [] [] rfl rfl (Nat.le_of_ble_eq_true rfl) rfl (Nat.le_of_ble_eq_true rfl) (en_X12_openAll m u15) sh_150 (by decide) rfl (fun q16 => ?_)
    refine xs_iload_n (n := 95) dX12_body_94 rfl rfl ?_
    exact xs_iret dX12_body_95 rfl rfl
