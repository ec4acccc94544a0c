def fn_X12_isFar (m : Nat) (x0 : Int64) (u0 : xm_Y) : Option (Int32 × xm_Y) :=
  ((if (1000000000000 : Int64) < x0 then (
  some ((1 : Int32))) else (
  if (-1000000000000 : Int64) ≤ x0 then (
  some ((0 : Int32))) else (
  some ((1 : Int32)))) : Option (Int32)).bind fun q1 =>
  xm_chk (q1 = 0 ∨ q1 = 1) (some (q1, u0)))
theorem en_X12_isFar (m : Nat) (x0 : Int64) (u0 : xm_Y) : xs_ (fun x : Int32 => some (.int x)) sg_0 mt_X12_isFar 0 [some (.long x0), none] [] u0 0 0 (fn_X12_isFar m x0 u0) := by
  refine xs_top ?_
  rw [fn_X12_isFar]
  refine xs_lload_n (n := 1) dX12_isFar_0 rfl rfl ?_
  refine xs_ldc2 (n := 4) (v := (1000000000000 : Int64)) dX12_isFar_1 rfl tw_1079 ?_
  refine xs_join 21 (fun q1 => [none, none]) (fun q1 => [.int q1]) (fun q1 => u0) (fun q1 => ?_) (fun kj2 => ?_)
  · exact xs_zret dX12_isFar_21 rfl rfl
  · refine xs_lif_gt (n := 8) (pc1 := 5) (tgt := 16) dX12_isFar_4 rfl dX12_isFar_5 rfl rfl (fun hc3 => ?_) (fun hc3 => ?_)
    · refine xs_iconst (n := 17) (v := (1 : Int32)) dX12_isFar_16 rfl rfl ?_
      refine xs_goto (n := 21) dX12_isFar_17 rfl ?_
      exact xs_gf (xs_end (kj2 ((1 : Int32)))) trivial
    · refine xs_lload_n (n := 9) dX12_isFar_8 rfl rfl ?_
      refine xs_ldc2 (n := 12) (v := (-1000000000000 : Int64)) dX12_isFar_9 rfl tw_1080 ?_
      refine xs_lif_ge (n := 16) (pc1 := 13) (tgt := 20) dX12_isFar_12 rfl dX12_isFar_13 rfl rfl (fun hc4 => ?_) (fun hc4 => ?_)
      · refine xs_iconst (n := 21) (v := (0 : Int32)) dX12_isFar_20 rfl rfl ?_
        exact xs_gf (xs_end (kj2 ((0 : Int32)))) trivial
      · refine xs_iconst (n := 17) (v := (1 : Int32)) dX12_isFar_16 rfl rfl ?_
        refine xs_goto (n := 21) dX12_isFar_17 rfl ?_
        exact xs_gf (xs_end (kj2 ((1 : Int32)))) trivial
def lp_X12_turnFrom_14 (m : Nat) (a1 : Nat) (c2 : Int32) : Nat → Int32 → xm_Y → Option ((Int32 × xm_Y) ⊕ (Int32 × xm_Y))
  | 0, _, _ => none
  | n + 1, l3, u0 =>
  if (3 : Int32) ≤ l3 then (
  some (.inr (l3, u0))) else (
  ((if (u0.1 150 0) ≤ l3 then (
  some ((0 : Int64), u0)) else (
  ((fn_X12_of m 153 60 ((((3 : Int32) * c2) + l3) * (4 : Int32)) a1 u0).bind fun q7 =>
  some (q7.1, q7.2))) : Option (Int64 × xm_Y)).bind fun q4 =>
  xm_chk (xm_in l3 3) (xm_let (w_J q4.2 168 (Int32.toNatClampNeg l3) q4.1) fun u8 =>
  xm_chk (xm_in l3 3) (
  ((fn_X12_isFar m (u8.2 168 (Int32.toNatClampNeg l3)) u8).bind fun q9 =>
  if q9.1 = 0 then (
  xm_let (α := Int32) (l3 + (1 : Int32)) fun v11 =>
  lp_X12_turnFrom_14 m a1 c2 n v11 q9.2) else (
  some (.inl ((-4 : Int32), q9.2))))))))
def lp_X12_turnFrom_75 (m : Nat) (a1 : Nat) : Nat → Int32 → xm_Y → Option (Int32 × xm_Y)
  | 0, _, _ => none
  | n + 1, l3, u0 =>
  if (3 : Int32) ≤ l3 then (
  some (l3, u0)) else (
  xm_chk (xm_in l3 3) (
  xm_chk (xm_in l3 3) (xm_let (w_J u0 a1 (Int32.toNatClampNeg l3) (u0.2 168 (Int32.toNatClampNeg l3))) fun u14 =>
  xm_let (α := Int32) (l3 + (1 : Int32)) fun v15 =>
  lp_X12_turnFrom_75 m a1 n v15 u14)))
def fn_X12_turnFrom (m : Nat) (p : Nat) (u0 : xm_Y) : Option (Int32 × xm_Y) :=
  ((fn_X12_turnAt m p u0).bind fun q1 =>
  if 0 ≤ q1.1 then (
  ((lp_X12_turnFrom_14 m p q1.1 m (0 : Int32) q1.2).bind (Sum.elim (fun r => some r) (fun q12 =>
  ((lp_X12_turnFrom_75 m p m (0 : Int32) q12.2).bind fun q16 =>
  some ((1 : Int32), q16.2)))))) else (
  some ((0 : Int32), q1.2)))
theorem el_X12_turnFrom_14 (m : Nat) (a1 : Nat) (c2 : Int32) (ha1 : xsh_ a1 14 3) (K : (Int32 × xm_Y) ⊕ (Int32 × xm_Y) → Option (Int32 × xm_Y)) (hK : ∀ r, K (.inl r) = some r) (kE : ∀ q : Int32 × xm_Y, xs_ (fun x : Int32 => some (.int x)) sg_0 mt_X12_turnFrom 73 [some (.ref 150), some (.ref a1), none, none] [] q.2 0 0 (K (.inr q))) : ∀ (n : Nat) (l3 : Int32) (u0 : xm_Y), xs_ (fun x : Int32 => some (.int x)) sg_0 mt_X12_turnFrom 14 [some (.ref 150), some (.ref a1), some (.int c2), some (.int l3)] [] u0 0 0 ((lp_X12_turnFrom_14 m a1 c2 n l3 u0).bind K) := by
  intro n
  induction n with
  | zero =>
    intro l3 u0
    exact xs_none
  | succ n ih =>
    intro l3 u0
    rw [lp_X12_turnFrom_14]
    refine xs_iload_n (n := 15) dX12_turnFrom_14 rfl rfl ?_
    refine xs_iconst (n := 16) (v := (3 : Int32)) dX12_turnFrom_15 rfl rfl ?_
    refine xs_icmp_ge (n := 19) (tgt := 73) dX12_turnFrom_16 rfl rfl (fun hc3 => ?_) (fun hc3 => ?_)
    · exact xs_gf (xs_end (kE (l3, u0))) (And.intro rfl (And.intro rfl trivial))
    · refine xs_aload_n (n := 20) dX12_turnFrom_19 rfl rfl ?_
      refine ys_getr (n := 23) dX12_turnFrom_20 rfl fl_X12_71 sh_150 rfl ?_
      refine xs_iload_n (n := 24) dX12_turnFrom_23 rfl rfl ?_
      refine xs_iload_n (n := 25) dX12_turnFrom_24 rfl rfl ?_
      refine xs_aload_n (n := 26) dX12_turnFrom_25 rfl rfl ?_
      refine ys_geti (n := 29) dX12_turnFrom_26 rfl fl_X12_7 (Or.inl rfl) sh_150 ?_
      refine xs_join 51 (fun q4 => [some (.ref 150), some (.ref a1), some (.int c2), some (.int l3)]) (fun q4 => [.long q4.1, .int l3, .ref 168]) (fun q4 => q4.2) (fun q4 => ?_) (fun kj5 => ?_)
      · refine ys_lastore (n := 52) dX12_turnFrom_51 rfl sh_168 (fun u8 => ?_)
        refine xs_aload_n (n := 53) dX12_turnFrom_52 rfl rfl ?_
        refine ys_getr (n := 56) dX12_turnFrom_53 rfl fl_X12_71 sh_150 rfl ?_
        refine xs_iload_n (n := 57) dX12_turnFrom_56 rfl rfl ?_
        refine ys_laload (n := 58) dX12_turnFrom_57 rfl sh_168 ?_
        refine ys_callsi (n := 61) (N := mt_X12_isFar) dX12_turnFrom_58 rfl ok_X12_isFar tw_1076 st_X12_isFar ⟨Nat.le_of_ble_eq_true rfl, Nat.le_of_ble_eq_true rfl⟩ [.long (u8.2 168 (Int32.toNatClampNeg l3))] [] rfl rfl (Nat.le_of_ble_eq_true rfl) rfl (Nat.le_of_ble_eq_true rfl) (en_X12_isFar m (u8.2 168 (Int32.toNatClampNeg l3)) u8) (fun q9 => ?_)
        refine xs_if_eq (n := 64) (tgt := 67) dX12_turnFrom_61 rfl rfl (fun hc10 => ?_) (fun hc10 => ?_)
        · refine xs_iincl (n := 70) (dv := (1 : Int32)) (fun v11 => [some (.ref 150), some (.ref a1), some (.int c2), some (.int v11)]) dX12_turnFrom_67 rfl rfl rfl (Nat.le_of_ble_eq_true rfl) (fun _ => rfl) (fun v11 => ?_)
          refine xs_goto (n := 14) dX12_turnFrom_70 rfl ?_
          exact xs_gf (ih v11 q9.2) (And.intro rfl (And.intro rfl (And.intro rfl (And.intro rfl trivial))))
        · refine xs_bipush (n := 66) (v := (-4 : Int32)) dX12_turnFrom_64 rfl rfl ?_
          exact xs_iret dX12_turnFrom_66 rfl (hK _)
      · refine xs_icmp_ge (n := 32) (tgt := 50) dX12_turnFrom_29 rfl rfl (fun hc6 => ?_) (fun hc6 => ?_)
        · refine xs_lconst (n := 51) (v := (0 : Int64)) dX12_turnFrom_50 rfl rfl ?_
          exact xs_gf (xs_end (kj5 ((0 : Int64), u0))) (And.intro rfl (And.intro rfl (And.intro rfl (And.intro rfl trivial))))
        · refine xs_aload_n (n := 33) dX12_turnFrom_32 rfl rfl ?_
          refine ys_getr (n := 36) dX12_turnFrom_33 rfl fl_X12_20 sh_150 rfl ?_
          refine xs_iconst (n := 37) (v := (3 : Int32)) dX12_turnFrom_36 rfl rfl ?_
          refine xs_iload_n (n := 38) dX12_turnFrom_37 rfl rfl ?_
          refine xs_imul (n := 39) dX12_turnFrom_38 rfl ?_
          refine xs_iload_n (n := 40) dX12_turnFrom_39 rfl rfl ?_
          refine xs_iadd (n := 41) dX12_turnFrom_40 rfl ?_
          refine xs_iconst (n := 42) (v := (4 : Int32)) dX12_turnFrom_41 rfl rfl ?_
          refine xs_imul (n := 43) dX12_turnFrom_42 rfl ?_
          refine xs_aload_n (n := 44) dX12_turnFrom_43 rfl rfl ?_
          refine ys_callsl (n := 47) (N := mt_X12_of) dX12_turnFrom_44 rfl ok_X12_of tw_1073 st_X12_of ⟨Nat.le_of_ble_eq_true rfl, Nat.le_of_ble_eq_true rfl⟩ [.ref 153, .int ((((3 : Int32) * c2) + l3) * (4 : Int32)), .ref a1] [.int l3, .ref 168] rfl rfl (Nat.le_of_ble_eq_true rfl) rfl (Nat.le_of_ble_eq_true rfl) (en_X12_of m 153 60 ((((3 : Int32) * c2) + l3) * (4 : Int32)) a1 sh_153 ha1 u0) (fun q7 => ?_)
          refine xs_goto (n := 51) dX12_turnFrom_47 rfl ?_
          exact xs_gf (xs_end (kj5 (q7.1, q7.2))) (And.intro rfl (And.intro rfl (And.intro rfl (And.intro rfl trivial))))
theorem el_X12_turnFrom_75 (m : Nat) (a1 : Nat) (ha1 : xsh_ a1 14 3) (K : Int32 × xm_Y → Option (Int32 × xm_Y)) (kE : ∀ q : Int32 × xm_Y, xs_ (fun x : Int32 => some (.int x)) sg_0 mt_X12_turnFrom 95 [none, none, none, none] [] q.2 0 0 (K q)) : ∀ (n : Nat) (l3 : Int32) (u0 : xm_Y), xs_ (fun x : Int32 => some (.int x)) sg_0 mt_X12_turnFrom 75 [some (.ref 150), some (.ref a1), none, some (.int l3)] [] u0 0 0 ((lp_X12_turnFrom_75 m a1 n l3 u0).bind K) := by
  intro n
  induction n with
  | zero =>
    intro l3 u0
    exact xs_none
  | succ n ih =>
    intro l3 u0
    rw [lp_X12_turnFrom_75]
    refine xs_iload_n (n := 76) dX12_turnFrom_75 rfl rfl ?_
    refine xs_iconst (n := 77) (v := (3 : Int32)) dX12_turnFrom_76 rfl rfl ?_
    refine xs_icmp_ge (n := 80) (tgt := 95) dX12_turnFrom_77 rfl rfl (fun hc13 => ?_) (fun hc13 => ?_)
    · exact xs_gf (xs_end (kE (l3, u0))) trivial
    · refine xs_aload_n (n := 81) dX12_turnFrom_80 rfl rfl ?_
      refine xs_iload_n (n := 82) dX12_turnFrom_81 rfl rfl ?_
      refine xs_aload_n (n := 83) dX12_turnFrom_82 rfl rfl ?_
      refine ys_getr (n := 86) dX12_turnFrom_83 rfl fl_X12_71 sh_150 rfl ?_
      refine xs_iload_n (n := 87) dX12_turnFrom_86 rfl rfl ?_
      refine ys_laload (n := 88) dX12_turnFrom_87 rfl sh_168 ?_
      refine ys_lastore (n := 89) dX12_turnFrom_88 rfl ha1 (fun u14 => ?_)
      refine xs_iincl (n := 92) (dv := (1 : Int32)) (fun v15 => [some (.ref 150), some (.ref a1), none, some (.int v15)]) dX12_turnFrom_89 rfl rfl rfl (Nat.le_of_ble_eq_true rfl) (fun _ => rfl) (fun v15 => ?_)
      refine xs_goto (n := 75) dX12_turnFrom_92 rfl ?_
      exact xs_gf (ih v15 u14) (And.intro rfl (And.intro rfl (And.intro rfl trivial)))
theorem en_X12_turnFrom (m : Nat) (p : Nat) (hp_ : xsh_ p 14 3) (u0 : xm_Y) : xs_ (fun x : Int32 => some (.int x)) sg_0 mt_X12_turnFrom 0 [some (.ref 150), some (.ref p), none, none] [] u0 0 0 (fn_X12_turnFrom m p u0) := by
  refine xs_top ?_
  rw [fn_X12_turnFrom]
  refine xs_aload_n (n := 1) dX12_turnFrom_0 rfl rfl ?_
  refine xs_aload_n (n := 2) dX12_turnFrom_1 rfl rfl ?_
  refine ys_callvi (n := 5) (N := mt_X12_turnAt) dX12_turnFrom_2 rfl ok_X12_turnAt tw_1069 im_X12_turnAt se_X12_turnAt ⟨Nat.le_of_ble_eq_true rfl, Nat.le_of_ble_eq_true rfl⟩ [.ref p] [] rfl rfl (Nat.le_of_ble_eq_true rfl) rfl (Nat.le_of_ble_eq_true rfl) (en_X12_turnAt m p hp_ u0) sh_150 (by decide) rfl (fun q1 => ?_)
  refine xs_istore_n (n := 6) (lv' := [some (.ref 150), some (.ref p), some (.int q1.1), none]) dX12_turnFrom_5 rfl (Nat.le_of_ble_eq_true rfl) rfl ?_
  refine xs_iload_n (n := 7) dX12_turnFrom_6 rfl rfl ?_
  refine xs_if_ge (n := 10) (tgt := 12) dX12_turnFrom_7 rfl rfl (fun hc2 => ?_) (fun hc2 => ?_)
  · refine xs_iconst (n := 13) (v := (0 : Int32)) dX12_turnFrom_12 rfl rfl ?_
    refine xs_istore_n (n := 14) (lv' := [some (.ref 150), some (.ref p), some (.int q1.1), some (.int (0 : Int32))]) dX12_turnFrom_13 rfl (Nat.le_of_ble_eq_true rfl) rfl ?_
    refine xs_reg ?_
    refine xs_fg (lv' := [some (.ref 150), some (.ref p), some (.int q1.1), some (.int (0 : Int32))]) (And.intro rfl (And.intro rfl (And.intro rfl (And.intro rfl trivial)))) ?_
    refine el_X12_turnFrom_14 m p q1.1 hp_ _ (fun _ => rfl) (fun q12 => ?_) m (0 : Int32) q1.2
    refine xs_inr ?_
    refine xs_iconst (n := 74) (v := (0 : Int32)) dX12_turnFrom_73 rfl rfl ?_
    refine xs_istore_n (n := 75) (lv' := [some (.ref 150), some (.ref p), none, some (.int (0 : Int32))]) dX12_turnFrom_74 rfl (Nat.le_of_ble_eq_true rfl) rfl ?_
    refine xs_reg ?_
    refine xs_fg (lv' := [some (.ref 150), some (.ref p), none, some (.int (0 : Int32))]) (And.intro rfl (And.intro rfl (And.intro rfl trivial))) ?_
    refine el_X12_turnFrom_75 m p hp_ _ (fun q16 => ?_) m (0 : Int32) q12.2
    refine xs_iconst (n := 96) (v := (1 : Int32)) dX12_turnFrom_95 rfl rfl ?_
    exact xs_iret dX12_turnFrom_96 rfl rfl
  · refine xs_iconst (n := 11) (v := (0 : Int32)) dX12_turnFrom_10 rfl rfl ?_
    exact xs_iret dX12_turnFrom_11 rfl rfl
def lp_X12_run_16 (m : Nat) (c1 : Int32) : Nat → Int32 → xm_Y → Option ((Int32 × xm_Y) ⊕ (Int32 × xm_Y))
  | 0, _, _ => none
  | n + 1, l2, u0 =>
  if c1 ≤ l2 then (
  some (.inr (l2, u0))) else (
  ((fn_X12_turnFrom m 154 u0).bind fun q4 =>
  if q4.1 = (1 : Int32) then (
  xm_let (α := Int32) (l2 + (1 : Int32)) fun v6 =>
  lp_X12_run_16 m c1 n v6 q4.2) else (
  if q4.1 = 0 then (
  some (.inl (l2, q4.2))) else (
  some (.inl ((-4 : Int32), q4.2))))))
def fn_X12_run (m : Nat) (x0 : Int32) (u0 : xm_Y) : Option (Int32 × xm_Y) :=
  if x0 < (1 : Int32) then (
  some ((-1 : Int32), u0)) else (
  if x0 ≤ (10000 : Int32) then (
  ((lp_X12_run_16 m x0 m (0 : Int32) u0).bind (Sum.elim (fun r => some r) (fun q8 =>
  some (x0, q8.2))))) else (
  some ((-1 : Int32), u0)))
theorem el_X12_run_16 (m : Nat) (c1 : Int32) (K : (Int32 × xm_Y) ⊕ (Int32 × xm_Y) → Option (Int32 × xm_Y)) (hK : ∀ r, K (.inl r) = some r) (kE : ∀ q : Int32 × xm_Y, xs_ (fun x : Int32 => some (.int x)) sg_0 mt_X12_run 52 [none, some (.int c1), none, none] [] q.2 0 0 (K (.inr q))) : ∀ (n : Nat) (l2 : Int32) (u0 : xm_Y), xs_ (fun x : Int32 => some (.int x)) sg_0 mt_X12_run 16 [some (.ref 150), some (.int c1), some (.int l2), none] [] u0 0 0 ((lp_X12_run_16 m c1 n l2 u0).bind K) := by
  intro n
  induction n with
  | zero =>
    intro l2 u0
    exact xs_none
  | succ n ih =>
    intro l2 u0
    rw [lp_X12_run_16]
    refine xs_iload_n (n := 17) dX12_run_16 rfl rfl ?_
    refine xs_iload_n (n := 18) dX12_run_17 rfl rfl ?_
    refine xs_icmp_ge (n := 21) (tgt := 52) dX12_run_18 rfl rfl (fun hc3 => ?_) (fun hc3 => ?_)
    · exact xs_gf (xs_end (kE (l2, u0))) (And.intro rfl trivial)
    · refine xs_aload_n (n := 22) dX12_run_21 rfl rfl ?_
      refine xs_aload_n (n := 23) dX12_run_22 rfl rfl ?_
      refine ys_getr (n := 26) dX12_run_23 rfl fl_X12_23 sh_150 rfl ?_
      refine ys_callvi (n := 29) (N := mt_X12_turnFrom) dX12_run_26 rfl ok_X12_turnFrom tw_1065 im_X12_turnFrom se_X12_turnFrom ⟨Nat.le_of_ble_eq_true rfl, Nat.le_of_ble_eq_true rfl⟩ [.ref 154] [] rfl rfl (Nat.le_of_ble_eq_true rfl) rfl (Nat.le_of_ble_eq_true rfl) (en_X12_turnFrom m 154 sh_154 u0) sh_150 (by decide) rfl (fun q4 => ?_)
      refine xs_istore_n (n := 30) (lv' := [some (.ref 150), some (.int c1), some (.int l2), some (.int q4.1)]) dX12_run_29 rfl (Nat.le_of_ble_eq_true rfl) rfl ?_
      refine xs_iload_n (n := 31) dX12_run_30 rfl rfl ?_
      refine xs_iconst (n := 32) (v := (1 : Int32)) dX12_run_31 rfl rfl ?_
      refine xs_icmp_eq (n := 35) (tgt := 46) dX12_run_32 rfl rfl (fun hc5 => ?_) (fun hc5 => ?_)
      · refine xs_iincl (n := 49) (dv := (1 : Int32)) (fun v6 => [some (.ref 150), some (.int c1), some (.int v6), some (.int q4.1)]) dX12_run_46 rfl rfl rfl (Nat.le_of_ble_eq_true rfl) (fun _ => rfl) (fun v6 => ?_)
        refine xs_goto (n := 16) dX12_run_49 rfl ?_
        exact xs_gf (ih v6 q4.2) (And.intro rfl (And.intro rfl (And.intro rfl trivial)))
      · refine xs_iload_n (n := 36) dX12_run_35 rfl rfl ?_
        refine xs_if_ne (n := 39) (tgt := 43) dX12_run_36 rfl rfl (fun hc7 => ?_) (fun hc7 => ?_)
        · refine xs_iload_n (n := 40) dX12_run_39 rfl rfl ?_
          refine xs_goto (n := 45) dX12_run_40 rfl ?_
          exact xs_iret dX12_run_45 rfl (hK _)
        · refine xs_bipush (n := 45) (v := (-4 : Int32)) dX12_run_43 rfl rfl ?_
          exact xs_iret dX12_run_45 rfl (hK _)
theorem en_X12_run (m : Nat) (x0 : Int32) (u0 : xm_Y) : xs_ (fun x : Int32 => some (.int x)) sg_0 mt_X12_run 0 [some (.ref 150), some (.int x0), none, none] [] u0 0 0 (fn_X12_run m x0 u0) := by
  refine xs_top ?_
  rw [fn_X12_run]
  refine xs_iload_n (n := 1) dX12_run_0 rfl rfl ?_
  refine xs_iconst (n := 2) (v := (1 : Int32)) dX12_run_1 rfl rfl ?_
  refine xs_icmp_lt (n := 5) (tgt := 12) dX12_run_2 rfl rfl (fun hc1 => ?_) (fun hc1 => ?_)
  · refine xs_iconst (n := 13) (v := (-1 : Int32)) dX12_run_12 rfl rfl ?_
    exact xs_iret dX12_run_13 rfl rfl
  · refine xs_iload_n (n := 6) dX12_run_5 rfl rfl ?_
    refine xs_sipush (n := 9) (v := (10000 : Int32)) dX12_run_6 rfl rfl ?_
    refine xs_icmp_le (n := 12) (tgt := 14) dX12_run_9 rfl rfl (fun hc2 => ?_) (fun hc2 => ?_)
    · refine xs_iconst (n := 15) (v := (0 : Int32)) dX12_run_14 rfl rfl ?_
      refine xs_istore_n (n := 16) (lv' := [some (.ref 150), some (.int x0), some (.int (0 : Int32)), none]) dX12_run_15 rfl (Nat.le_of_ble_eq_true rfl) rfl ?_
      refine xs_reg ?_
      refine xs_fg (lv' := [some (.ref 150), some (.int x0), some (.int (0 : Int32)), none]) (And.intro rfl (And.intro rfl (And.intro rfl trivial))) ?_
      refine el_X12_run_16 m x0 _ (fun _ => rfl) (fun q8 => ?_) m (0 : Int32) u0
      refine xs_inr ?_
      refine xs_iload_n (n := 53) dX12_run_52 rfl rfl ?_
      exact xs_iret dX12_run_53 rfl rfl
    · refine xs_iconst (n := 13) (v := (-1 : Int32)) dX12_run_12 rfl rfl ?_
      exact xs_iret dX12_run_13 rfl rfl
def fn_X12_turn (m : Nat) (u0 : xm_Y) : Option (Int32 × xm_Y) :=
  ((fn_X12_turnAt m 154 u0).bind fun q1 =>
  some (q1.1, q1.2))
theorem en_X12_turn (m : Nat) (u0 : xm_Y) : xs_ (fun x : Int32 => some (.int x)) sg_0 mt_X12_turn 0 [some (.ref 150)] [] u0 0 0 (fn_X12_turn m u0) := by
  refine xs_top ?_
  rw [fn_X12_turn]
  refine xs_aload_n (n := 1) dX12_turn_0 rfl rfl ?_
  refine xs_aload_n (n := 2) dX12_turn_1 rfl rfl ?_
  refine ys_getr (n := 5) dX12_turn_2 rfl fl_X12_23 sh_150 rfl ?_
  refine ys_callvi (n := 8) (N := mt_X12_turnAt) dX12_turn_5 rfl ok_X12_turnAt tw_1069 im_X12_turnAt se_X12_turnAt ⟨Nat.le_of_ble_eq_true rfl, Nat.le_of_ble_eq_true rfl⟩ [.ref 154] [] rfl rfl (Nat.le_of_ble_eq_true rfl) rfl (Nat.le_of_ble_eq_true rfl) (en_X12_turnAt m 154 sh_154 u0) sh_150 (by decide) rfl (fun q1 => ?_)
  exact xs_iret dX12_turn_8 rfl rfl
def lp_X12_keep_33 (m : Nat) (u0 : xm_Y) : Nat → Int32 → Option ((Int32 × xm_Y) ⊕ (Int32))
  | 0, _ => none
  | n + 1, l5 =>
  xm_chk (xm_in l5 32768) (
  if (u0.1 166 (Int32.toNatClampNeg l5)) ≤ 0 then (
  some (.inr (l5))) else (
  xm_chk (xm_in l5 32768) (
  xm_let (α := Int32) (((3 : Int32) * ((u0.1 166 (Int32.toNatClampNeg l5)) - (1 : Int32)))) fun v4 =>
  xm_chk (xm_in v4 30003) (
  xm_chk (xm_in (0 : Int32) 3) (
  if (u0.2 165 (Int32.toNatClampNeg v4)) = (u0.2 167 (Int32.toNatClampNeg (0 : Int32))) then (
  xm_chk (xm_in (v4 + (1 : Int32)) 30003) (
  xm_chk (xm_in (1 : Int32) 3) (
  if (u0.2 165 (Int32.toNatClampNeg (v4 + (1 : Int32)))) = (u0.2 167 (Int32.toNatClampNeg (1 : Int32))) then (
  xm_chk (xm_in (v4 + (2 : Int32)) 30003) (
  xm_chk (xm_in (2 : Int32) 3) (
  if (u0.2 165 (Int32.toNatClampNeg (v4 + (2 : Int32)))) = (u0.2 167 (Int32.toNatClampNeg (2 : Int32))) then (
  xm_chk (xm_in l5 32768) (
  some (.inl (((u0.1 166 (Int32.toNatClampNeg l5)) - (1 : Int32)), u0)))) else (
  xm_let (α := Int32) (((l5 + (1 : Int32)) &&& (32767 : Int32))) fun v8 =>
  lp_X12_keep_33 m u0 n v8)))) else (
  xm_let (α := Int32) (((l5 + (1 : Int32)) &&& (32767 : Int32))) fun v9 =>
  lp_X12_keep_33 m u0 n v9)))) else (
  xm_let (α := Int32) (((l5 + (1 : Int32)) &&& (32767 : Int32))) fun v10 =>
  lp_X12_keep_33 m u0 n v10))))))
def lp_X12_keep_138 (m : Nat) (c2 : Int32) : Nat → Int32 → xm_Y → Option (Int32 × xm_Y)
  | 0, _, _ => none
  | n + 1, l6, u0 =>
  if (3 : Int32) ≤ l6 then (
  some (l6, u0)) else (
  xm_chk (xm_in l6 3) (
  xm_chk (xm_in (((3 : Int32) * c2) + l6) 30003) (xm_let (w_J u0 165 (Int32.toNatClampNeg (((3 : Int32) * c2) + l6)) (u0.2 167 (Int32.toNatClampNeg l6))) fun u14 =>
  xm_let (α := Int32) (l6 + (1 : Int32)) fun v15 =>
  lp_X12_keep_138 m c2 n v15 u14)))
def fn_X12_keep (m : Nat) (x0 : Int32) (u0 : xm_Y) : Option (Int32 × xm_Y) :=
  xm_chk (xm_in (0 : Int32) 3) (
  xm_chk (xm_in (1 : Int32) 3) (
  xm_chk (xm_in (2 : Int32) 3) (
  xm_let (α := Int64) ((((((u0.2 167 (Int32.toNatClampNeg (0 : Int32))) * (31 : Int64)) + (u0.2 167 (Int32.toNatClampNeg (1 : Int32)))) * (1000003 : Int64)) + (u0.2 167 (Int32.toNatClampNeg (2 : Int32))))) fun v1 =>
  xm_let (α := Int32) ((Int64.toInt32 ((v1 ^^^ ((Int64.toUInt64 v1 >>> (Int64.toUInt64 (Int32.toInt64 (29 : Int32)) &&& Int64.toUInt64 63)).toInt64)) &&& (32767 : Int64)))) fun v2 =>
  ((lp_X12_keep_33 m u0 m v2).bind (Sum.elim (fun r => some r) (fun q11 =>
  xm_chk (xm_in q11 32768) (xm_let (w_I u0 166 (Int32.toNatClampNeg q11) (x0 + (1 : Int32))) fun u12 =>
  ((lp_X12_keep_138 m x0 m (0 : Int32) u12).bind fun q16 =>
  some ((-1 : Int32), q16.2)))))))))
theorem el_X12_keep_33 (m : Nat) (c2 : Int32) (u0 : xm_Y) (K : (Int32 × xm_Y) ⊕ (Int32) → Option (Int32 × xm_Y)) (hK : ∀ r, K (.inl r) = some r) (kE : ∀ q : Int32, xs_ (fun x : Int32 => some (.int x)) sg_0 mt_X12_keep 125 [some (.ref 150), some (.ref 167), some (.int c2), none, none, some (.int q), none] [] u0 0 0 (K (.inr q))) : ∀ (n : Nat) (l5 : Int32), xs_ (fun x : Int32 => some (.int x)) sg_0 mt_X12_keep 33 [some (.ref 150), some (.ref 167), some (.int c2), none, none, some (.int l5), none] [] u0 0 0 ((lp_X12_keep_33 m u0 n l5).bind K) := by
  intro n
  induction n with
  | zero =>
    intro l5
    exact xs_none
  | succ n ih =>
    intro l5
    rw [lp_X12_keep_33]
    refine xs_aload_n (n := 34) dX12_keep_33 rfl rfl ?_
    refine ys_getr (n := 37) dX12_keep_34 rfl fl_X12_62 sh_150 rfl ?_
    refine xs_iload (n := 39) dX12_keep_37 rfl rfl ?_
    refine ys_iaload (n := 40) dX12_keep_39 rfl sh_166 ?_
    refine xs_if_le (n := 43) (tgt := 125) dX12_keep_40 rfl rfl (fun hc3 => ?_) (fun hc3 => ?_)
    · exact xs_gf (xs_end (kE (l5))) (And.intro rfl (And.intro rfl (And.intro rfl (And.intro rfl trivial))))
    · refine xs_iconst (n := 44) (v := (3 : Int32)) dX12_keep_43 rfl rfl ?_
      refine xs_aload_n (n := 45) dX12_keep_44 rfl rfl ?_
      refine ys_getr (n := 48) dX12_keep_45 rfl fl_X12_62 sh_150 rfl ?_
      refine xs_iload (n := 50) dX12_keep_48 rfl rfl ?_
      refine ys_iaload (n := 51) dX12_keep_50 rfl sh_166 ?_
      refine xs_iconst (n := 52) (v := (1 : Int32)) dX12_keep_51 rfl rfl ?_
      refine xs_isub (n := 53) dX12_keep_52 rfl ?_
      refine xs_imul (n := 54) dX12_keep_53 rfl ?_
      refine xs_leti (fun v4 => ?_)
      refine xs_istore (n := 56) (lv' := [some (.ref 150), some (.ref 167), some (.int c2), none, none, some (.int l5), some (.int v4)]) dX12_keep_54 rfl (Nat.le_of_ble_eq_true rfl) rfl ?_
      refine xs_aload_n (n := 57) dX12_keep_56 rfl rfl ?_
      refine ys_getr (n := 60) dX12_keep_57 rfl fl_X12_58 sh_150 rfl ?_
      refine xs_iload (n := 62) dX12_keep_60 rfl rfl ?_
      refine ys_laload (n := 63) dX12_keep_62 rfl sh_165 ?_
      refine xs_aload_n (n := 64) dX12_keep_63 rfl rfl ?_
      refine xs_iconst (n := 65) (v := (0 : Int32)) dX12_keep_64 rfl rfl ?_
      refine ys_laload (n := 66) dX12_keep_65 rfl sh_167 ?_
      refine xs_lif_ne (n := 70) (pc1 := 67) (tgt := 112) dX12_keep_66 rfl dX12_keep_67 rfl rfl (fun hc5 => ?_) (fun hc5 => ?_)
      · refine xs_aload_n (n := 71) dX12_keep_70 rfl rfl ?_
        refine ys_getr (n := 74) dX12_keep_71 rfl fl_X12_58 sh_150 rfl ?_
        refine xs_iload (n := 76) dX12_keep_74 rfl rfl ?_
        refine xs_iconst (n := 77) (v := (1 : Int32)) dX12_keep_76 rfl rfl ?_
        refine xs_iadd (n := 78) dX12_keep_77 rfl ?_
        refine ys_laload (n := 79) dX12_keep_78 rfl sh_165 ?_
        refine xs_aload_n (n := 80) dX12_keep_79 rfl rfl ?_
        refine xs_iconst (n := 81) (v := (1 : Int32)) dX12_keep_80 rfl rfl ?_
        refine ys_laload (n := 82) dX12_keep_81 rfl sh_167 ?_
        refine xs_lif_ne (n := 86) (pc1 := 83) (tgt := 112) dX12_keep_82 rfl dX12_keep_83 rfl rfl (fun hc6 => ?_) (fun hc6 => ?_)
        · refine xs_aload_n (n := 87) dX12_keep_86 rfl rfl ?_
          refine ys_getr (n := 90) dX12_keep_87 rfl fl_X12_58 sh_150 rfl ?_
          refine xs_iload (n := 92) dX12_keep_90 rfl rfl ?_
          refine xs_iconst (n := 93) (v := (2 : Int32)) dX12_keep_92 rfl rfl ?_
          refine xs_iadd (n := 94) dX12_keep_93 rfl ?_
          refine ys_laload (n := 95) dX12_keep_94 rfl sh_165 ?_
          refine xs_aload_n (n := 96) dX12_keep_95 rfl rfl ?_
          refine xs_iconst (n := 97) (v := (2 : Int32)) dX12_keep_96 rfl rfl ?_
          refine ys_laload (n := 98) dX12_keep_97 rfl sh_167 ?_
          refine xs_lif_ne (n := 102) (pc1 := 99) (tgt := 112) dX12_keep_98 rfl dX12_keep_99 rfl rfl (fun hc7 => ?_) (fun hc7 => ?_)
          · refine xs_aload_n (n := 103) dX12_keep_102 rfl rfl ?_
            refine ys_getr (n := 106) dX12_keep_103 rfl fl_X12_62 sh_150 rfl ?_
            refine xs_iload (n := 108) dX12_keep_106 rfl rfl ?_
            refine ys_iaload (n := 109) dX12_keep_108 rfl sh_166 ?_
            refine xs_iconst (n := 110) (v := (1 : Int32)) dX12_keep_109 rfl rfl ?_
            refine xs_isub (n := 111) dX12_keep_110 rfl ?_
            exact xs_iret dX12_keep_111 rfl (hK _)
          · refine xs_iload (n := 114) dX12_keep_112 rfl rfl ?_
            refine xs_iconst (n := 115) (v := (1 : Int32)) dX12_keep_114 rfl rfl ?_
            refine xs_iadd (n := 116) dX12_keep_115 rfl ?_
            refine xs_sipush (n := 119) (v := (32767 : Int32)) dX12_keep_116 rfl rfl ?_
            refine xs_iand (n := 120) dX12_keep_119 rfl ?_
            refine xs_leti (fun v8 => ?_)
            refine xs_istore (n := 122) (lv' := [some (.ref 150), some (.ref 167), some (.int c2), none, none, some (.int v8), some (.int v4)]) dX12_keep_120 rfl (Nat.le_of_ble_eq_true rfl) rfl ?_
            refine xs_goto (n := 33) dX12_keep_122 rfl ?_
            exact xs_gf (ih v8) (And.intro rfl (And.intro rfl (And.intro rfl (And.intro rfl trivial))))
        · refine xs_iload (n := 114) dX12_keep_112 rfl rfl ?_
          refine xs_iconst (n := 115) (v := (1 : Int32)) dX12_keep_114 rfl rfl ?_
          refine xs_iadd (n := 116) dX12_keep_115 rfl ?_
          refine xs_sipush (n := 119) (v := (32767 : Int32)) dX12_keep_116 rfl rfl ?_
          refine xs_iand (n := 120) dX12_keep_119 rfl ?_
          refine xs_leti (fun v9 => ?_)
          refine xs_istore (n := 122) (lv' := [some (.ref 150), some (.ref 167), some (.int c2), none, none, some (.int v9), some (.int v4)]) dX12_keep_120 rfl (Nat.le_of_ble_eq_true rfl) rfl ?_
          refine xs_goto (n := 33) dX12_keep_122 rfl ?_
          exact xs_gf (ih v9) (And.intro rfl (And.intro rfl (And.intro rfl (And.intro rfl trivial))))
      · refine xs_iload (n := 114) dX12_keep_112 rfl rfl ?_
        refine xs_iconst (n := 115) (v := (1 : Int32)) dX12_keep_114 rfl rfl ?_
        refine xs_iadd (n := 116) dX12_keep_115 rfl ?_
        refine xs_sipush (n := 119) (v := (32767 : Int32)) dX12_keep_116 rfl rfl ?_
        refine xs_iand (n := 120) dX12_keep_119 rfl ?_
        refine xs_leti (fun v10 => ?_)
        refine xs_istore (n := 122) (lv' := [some (.ref 150), some (.ref 167), some (.int c2), none, none, some (.int v10), some (.int v4)]) dX12_keep_120 rfl (Nat.le_of_ble_eq_true rfl) rfl ?_
        refine xs_goto (n := 33) dX12_keep_122 rfl ?_
        exact xs_gf (ih v10) (And.intro rfl (And.intro rfl (And.intro rfl (And.intro rfl trivial))))
theorem el_X12_keep_138 (m : Nat) (c2 : Int32) (K : Int32 × xm_Y → Option (Int32 × xm_Y)) (kE : ∀ q : Int32 × xm_Y, xs_ (fun x : Int32 => some (.int x)) sg_0 mt_X12_keep 165 [none, none, none, none, none, none, none] [] q.2 0 0 (K q)) : ∀ (n : Nat) (l6 : Int32) (u0 : xm_Y), xs_ (fun x : Int32 => some (.int x)) sg_0 mt_X12_keep 138 [some (.ref 150), some (.ref 167), some (.int c2), none, none, none, some (.int l6)] [] u0 0 0 ((lp_X12_keep_138 m c2 n l6 u0).bind K) := by
  intro n
  induction n with
  | zero =>
    intro l6 u0
    exact xs_none
  | succ n ih =>
    intro l6 u0
    rw [lp_X12_keep_138]
    refine xs_iload (n := 140) dX12_keep_138 rfl rfl ?_
    refine xs_iconst (n := 141) (v := (3 : Int32)) dX12_keep_140 rfl rfl ?_
    refine xs_icmp_ge (n := 144) (tgt := 165) dX12_keep_141 rfl rfl (fun hc13 => ?_) (fun hc13 => ?_)
    · exact xs_gf (xs_end (kE (l6, u0))) trivial
    · refine xs_aload_n (n := 145) dX12_keep_144 rfl rfl ?_
      refine ys_getr (n := 148) dX12_keep_145 rfl fl_X12_58 sh_150 rfl ?_
      refine xs_iconst (n := 149) (v := (3 : Int32)) dX12_keep_148 rfl rfl ?_
      refine xs_iload_n (n := 150) dX12_keep_149 rfl rfl ?_
      refine xs_imul (n := 151) dX12_keep_150 rfl ?_
      refine xs_iload (n := 153) dX12_keep_151 rfl rfl ?_
      refine xs_iadd (n := 154) dX12_keep_153 rfl ?_
      refine xs_aload_n (n := 155) dX12_keep_154 rfl rfl ?_
      refine xs_iload (n := 157) dX12_keep_155 rfl rfl ?_
      refine ys_laload (n := 158) dX12_keep_157 rfl sh_167 ?_
      refine ys_lastore (n := 159) dX12_keep_158 rfl sh_165 (fun u14 => ?_)
      refine xs_iincl (n := 162) (dv := (1 : Int32)) (fun v15 => [some (.ref 150), some (.ref 167), some (.int c2), none, none, none, some (.int v15)]) dX12_keep_159 rfl rfl rfl (Nat.le_of_ble_eq_true rfl) (fun _ => rfl) (fun v15 => ?_)
      refine xs_goto (n := 138) dX12_keep_162 rfl ?_
      exact xs_gf (ih v15 u14) (And.intro rfl (And.intro rfl (And.intro rfl (And.intro rfl trivial))))
theorem en_X12_keep (m : Nat) (x0 : Int32) (u0 : xm_Y) : xs_ (fun x : Int32 => some (.int x)) sg_0 mt_X12_keep 0 [some (.ref 150), some (.ref 167), some (.int x0), none, none, none, none] [] u0 0 0 (fn_X12_keep m x0 u0) := by
  refine xs_top ?_
  rw [fn_X12_keep]
  refine xs_aload_n (n := 1) dX12_keep_0 rfl rfl ?_
  refine xs_iconst (n := 2) (v := (0 : Int32)) dX12_keep_1 rfl rfl ?_
  refine ys_laload (n := 3) dX12_keep_2 rfl sh_167 ?_
  refine xs_ldc2 (n := 6) (v := (31 : Int64)) dX12_keep_3 rfl tw_1093 ?_
  refine xs_lmul (n := 7) dX12_keep_6 rfl ?_
  refine xs_aload_n (n := 8) dX12_keep_7 rfl rfl ?_
  refine xs_iconst (n := 9) (v := (1 : Int32)) dX12_keep_8 rfl rfl ?_
  refine ys_laload (n := 10) dX12_keep_9 rfl sh_167 ?_
  refine xs_ladd (n := 11) dX12_keep_10 rfl ?_
  refine xs_ldc2 (n := 14) (v := (1000003 : Int64)) dX12_keep_11 rfl tw_1094 ?_
  refine xs_lmul (n := 15) dX12_keep_14 rfl ?_
  refine xs_aload_n (n := 16) dX12_keep_15 rfl rfl ?_
  refine xs_iconst (n := 17) (v := (2 : Int32)) dX12_keep_16 rfl rfl ?_
  refine ys_laload (n := 18) dX12_keep_17 rfl sh_167 ?_
  refine xs_ladd (n := 19) dX12_keep_18 rfl ?_
  refine xs_letl (fun v1 => ?_)
  refine xs_lstore_n (n := 20) (lv' := [some (.ref 150), some (.ref 167), some (.int x0), some (.long v1), none, none, none]) dX12_keep_19 rfl (Nat.le_of_ble_eq_true rfl) rfl ?_
  refine xs_lload_n (n := 21) dX12_keep_20 rfl rfl ?_
  refine xs_lload_n (n := 22) dX12_keep_21 rfl rfl ?_
  refine xs_bipush (n := 24) (v := (29 : Int32)) dX12_keep_22 rfl rfl ?_
  refine xs_lushr (n := 25) dX12_keep_24 rfl ?_
  refine xs_lxor (n := 26) dX12_keep_25 rfl ?_
  refine xs_ldc2 (n := 29) (v := (32767 : Int64)) dX12_keep_26 rfl tw_1095 ?_
  refine xs_land (n := 30) dX12_keep_29 rfl ?_
  refine xs_l2i (n := 31) dX12_keep_30 rfl ?_
  refine xs_leti (fun v2 => ?_)
  refine xs_istore (n := 33) (lv' := [some (.ref 150), some (.ref 167), some (.int x0), some (.long v1), none, some (.int v2), none]) dX12_keep_31 rfl (Nat.le_of_ble_eq_true rfl) rfl ?_
  refine xs_reg ?_
  refine xs_fg (lv' := [some (.ref 150), some (.ref 167), some (.int x0), none, none, some (.int v2), none]) (And.intro rfl (And.intro rfl (And.intro rfl (And.intro rfl trivial)))) ?_
  refine el_X12_keep_33 m x0 u0 _ (fun _ => rfl) (fun q11 => ?_) m v2
  refine xs_inr ?_
  refine xs_aload_n (n := 126) dX12_keep_125 rfl rfl ?_
  refine ys_getr (n := 129) dX12_keep_126 rfl fl_X12_62 sh_150 rfl ?_
  refine xs_iload (n := 131) dX12_keep_129 rfl rfl ?_
  refine xs_iload_n (n := 132) dX12_keep_131 rfl rfl ?_
  refine xs_iconst (n := 133) (v := (1 : Int32)) dX12_keep_132 rfl rfl ?_
  refine xs_iadd (n := 134) dX12_keep_133 rfl ?_
  refine ys_iastore (n := 135) dX12_keep_134 rfl sh_166 (fun u12 => ?_)
  refine xs_iconst (n := 136) (v := (0 : Int32)) dX12_keep_135 rfl rfl ?_
  refine xs_istore (n := 138) (lv' := [some (.ref 150), some (.ref 167), some (.int x0), none, none, some (.int q11), some (.int (0 : Int32))]) dX12_keep_136 rfl (Nat.le_of_ble_eq_true rfl) rfl ?_
  refine xs_reg ?_
  refine xs_fg (lv' := [some (.ref 150), some (.ref 167), some (.int x0), none, none, none, some (.int (0 : Int32))]) (And.intro rfl (And.intro rfl (And.intro rfl (And.intro rfl trivial)))) ?_
  refine el_X12_keep_138 m x0 _ (fun q16 => ?_) m (0 : Int32) u12
  refine xs_iconst (n := 166) (v := (-1 : Int32)) dX12_keep_165 rfl rfl ?_
  exact xs_iret dX12_keep_166 rfl rfl
def lp_X12_ring_16 (m : Nat) : Nat → Int32 → xm_Y → Option (Int32 × xm_Y)
  | 0, _, _ => none
  | n + 1, l2, u0 =>
  if (32768 : Int32) ≤ l2 then (
  some (l2, u0)) else (
  xm_chk (xm_in l2 32768) (xm_let (w_I u0 166 (Int32.toNatClampNeg l2) (0 : Int32)) fun u4 =>
  xm_let (α := Int32) (l2 + (1 : Int32)) fun v5 =>
  lp_X12_ring_16 m n v5 u4))
def lp_X12_ring_37 (m : Nat) : Nat → Int32 → xm_Y → Option (Int32 × xm_Y)
  | 0, _, _ => none
  | n + 1, l2, u0 =>
  if (3 : Int32) ≤ l2 then (
  some (l2, u0)) else (
  xm_chk (xm_in l2 3) (
  xm_chk (xm_in l2 3) (xm_let (w_J u0 167 (Int32.toNatClampNeg l2) (u0.2 154 (Int32.toNatClampNeg l2))) fun u8 =>
  xm_let (α := Int32) (l2 + (1 : Int32)) fun v9 =>
  lp_X12_ring_37 m n v9 u8)))
def lp_X12_ring_72 (m : Nat) (c1 : Int32) : Nat → Int32 → xm_Y → Option ((Int32 × xm_Y) ⊕ (Int32 × xm_Y))
  | 0, _, _ => none
  | n + 1, l3, u0 =>
  if c1 < l3 then (
  some (.inr (l3, u0))) else (
  ((fn_X12_turnFrom m 167 u0).bind fun q13 =>
  if q13.1 = (1 : Int32) then (
  ((fn_X12_keep m l3 q13.2).bind fun q15 =>
  if q15.1 < 0 then (
  xm_let (α := Int32) (l3 + (1 : Int32)) fun v17 =>
  lp_X12_ring_72 m c1 n v17 q15.2) else (
  xm_let (w_I q15.2 150 26 q15.1) fun u18 =>
  some (.inl ((l3 - q15.1), u18))))) else (
  some (.inl (q13.1, q13.2)))))
def fn_X12_ring (m : Nat) (x0 : Int32) (u0 : xm_Y) : Option (Int32 × xm_Y) :=
  if x0 < (1 : Int32) then (
  some ((-1 : Int32), u0)) else (
  if x0 ≤ (10000 : Int32) then (
  ((lp_X12_ring_16 m m (0 : Int32) u0).bind fun q6 =>
  ((lp_X12_ring_37 m m (0 : Int32) q6.2).bind fun q10 =>
  ((fn_X12_keep m (0 : Int32) q10.2).bind fun q11 =>
  ((lp_X12_ring_72 m x0 m (1 : Int32) q11.2).bind (Sum.elim (fun r => some r) (fun q19 =>
  some ((0 : Int32), q19.2)))))))) else (
  some ((-1 : Int32), u0)))
theorem el_X12_ring_16 (m : Nat) (c1 : Int32) (K : Int32 × xm_Y → Option (Int32 × xm_Y)) (kE : ∀ q : Int32 × xm_Y, xs_ (fun x : Int32 => some (.int x)) sg_0 mt_X12_ring 35 [some (.ref 150), some (.int c1), none, none, none] [] q.2 0 0 (K q)) : ∀ (n : Nat) (l2 : Int32) (u0 : xm_Y), xs_ (fun x : Int32 => some (.int x)) sg_0 mt_X12_ring 16 [some (.ref 150), some (.int c1), some (.int l2), none, none] [] u0 0 0 ((lp_X12_ring_16 m n l2 u0).bind K) := by
  intro n
  induction n with
  | zero =>
    intro l2 u0
    exact xs_none
  | succ n ih =>
    intro l2 u0
    rw [lp_X12_ring_16]
    refine xs_iload_n (n := 17) dX12_ring_16 rfl rfl ?_
    refine xs_ldc (n := 19) (v := (32768 : Int32)) dX12_ring_17 rfl tw_862 ?_
    refine xs_icmp_ge (n := 22) (tgt := 35) dX12_ring_19 rfl rfl (fun hc3 => ?_) (fun hc3 => ?_)
    · exact xs_gf (xs_end (kE (l2, u0))) (And.intro rfl (And.intro rfl trivial))
    · refine xs_aload_n (n := 23) dX12_ring_22 rfl rfl ?_
      refine ys_getr (n := 26) dX12_ring_23 rfl fl_X12_62 sh_150 rfl ?_
      refine xs_iload_n (n := 27) dX12_ring_26 rfl rfl ?_
      refine xs_iconst (n := 28) (v := (0 : Int32)) dX12_ring_27 rfl rfl ?_
      refine ys_iastore (n := 29) dX12_ring_28 rfl sh_166 (fun u4 => ?_)
      refine xs_iincl (n := 32) (dv := (1 : Int32)) (fun v5 => [some (.ref 150), some (.int c1), some (.int v5), none, none]) dX12_ring_29 rfl rfl rfl (Nat.le_of_ble_eq_true rfl) (fun _ => rfl) (fun v5 => ?_)
      refine xs_goto (n := 16) dX12_ring_32 rfl ?_
      exact xs_gf (ih v5 u4) (And.intro rfl (And.intro rfl (And.intro rfl trivial)))
theorem el_X12_ring_37 (m : Nat) (c1 : Int32) (K : Int32 × xm_Y → Option (Int32 × xm_Y)) (kE : ∀ q : Int32 × xm_Y, xs_ (fun x : Int32 => some (.int x)) sg_0 mt_X12_ring 60 [some (.ref 150), some (.int c1), none, none, none] [] q.2 0 0 (K q)) : ∀ (n : Nat) (l2 : Int32) (u0 : xm_Y), xs_ (fun x : Int32 => some (.int x)) sg_0 mt_X12_ring 37 [some (.ref 150), some (.int c1), some (.int l2), none, none] [] u0 0 0 ((lp_X12_ring_37 m n l2 u0).bind K) := by
  intro n
  induction n with
  | zero =>
    intro l2 u0
    exact xs_none
  | succ n ih =>
    intro l2 u0
    rw [lp_X12_ring_37]
    refine xs_iload_n (n := 38) dX12_ring_37 rfl rfl ?_
    refine xs_iconst (n := 39) (v := (3 : Int32)) dX12_ring_38 rfl rfl ?_
    refine xs_icmp_ge (n := 42) (tgt := 60) dX12_ring_39 rfl rfl (fun hc7 => ?_) (fun hc7 => ?_)
    · exact xs_gf (xs_end (kE (l2, u0))) (And.intro rfl (And.intro rfl trivial))
    · refine xs_aload_n (n := 43) dX12_ring_42 rfl rfl ?_
      refine ys_getr (n := 46) dX12_ring_43 rfl fl_X12_68 sh_150 rfl ?_
      refine xs_iload_n (n := 47) dX12_ring_46 rfl rfl ?_
      refine xs_aload_n (n := 48) dX12_ring_47 rfl rfl ?_
      refine ys_getr (n := 51) dX12_ring_48 rfl fl_X12_23 sh_150 rfl ?_
      refine xs_iload_n (n := 52) dX12_ring_51 rfl rfl ?_
      refine ys_laload (n := 53) dX12_ring_52 rfl sh_154 ?_
      refine ys_lastore (n := 54) dX12_ring_53 rfl sh_167 (fun u8 => ?_)
      refine xs_iincl (n := 57) (dv := (1 : Int32)) (fun v9 => [some (.ref 150), some (.int c1), some (.int v9), none, none]) dX12_ring_54 rfl rfl rfl (Nat.le_of_ble_eq_true rfl) (fun _ => rfl) (fun v9 => ?_)
      refine xs_goto (n := 37) dX12_ring_57 rfl ?_
      exact xs_gf (ih v9 u8) (And.intro rfl (And.intro rfl (And.intro rfl trivial)))
theorem el_X12_ring_72 (m : Nat) (c1 : Int32) (K : (Int32 × xm_Y) ⊕ (Int32 × xm_Y) → Option (Int32 × xm_Y)) (hK : ∀ r, K (.inl r) = some r) (kE : ∀ q : Int32 × xm_Y, xs_ (fun x : Int32 => some (.int x)) sg_0 mt_X12_ring 125 [none, none, none, none, none] [] q.2 0 0 (K (.inr q))) : ∀ (n : Nat) (l3 : Int32) (u0 : xm_Y), xs_ (fun x : Int32 => some (.int x)) sg_0 mt_X12_ring 72 [some (.ref 150), some (.int c1), none, some (.int l3), none] [] u0 0 0 ((lp_X12_ring_72 m c1 n l3 u0).bind K) := by
  intro n
  induction n with
  | zero =>
    intro l3 u0
    exact xs_none
  | succ n ih =>
    intro l3 u0
    rw [lp_X12_ring_72]
    refine xs_iload_n (n := 73) dX12_ring_72 rfl rfl ?_
    refine xs_iload_n (n := 74) dX12_ring_73 rfl rfl ?_
    refine xs_icmp_gt (n := 77) (tgt := 125) dX12_ring_74 rfl rfl (fun hc12 => ?_) (fun hc12 => ?_)
    · exact xs_gf (xs_end (kE (l3, u0))) trivial
    · refine xs_aload_n (n := 78) dX12_ring_77 rfl rfl ?_
      refine xs_aload_n (n := 79) dX12_ring_78 rfl rfl ?_
      refine ys_getr (n := 82) dX12_ring_79 rfl fl_X12_68 sh_150 rfl ?_
      refine ys_callvi (n := 85) (N := mt_X12_turnFrom) dX12_ring_82 rfl ok_X12_turnFrom tw_1065 im_X12_turnFrom se_X12_turnFrom ⟨Nat.le_of_ble_eq_true rfl, Nat.le_of_ble_eq_true rfl⟩ [.ref 167] [] rfl rfl (Nat.le_of_ble_eq_true rfl) rfl (Nat.le_of_ble_eq_true rfl) (en_X12_turnFrom m 167 sh_167 u0) sh_150 (by decide) rfl (fun q13 => ?_)
      refine xs_istore (n := 87) (lv' := [some (.ref 150), some (.int c1), none, some (.int l3), some (.int q13.1)]) dX12_ring_85 rfl (Nat.le_of_ble_eq_true rfl) rfl ?_
      refine xs_iload (n := 89) dX12_ring_87 rfl rfl ?_
      refine xs_iconst (n := 90) (v := (1 : Int32)) dX12_ring_89 rfl rfl ?_
      refine xs_icmp_eq (n := 93) (tgt := 96) dX12_ring_90 rfl rfl (fun hc14 => ?_) (fun hc14 => ?_)
      · refine xs_aload_n (n := 97) dX12_ring_96 rfl rfl ?_
        refine xs_aload_n (n := 98) dX12_ring_97 rfl rfl ?_
        refine ys_getr (n := 101) dX12_ring_98 rfl fl_X12_68 sh_150 rfl ?_
        refine xs_iload_n (n := 102) dX12_ring_101 rfl rfl ?_
        refine ys_callvi (n := 105) (N := mt_X12_keep) dX12_ring_102 rfl ok_X12_keep tw_1089 im_X12_keep se_X12_keep ⟨Nat.le_of_ble_eq_true rfl, Nat.le_of_ble_eq_true rfl⟩ [.ref 167, .int l3] [] rfl rfl (Nat.le_of_ble_eq_true rfl) rfl (Nat.le_of_ble_eq_true rfl) (en_X12_keep m l3 q13.2) sh_150 (by decide) rfl (fun q15 => ?_)
        refine xs_istore_n (n := 106) (lv' := [some (.ref 150), some (.int c1), some (.int q15.1), some (.int l3), some (.int q13.1)]) dX12_ring_105 rfl (Nat.le_of_ble_eq_true rfl) rfl ?_
        refine xs_iload_n (n := 107) dX12_ring_106 rfl rfl ?_
        refine xs_if_lt (n := 110) (tgt := 119) dX12_ring_107 rfl rfl (fun hc16 => ?_) (fun hc16 => ?_)
        · refine xs_iincl (n := 122) (dv := (1 : Int32)) (fun v17 => [some (.ref 150), some (.int c1), some (.int q15.1), some (.int v17), some (.int q13.1)]) dX12_ring_119 rfl rfl rfl (Nat.le_of_ble_eq_true rfl) (fun _ => rfl) (fun v17 => ?_)
          refine xs_goto (n := 72) dX12_ring_122 rfl ?_
          exact xs_gf (ih v17 q15.2) (And.intro rfl (And.intro rfl (And.intro rfl trivial)))
        · refine xs_aload_n (n := 111) dX12_ring_110 rfl rfl ?_
          refine xs_iload_n (n := 112) dX12_ring_111 rfl rfl ?_
          refine ys_puti (n := 115) dX12_ring_112 rfl fl_X12_65 rfl sh_150 (fun u18 => ?_)
          refine xs_iload_n (n := 116) dX12_ring_115 rfl rfl ?_
          refine xs_iload_n (n := 117) dX12_ring_116 rfl rfl ?_
          refine xs_isub (n := 118) dX12_ring_117 rfl ?_
          exact xs_iret dX12_ring_118 rfl (hK _)
      · refine xs_iload (n := 95) dX12_ring_93 rfl rfl ?_
        exact xs_iret dX12_ring_95 rfl (hK _)
theorem en_X12_ring (m : Nat) (x0 : Int32) (u0 : xm_Y) : xs_ (fun x : Int32 => some (.int x)) sg_0 mt_X12_ring 0 [some (.ref 150), some (.int x0), none, none, none] [] u0 0 0 (fn_X12_ring m x0 u0) := by
  refine xs_top ?_
  rw [fn_X12_ring]
  refine xs_iload_n (n := 1) dX12_ring_0 rfl rfl ?_
  refine xs_iconst (n := 2) (v := (1 : Int32)) dX12_ring_1 rfl rfl ?_
  refine xs_icmp_lt (n := 5) (tgt := 12) dX12_ring_2 rfl rfl (fun hc1 => ?_) (fun hc1 => ?_)
  · refine xs_iconst (n := 13) (v := (-1 : Int32)) dX12_ring_12 rfl rfl ?_
    exact xs_iret dX12_ring_13 rfl rfl
  · refine xs_iload_n (n := 6) dX12_ring_5 rfl rfl ?_
    refine xs_sipush (n := 9) (v := (10000 : Int32)) dX12_ring_6 rfl rfl ?_
    refine xs_icmp_le (n := 12) (tgt := 14) dX12_ring_9 rfl rfl (fun hc2 => ?_) (fun hc2 => ?_)
    · refine xs_iconst (n := 15) (v := (0 : Int32)) dX12_ring_14 rfl rfl ?_
      refine xs_istore_n (n := 16) (lv' := [some (.ref 150), some (.int x0), some (.int (0 : Int32)), none, none]) dX12_ring_15 rfl (Nat.le_of_ble_eq_true rfl) rfl ?_
      refine xs_reg ?_
      refine xs_fg (lv' := [some (.ref 150), some (.int x0), some (.int (0 : Int32)), none, none]) (And.intro rfl (And.intro rfl (And.intro rfl trivial))) ?_
      refine el_X12_ring_16 m x0 _ (fun q6 => ?_) m (0 : Int32) u0
      refine xs_iconst (n := 36) (v := (0 : Int32)) dX12_ring_35 rfl rfl ?_
      refine xs_istore_n (n := 37) (lv' := [some (.ref 150), some (.int x0), some (.int (0 : Int32)), none, none]) dX12_ring_36 rfl (Nat.le_of_ble_eq_true rfl) rfl ?_
      refine xs_reg ?_
      refine xs_fg (lv' := [some (.ref 150), some (.int x0), some (.int (0 : Int32)), none, none]) (And.intro rfl (And.intro rfl (And.intro rfl trivial))) ?_
      refine el_X12_ring_37 m x0 _ (fun q10 => ?_) m (0 : Int32) q6.2
      refine xs_aload_n (n := 61) dX12_ring_60 rfl rfl ?_
      refine xs_aload_n (n := 62) dX12_ring_61 rfl rfl ?_
      refine ys_getr (n := 65) dX12_ring_62 rfl fl_X12_68 sh_150 rfl ?_
      refine xs_iconst (n := 66) (v := (0 : Int32)) dX12_ring_65 rfl rfl ?_
      refine ys_callvi (n := 69) (N := mt_X12_keep) dX12_ring_66 rfl ok_X12_keep tw_1089 im_X12_keep se_X12_keep ⟨Nat.le_of_ble_eq_true rfl, Nat.le_of_ble_eq_true rfl⟩ [.ref 167, .int (0 : Int32)] [] rfl rfl (Nat.le_of_ble_eq_true rfl) rfl (Nat.le_of_ble_eq_true rfl) (en_X12_keep m (0 : Int32) q10.2) sh_150 (by decide) rfl (fun q11 => ?_)
      refine xs_istore_n (n := 70) (lv' := [some (.ref 150), some (.int x0), some (.int q11.1), none, none]) dX12_ring_69 rfl (Nat.le_of_ble_eq_true rfl) rfl ?_
      refine xs_iconst (n := 71) (v := (1 : Int32)) dX12_ring_70 rfl rfl ?_
      refine xs_istore_n (n := 72) (lv' := [some (.ref 150), some (.int x0), some (.int q11.1), some (.int (1 : Int32)), none]) dX12_ring_71 rfl (Nat.le_of_ble_eq_true rfl) rfl ?_
      refine xs_reg ?_
      refine xs_fg (lv' := [some (.ref 150), some (.int x0), none, some (.int (1 : Int32)), none]) (And.intro rfl (And.intro rfl (And.intro rfl trivial))) ?_
      refine el_X12_ring_72 m x0 _ (fun _ => rfl) (fun q19 => ?_) m (1 : Int32) q11.2
      refine xs_inr ?_
      refine xs_iconst (n := 126) (v := (0 : Int32)) dX12_ring_125 rfl rfl ?_
      exact xs_iret dX12_ring_126 rfl rfl
    · refine xs_iconst (n := 13) (v := (-1 : Int32)) dX12_ring_12 rfl rfl ?_
      exact xs_iret dX12_ring_13 rfl rfl
def fn_X12_ahead (m : Nat) (u0 : xm_Y) : Option (Int32 × xm_Y) :=
  some ((u0.1 150 26), u0)
theorem en_X12_ahead (m : Nat) (u0 : xm_Y) : xs_ (fun x : Int32 => some (.int x)) sg_0 mt_X12_ahead 0 [some (.ref 150)] [] u0 0 0 (fn_X12_ahead m u0) := by
  refine xs_top ?_
  rw [fn_X12_ahead]
  refine xs_aload_n (n := 1) dX12_ahead_0 rfl rfl ?_
  refine ys_geti (n := 4) dX12_ahead_1 rfl fl_X12_65 (Or.inl rfl) sh_150 ?_
  exact xs_iret dX12_ahead_4 rfl rfl
def fn_X12_addSide (m : Nat) (x0 : Int64) (x1 : Int64) (x2 : Int64) (x3 : Int64) (u0 : xm_Y) : Option (Unit × xm_Y) :=
  xm_chk (xm_in ((4 : Int32) * (u0.1 150 11)) 48) (xm_let (w_J u0 159 (Int32.toNatClampNeg ((4 : Int32) * (u0.1 150 11))) x0) fun u1 =>
  xm_chk (xm_in (((4 : Int32) * (u1.1 150 11)) + (1 : Int32)) 48) (xm_let (w_J u1 159 (Int32.toNatClampNeg (((4 : Int32) * (u1.1 150 11)) + (1 : Int32))) x1) fun u2 =>
  xm_chk (xm_in (((4 : Int32) * (u2.1 150 11)) + (2 : Int32)) 48) (xm_let (w_J u2 159 (Int32.toNatClampNeg (((4 : Int32) * (u2.1 150 11)) + (2 : Int32))) x2) fun u3 =>
  xm_chk (xm_in (((4 : Int32) * (u3.1 150 11)) + (3 : Int32)) 48) (xm_let (w_J u3 159 (Int32.toNatClampNeg (((4 : Int32) * (u3.1 150 11)) + (3 : Int32))) x3) fun u4 =>
  xm_let (w_I u4 150 11 ((u4.1 150 11) + (1 : Int32))) fun u5 =>
  some ((), u5)))))
theorem en_X12_addSide (m : Nat) (x0 : Int64) (x1 : Int64) (x2 : Int64) (x3 : Int64) (u0 : xm_Y) : xs_ (fun _ : Unit => none) sg_0 mt_X12_addSide 0 [some (.ref 150), some (.long x0), none, some (.long x1), none, some (.long x2), none, some (.long x3), none] [] u0 0 0 (fn_X12_addSide m x0 x1 x2 x3 u0) := by
  refine xs_top ?_
  rw [fn_X12_addSide]
  refine xs_aload_n (n := 1) dX12_addSide_0 rfl rfl ?_
  refine ys_getr (n := 4) dX12_addSide_1 rfl fl_X12_40 sh_150 rfl ?_
  refine xs_iconst (n := 5) (v := (4 : Int32)) dX12_addSide_4 rfl rfl ?_
  refine xs_aload_n (n := 6) dX12_addSide_5 rfl rfl ?_
  refine ys_geti (n := 9) dX12_addSide_6 rfl fl_X12_185 (Or.inl rfl) sh_150 ?_
  refine xs_imul (n := 10) dX12_addSide_9 rfl ?_
  refine xs_lload_n (n := 11) dX12_addSide_10 rfl rfl ?_
  refine ys_lastore (n := 12) dX12_addSide_11 rfl sh_159 (fun u1 => ?_)
  refine xs_aload_n (n := 13) dX12_addSide_12 rfl rfl ?_
  refine ys_getr (n := 16) dX12_addSide_13 rfl fl_X12_40 sh_150 rfl ?_
  refine xs_iconst (n := 17) (v := (4 : Int32)) dX12_addSide_16 rfl rfl ?_
  refine xs_aload_n (n := 18) dX12_addSide_17 rfl rfl ?_
  refine ys_geti (n := 21) dX12_addSide_18 rfl fl_X12_185 (Or.inl rfl) sh_150 ?_
  refine xs_imul (n := 22) dX12_addSide_21 rfl ?_
  refine xs_iconst (n := 23) (v := (1 : Int32)) dX12_addSide_22 rfl rfl ?_
  refine xs_iadd (n := 24) dX12_addSide_23 rfl ?_
  refine xs_lload_n (n := 25) dX12_addSide_24 rfl rfl ?_
  refine ys_lastore (n := 26) dX12_addSide_25 rfl sh_159 (fun u2 => ?_)
  refine xs_aload_n (n := 27) dX12_addSide_26 rfl rfl ?_
  refine ys_getr (n := 30) dX12_addSide_27 rfl fl_X12_40 sh_150 rfl ?_
  refine xs_iconst (n := 31) (v := (4 : Int32)) dX12_addSide_30 rfl rfl ?_
  refine xs_aload_n (n := 32) dX12_addSide_31 rfl rfl ?_
  refine ys_geti (n := 35) dX12_addSide_32 rfl fl_X12_185 (Or.inl rfl) sh_150 ?_
  refine xs_imul (n := 36) dX12_addSide_35 rfl ?_
  refine xs_iconst (n := 37) (v := (2 : Int32)) dX12_addSide_36 rfl rfl ?_
  refine xs_iadd (n := 38) dX12_addSide_37 rfl ?_
  refine xs_lload (n := 40) dX12_addSide_38 rfl rfl ?_
  refine ys_lastore (n := 41) dX12_addSide_40 rfl sh_159 (fun u3 => ?_)
  refine xs_aload_n (n := 42) dX12_addSide_41 rfl rfl ?_
  refine ys_getr (n := 45) dX12_addSide_42 rfl fl_X12_40 sh_150 rfl ?_
  refine xs_iconst (n := 46) (v := (4 : Int32)) dX12_addSide_45 rfl rfl ?_
  refine xs_aload_n (n := 47) dX12_addSide_46 rfl rfl ?_
  refine ys_geti (n := 50) dX12_addSide_47 rfl fl_X12_185 (Or.inl rfl) sh_150 ?_
  refine xs_imul (n := 51) dX12_addSide_50 rfl ?_
  refine xs_iconst (n := 52) (v := (3 : Int32)) dX12_addSide_51 rfl rfl ?_
  refine xs_iadd (n := 53) dX12_addSide_52 rfl ?_
  refine xs_lload (n := 55) dX12_addSide_53 rfl rfl ?_
  refine ys_lastore (n := 56) dX12_addSide_55 rfl sh_159 (fun u4 => ?_)
  refine xs_aload_n (n := 57) dX12_addSide_56 rfl rfl ?_
  refine xs_dup (n := 58) dX12_addSide_57 rfl rfl ?_
  refine ys_geti (n := 61) dX12_addSide_58 rfl fl_X12_185 (Or.inl rfl) sh_150 ?_
  refine xs_iconst (n := 62) (v := (1 : Int32)) dX12_addSide_61 rfl rfl ?_
  refine xs_iadd (n := 63) dX12_addSide_62 rfl ?_
  refine ys_puti (n := 66) dX12_addSide_63 rfl fl_X12_185 rfl sh_150 (fun u5 => ?_)
  exact xs_vret dX12_addSide_66 rfl rfl
def fn_X12_isZero (m : Nat) (x0 : Int32) (u0 : xm_Y) : Option (Int32 × xm_Y) :=
  xm_chk (xm_in ((4 : Int32) * x0) 48) (
  ((if (u0.2 159 (Int32.toNatClampNeg ((4 : Int32) * x0))) = (0 : Int64) then (
  xm_chk (xm_in (((4 : Int32) * x0) + (1 : Int32)) 48) (
  if (u0.2 159 (Int32.toNatClampNeg (((4 : Int32) * x0) + (1 : Int32)))) = (0 : Int64) then (
  xm_chk (xm_in (((4 : Int32) * x0) + (2 : Int32)) 48) (
  if (u0.2 159 (Int32.toNatClampNeg (((4 : Int32) * x0) + (2 : Int32)))) = (0 : Int64) then (
  some ((1 : Int32))) else (
  some ((0 : Int32))))) else (
  some ((0 : Int32))))) else (
  some ((0 : Int32))) : Option (Int32)).bind fun q1 =>
  xm_chk (q1 = 0 ∨ q1 = 1) (some (q1, u0))))
theorem en_X12_isZero (m : Nat) (x0 : Int32) (u0 : xm_Y) : xs_ (fun x : Int32 => some (.int x)) sg_0 mt_X12_isZero 0 [some (.ref 150), some (.int x0)] [] u0 0 0 (fn_X12_isZero m x0 u0) := by
  refine xs_top ?_
  rw [fn_X12_isZero]
  refine xs_aload_n (n := 1) dX12_isZero_0 rfl rfl ?_
  refine ys_getr (n := 4) dX12_isZero_1 rfl fl_X12_40 sh_150 rfl ?_
  refine xs_iconst (n := 5) (v := (4 : Int32)) dX12_isZero_4 rfl rfl ?_
  refine xs_iload_n (n := 6) dX12_isZero_5 rfl rfl ?_
  refine xs_imul (n := 7) dX12_isZero_6 rfl ?_
  refine ys_laload (n := 8) dX12_isZero_7 rfl sh_159 ?_
  refine xs_lconst (n := 9) (v := (0 : Int64)) dX12_isZero_8 rfl rfl ?_
  refine xs_join 48 (fun q1 => [none, none]) (fun q1 => [.int q1]) (fun q1 => u0) (fun q1 => ?_) (fun kj2 => ?_)
  · exact xs_zret dX12_isZero_48 rfl rfl
  · refine xs_lif_ne (n := 13) (pc1 := 10) (tgt := 47) dX12_isZero_9 rfl dX12_isZero_10 rfl rfl (fun hc3 => ?_) (fun hc3 => ?_)
    · refine xs_aload_n (n := 14) dX12_isZero_13 rfl rfl ?_
      refine ys_getr (n := 17) dX12_isZero_14 rfl fl_X12_40 sh_150 rfl ?_
      refine xs_iconst (n := 18) (v := (4 : Int32)) dX12_isZero_17 rfl rfl ?_
      refine xs_iload_n (n := 19) dX12_isZero_18 rfl rfl ?_
      refine xs_imul (n := 20) dX12_isZero_19 rfl ?_
      refine xs_iconst (n := 21) (v := (1 : Int32)) dX12_isZero_20 rfl rfl ?_
      refine xs_iadd (n := 22) dX12_isZero_21 rfl ?_
      refine ys_laload (n := 23) dX12_isZero_22 rfl sh_159 ?_
      refine xs_lconst (n := 24) (v := (0 : Int64)) dX12_isZero_23 rfl rfl ?_
      refine xs_lif_ne (n := 28) (pc1 := 25) (tgt := 47) dX12_isZero_24 rfl dX12_isZero_25 rfl rfl (fun hc4 => ?_) (fun hc4 => ?_)
      · refine xs_aload_n (n := 29) dX12_isZero_28 rfl rfl ?_
        refine ys_getr (n := 32) dX12_isZero_29 rfl fl_X12_40 sh_150 rfl ?_
        refine xs_iconst (n := 33) (v := (4 : Int32)) dX12_isZero_32 rfl rfl ?_
        refine xs_iload_n (n := 34) dX12_isZero_33 rfl rfl ?_
        refine xs_imul (n := 35) dX12_isZero_34 rfl ?_
        refine xs_iconst (n := 36) (v := (2 : Int32)) dX12_isZero_35 rfl rfl ?_
        refine xs_iadd (n := 37) dX12_isZero_36 rfl ?_
        refine ys_laload (n := 38) dX12_isZero_37 rfl sh_159 ?_
        refine xs_lconst (n := 39) (v := (0 : Int64)) dX12_isZero_38 rfl rfl ?_
        refine xs_lif_ne (n := 43) (pc1 := 40) (tgt := 47) dX12_isZero_39 rfl dX12_isZero_40 rfl rfl (fun hc5 => ?_) (fun hc5 => ?_)
        · refine xs_iconst (n := 44) (v := (1 : Int32)) dX12_isZero_43 rfl rfl ?_
          refine xs_goto (n := 48) dX12_isZero_44 rfl ?_
          exact xs_gf (xs_end (kj2 ((1 : Int32)))) trivial
        · refine xs_iconst (n := 48) (v := (0 : Int32)) dX12_isZero_47 rfl rfl ?_
          exact xs_gf (xs_end (kj2 ((0 : Int32)))) trivial
      · refine xs_iconst (n := 48) (v := (0 : Int32)) dX12_isZero_47 rfl rfl ?_
        exact xs_gf (xs_end (kj2 ((0 : Int32)))) trivial
    · refine xs_iconst (n := 48) (v := (0 : Int32)) dX12_isZero_47 rfl rfl ?_
      exact xs_gf (xs_end (kj2 ((0 : Int32)))) trivial
def fn_X12_cross (m : Nat) (x0 : Int32) (x1 : Int32) (x2 : Int32) (u0 : xm_Y) : Option (Int64 × xm_Y) :=
  xm_chk (¬ (3 : Int32) = 0) (
  xm_let (α := Int32) (((x2 + (1 : Int32)) - (x2 + (1 : Int32)) / (3 : Int32) * (3 : Int32))) fun v1 =>
  xm_chk (¬ (3 : Int32) = 0) (
  xm_let (α := Int32) (((x2 + (2 : Int32)) - (x2 + (2 : Int32)) / (3 : Int32) * (3 : Int32))) fun v2 =>
  xm_chk (xm_in (((4 : Int32) * x0) + v1) 48) (
  xm_chk (xm_in (((4 : Int32) * x1) + v2) 48) (
  xm_chk (xm_in (((4 : Int32) * x0) + v2) 48) (
  xm_chk (xm_in (((4 : Int32) * x1) + v1) 48) (
  some ((((u0.2 159 (Int32.toNatClampNeg (((4 : Int32) * x0) + v1))) * (u0.2 159 (Int32.toNatClampNeg (((4 : Int32) * x1) + v2)))) - ((u0.2 159 (Int32.toNatClampNeg (((4 : Int32) * x0) + v2))) * (u0.2 159 (Int32.toNatClampNeg (((4 : Int32) * x1) + v1))))), u0)))))))
theorem en_X12_cross (m : Nat) (x0 : Int32) (x1 : Int32) (x2 : Int32) (u0 : xm_Y) : xs_ (fun x : Int64 => some (.long x)) sg_0 mt_X12_cross 0 [some (.ref 150), some (.int x0), some (.int x1), some (.int x2), none, none] [] u0 0 0 (fn_X12_cross m x0 x1 x2 u0) := by
  refine xs_top ?_
  rw [fn_X12_cross]
  refine xs_iload_n (n := 1) dX12_cross_0 rfl rfl ?_
  refine xs_iconst (n := 2) (v := (1 : Int32)) dX12_cross_1 rfl rfl ?_
  refine xs_iadd (n := 3) dX12_cross_2 rfl ?_
  refine xs_iconst (n := 4) (v := (3 : Int32)) dX12_cross_3 rfl rfl ?_
  refine xs_irem (n := 5) dX12_cross_4 rfl (fun _ => ?_)
  refine xs_leti (fun v1 => ?_)
  refine xs_istore (n := 7) (lv' := [some (.ref 150), some (.int x0), some (.int x1), some (.int x2), some (.int v1), none]) dX12_cross_5 rfl (Nat.le_of_ble_eq_true rfl) rfl ?_
  refine xs_iload_n (n := 8) dX12_cross_7 rfl rfl ?_
  refine xs_iconst (n := 9) (v := (2 : Int32)) dX12_cross_8 rfl rfl ?_
  refine xs_iadd (n := 10) dX12_cross_9 rfl ?_
  refine xs_iconst (n := 11) (v := (3 : Int32)) dX12_cross_10 rfl rfl ?_
  refine xs_irem (n := 12) dX12_cross_11 rfl (fun _ => ?_)
  refine xs_leti (fun v2 => ?_)
  refine xs_istore (n := 14) (lv' := [some (.ref 150), some (.int x0), some (.int x1), some (.int x2), some (.int v1), some (.int v2)]) dX12_cross_12 rfl (Nat.le_of_ble_eq_true rfl) rfl ?_
  refine xs_aload_n (n := 15) dX12_cross_14 rfl rfl ?_
  refine ys_getr (n := 18) dX12_cross_15 rfl fl_X12_40 sh_150 rfl ?_
  refine xs_iconst (n := 19) (v := (4 : Int32)) dX12_cross_18 rfl rfl ?_
  refine xs_iload_n (n := 20) dX12_cross_19 rfl rfl ?_
  refine xs_imul (n := 21) dX12_cross_20 rfl ?_
  refine xs_iload (n := 23) dX12_cross_21 rfl rfl ?_
  refine xs_iadd (n := 24) dX12_cross_23 rfl ?_
  refine ys_laload (n := 25) dX12_cross_24 rfl sh_159 ?_
  refine xs_aload_n (n := 26) dX12_cross_25 rfl rfl ?_
  refine ys_getr (n := 29) dX12_cross_26 rfl fl_X12_40 sh_150 rfl ?_
  refine xs_iconst (n := 30) (v := (4 : Int32)) dX12_cross_29 rfl rfl ?_
  refine xs_iload_n (n := 31) dX12_cross_30 rfl rfl ?_
  refine xs_imul (n := 32) dX12_cross_31 rfl ?_
  refine xs_iload (n := 34) dX12_cross_32 rfl rfl ?_
  refine xs_iadd (n := 35) dX12_cross_34 rfl ?_
  refine ys_laload (n := 36) dX12_cross_35 rfl sh_159 ?_
  refine xs_lmul (n := 37) dX12_cross_36 rfl ?_
  refine xs_aload_n (n := 38) dX12_cross_37 rfl rfl ?_
  refine ys_getr (n := 41) dX12_cross_38 rfl fl_X12_40 sh_150 rfl ?_
  refine xs_iconst (n := 42) (v := (4 : Int32)) dX12_cross_41 rfl rfl ?_
  refine xs_iload_n (n := 43) dX12_cross_42 rfl rfl ?_
  refine xs_imul (n := 44) dX12_cross_43 rfl ?_
  refine xs_iload (n := 46) dX12_cross_44 rfl rfl ?_
  refine xs_iadd (n := 47) dX12_cross_46 rfl ?_
  refine ys_laload (n := 48) dX12_cross_47 rfl sh_159 ?_
  refine xs_aload_n (n := 49) dX12_cross_48 rfl rfl ?_
  refine ys_getr (n := 52) dX12_cross_49 rfl fl_X12_40 sh_150 rfl ?_
  refine xs_iconst (n := 53) (v := (4 : Int32)) dX12_cross_52 rfl rfl ?_
  refine xs_iload_n (n := 54) dX12_cross_53 rfl rfl ?_
  refine xs_imul (n := 55) dX12_cross_54 rfl ?_
  refine xs_iload (n := 57) dX12_cross_55 rfl rfl ?_
  refine xs_iadd (n := 58) dX12_cross_57 rfl ?_
  refine ys_laload (n := 59) dX12_cross_58 rfl sh_159 ?_
  refine xs_lmul (n := 60) dX12_cross_59 rfl ?_
  refine xs_lsub (n := 61) dX12_cross_60 rfl ?_
  exact xs_lret dX12_cross_61 rfl rfl
def fn_X12_areParallel (m : Nat) (x0 : Int32) (x1 : Int32) (u0 : xm_Y) : Option (Int32 × xm_Y) :=
  ((fn_X12_cross m x0 x1 (0 : Int32) u0).bind fun q1 =>
  ((if q1.1 = (0 : Int64) then (
  ((fn_X12_cross m x0 x1 (1 : Int32) q1.2).bind fun q5 =>
  if q5.1 = (0 : Int64) then (
  ((fn_X12_cross m x0 x1 (2 : Int32) q5.2).bind fun q7 =>
  if q7.1 = (0 : Int64) then (
  some ((1 : Int32), q7.2)) else (
  some ((0 : Int32), q7.2)))) else (
  some ((0 : Int32), q5.2)))) else (
  some ((0 : Int32), q1.2)) : Option (Int32 × xm_Y)).bind fun q2 =>
  xm_chk (q2.1 = 0 ∨ q2.1 = 1) (some (q2.1, q2.2))))
theorem en_X12_areParallel (m : Nat) (x0 : Int32) (x1 : Int32) (u0 : xm_Y) : xs_ (fun x : Int32 => some (.int x)) sg_0 mt_X12_areParallel 0 [some (.ref 150), some (.int x0), some (.int x1)] [] u0 0 0 (fn_X12_areParallel m x0 x1 u0) := by
  refine xs_top ?_
  rw [fn_X12_areParallel]
  refine xs_aload_n (n := 1) dX12_areParallel_0 rfl rfl ?_
  refine xs_iload_n (n := 2) dX12_areParallel_1 rfl rfl ?_
  refine xs_iload_n (n := 3) dX12_areParallel_2 rfl rfl ?_
  refine xs_iconst (n := 4) (v := (0 : Int32)) dX12_areParallel_3 rfl rfl ?_
  refine ys_callvl (n := 7) (N := mt_X12_cross) dX12_areParallel_4 rfl ok_X12_cross tw_1137 im_X12_cross se_X12_cross ⟨Nat.le_of_ble_eq_true rfl, Nat.le_of_ble_eq_true rfl⟩ [.int x0, .int x1, .int (0 : Int32)] [] rfl rfl (Nat.le_of_ble_eq_true rfl) rfl (Nat.le_of_ble_eq_true rfl) (en_X12_cross m x0 x1 (0 : Int32) u0) sh_150 (by decide) rfl (fun q1 => ?_)
  refine xs_lconst (n := 8) (v := (0 : Int64)) dX12_areParallel_7 rfl rfl ?_
  refine xs_join 41 (fun q2 => [none, none, none]) (fun q2 => [.int q2.1]) (fun q2 => q2.2) (fun q2 => ?_) (fun kj3 => ?_)
  · exact xs_zret dX12_areParallel_41 rfl rfl
  · refine xs_lif_ne (n := 12) (pc1 := 9) (tgt := 40) dX12_areParallel_8 rfl dX12_areParallel_9 rfl rfl (fun hc4 => ?_) (fun hc4 => ?_)
    · refine xs_aload_n (n := 13) dX12_areParallel_12 rfl rfl ?_
      refine xs_iload_n (n := 14) dX12_areParallel_13 rfl rfl ?_
      refine xs_iload_n (n := 15) dX12_areParallel_14 rfl rfl ?_
      refine xs_iconst (n := 16) (v := (1 : Int32)) dX12_areParallel_15 rfl rfl ?_
      refine ys_callvl (n := 19) (N := mt_X12_cross) dX12_areParallel_16 rfl ok_X12_cross tw_1137 im_X12_cross se_X12_cross ⟨Nat.le_of_ble_eq_true rfl, Nat.le_of_ble_eq_true rfl⟩ [.int x0, .int x1, .int (1 : Int32)] [] rfl rfl (Nat.le_of_ble_eq_true rfl) rfl (Nat.le_of_ble_eq_true rfl) (en_X12_cross m x0 x1 (1 : Int32) q1.2) sh_150 (by decide) rfl (fun q5 => ?_)
      refine xs_lconst (n := 20) (v := (0 : Int64)) dX12_areParallel_19 rfl rfl ?_
      refine xs_lif_ne (n := 24) (pc1 := 21) (tgt := 40) dX12_areParallel_20 rfl dX12_areParallel_21 rfl rfl (fun hc6 => ?_) (fun hc6 => ?_)
      · refine xs_aload_n (n := 25) dX12_areParallel_24 rfl rfl ?_
        refine xs_iload_n (n := 26) dX12_areParallel_25 rfl rfl ?_
        refine xs_iload_n (n := 27) dX12_areParallel_26 rfl rfl ?_
        refine xs_iconst (n := 28) (v := (2 : Int32)) dX12_areParallel_27 rfl rfl ?_
        refine ys_callvl (n := 31) (N := mt_X12_cross) dX12_areParallel_28 rfl ok_X12_cross tw_1137 im_X12_cross se_X12_cross ⟨Nat.le_of_ble_eq_true rfl, Nat.le_of_ble_eq_true rfl⟩ [.int x0, .int x1, .int (2 : Int32)] [] rfl rfl (Nat.le_of_ble_eq_true rfl) rfl (Nat.le_of_ble_eq_true rfl) (en_X12_cross m x0 x1 (2 : Int32) q5.2) sh_150 (by decide) rfl (fun q7 => ?_)
        refine xs_lconst (n := 32) (v := (0 : Int64)) dX12_areParallel_31 rfl rfl ?_
        refine xs_lif_ne (n := 36) (pc1 := 33) (tgt := 40) dX12_areParallel_32 rfl dX12_areParallel_33 rfl rfl (fun hc8 => ?_) (fun hc8 => ?_)
        · refine xs_iconst (n := 37) (v := (1 : Int32)) dX12_areParallel_36 rfl rfl ?_
          refine xs_goto (n := 41) dX12_areParallel_37 rfl ?_
          exact xs_gf (xs_end (kj3 ((1 : Int32), q7.2))) trivial
        · refine xs_iconst (n := 41) (v := (0 : Int32)) dX12_areParallel_40 rfl rfl ?_
          exact xs_gf (xs_end (kj3 ((0 : Int32), q7.2))) trivial
      · refine xs_iconst (n := 41) (v := (0 : Int32)) dX12_areParallel_40 rfl rfl ?_
        exact xs_gf (xs_end (kj3 ((0 : Int32), q5.2))) trivial
    · refine xs_iconst (n := 41) (v := (0 : Int32)) dX12_areParallel_40 rfl rfl ?_
      exact xs_gf (xs_end (kj3 ((0 : Int32), q1.2))) trivial
