def lp_J7_fill_d0a16_6 (m : Nat) (a0 : Nat) (n0 : Nat) (c1 : Int64) (c4 : Int32) : Nat → Int32 → xm_Y → Option (Int32 × xm_Y)
  | 0, _, _ => none
  | n + 1, l3, u0 =>
  if c4 ≤ l3 then (
  some (l3, u0)) else (
  xm_chk (xm_in l3 n0) (xm_let (w_J u0 a0 (Int32.toNatClampNeg l3) c1) fun u3 =>
  xm_let (α := Int32) (l3 + (1 : Int32)) fun v4 =>
  lp_J7_fill_d0a16_6 m a0 n0 c1 c4 n v4 u3))
def fn_J7_fill_d0a16 (m : Nat) (p : Nat) (pn : Nat) (x0 : Int64) (u0 : xm_Y) : Option (Unit × xm_Y) :=
  xm_let (α := Int32) ((Int32.ofNat pn)) fun v1 =>
  ((lp_J7_fill_d0a16_6 m p pn x0 v1 m (0 : Int32) u0).bind fun q5 =>
  some ((), q5.2))
theorem el_J7_fill_d0a16_6 (m : Nat) (a0 : Nat) (n0 : Nat) (c1 : Int64) (c4 : Int32) (ha0 : xsh_ a0 14 n0) (K : Int32 × xm_Y → Option (Unit × xm_Y)) (kE : ∀ q : Int32 × xm_Y, xs_ (fun _ : Unit => none) sg_0 mt_J7_fill_d0a16 22 [none, none, none, none, none] [] q.2 0 0 (K q)) : ∀ (n : Nat) (l3 : Int32) (u0 : xm_Y), xs_ (fun _ : Unit => none) sg_0 mt_J7_fill_d0a16 6 [some (.ref a0), some (.long c1), none, some (.int l3), some (.int c4)] [] u0 0 0 ((lp_J7_fill_d0a16_6 m a0 n0 c1 c4 n l3 u0).bind K) := by
  intro n
  induction n with
  | zero =>
    intro l3 u0
    exact xs_none
  | succ n ih =>
    intro l3 u0
    rw [lp_J7_fill_d0a16_6]
    refine xs_iload_n (n := 7) dJ7_fill_d0a16_6 rfl rfl ?_
    refine xs_iload (n := 9) dJ7_fill_d0a16_7 rfl rfl ?_
    refine xs_icmp_ge (n := 12) (tgt := 22) dJ7_fill_d0a16_9 rfl rfl (fun hc2 => ?_) (fun hc2 => ?_)
    · exact xs_gf (xs_end (kE (l3, u0))) trivial
    · refine xs_aload_n (n := 13) dJ7_fill_d0a16_12 rfl rfl ?_
      refine xs_iload_n (n := 14) dJ7_fill_d0a16_13 rfl rfl ?_
      refine xs_lload_n (n := 15) dJ7_fill_d0a16_14 rfl rfl ?_
      refine ys_lastore (n := 16) dJ7_fill_d0a16_15 rfl ha0 (fun u3 => ?_)
      refine xs_iincl (n := 19) (dv := (1 : Int32)) (fun v4 => [some (.ref a0), some (.long c1), none, some (.int v4), some (.int c4)]) dJ7_fill_d0a16_16 rfl rfl rfl (Nat.le_of_ble_eq_true rfl) (fun _ => rfl) (fun v4 => ?_)
      refine xs_goto (n := 6) dJ7_fill_d0a16_19 rfl ?_
      exact xs_gf (ih v4 u3) (And.intro rfl (And.intro rfl (And.intro rfl (And.intro rfl trivial))))
theorem en_J7_fill_d0a16 (m : Nat) (p : Nat) (pn : Nat) (x0 : Int64) (hp_ : xsh_ p 14 pn) (u0 : xm_Y) : xs_ (fun _ : Unit => none) sg_0 mt_J7_fill_d0a16 0 [some (.ref p), some (.long x0), none, none, none] [] u0 0 0 (fn_J7_fill_d0a16 m p pn x0 u0) := by
  refine xs_top ?_
  rw [fn_J7_fill_d0a16]
  refine xs_iconst (n := 1) (v := (0 : Int32)) dJ7_fill_d0a16_0 rfl rfl ?_
  refine xs_istore_n (n := 2) (lv' := [some (.ref p), some (.long x0), none, some (.int (0 : Int32)), none]) dJ7_fill_d0a16_1 rfl (Nat.le_of_ble_eq_true rfl) rfl ?_
  refine xs_aload_n (n := 3) dJ7_fill_d0a16_2 rfl rfl ?_
  refine ys_alen14 (n := 4) dJ7_fill_d0a16_3 rfl hp_ ?_
  refine xs_leti (fun v1 => ?_)
  refine xs_istore (n := 6) (lv' := [some (.ref p), some (.long x0), none, some (.int (0 : Int32)), some (.int v1)]) dJ7_fill_d0a16_4 rfl (Nat.le_of_ble_eq_true rfl) rfl ?_
  refine xs_reg ?_
  refine xs_fg (lv' := [some (.ref p), some (.long x0), none, some (.int (0 : Int32)), some (.int v1)]) (And.intro rfl (And.intro rfl (And.intro rfl (And.intro rfl trivial)))) ?_
  refine el_J7_fill_d0a16_6 m p pn x0 v1 hp_ _ (fun q5 => ?_) m (0 : Int32) u0
  exact xs_vret dJ7_fill_d0a16_22 rfl rfl
def lp_J7_fill_53178_5 (m : Nat) (a0 : Nat) (n0 : Nat) (c1 : Int32) (c3 : Int32) : Nat → Int32 → xm_Y → Option (Int32 × xm_Y)
  | 0, _, _ => none
  | n + 1, l2, u0 =>
  if c3 ≤ l2 then (
  some (l2, u0)) else (
  xm_chk (xm_in l2 n0) (xm_let (w_I u0 a0 (Int32.toNatClampNeg l2) c1) fun u3 =>
  xm_let (α := Int32) (l2 + (1 : Int32)) fun v4 =>
  lp_J7_fill_53178_5 m a0 n0 c1 c3 n v4 u3))
def fn_J7_fill_53178 (m : Nat) (p : Nat) (pn : Nat) (x0 : Int32) (u0 : xm_Y) : Option (Unit × xm_Y) :=
  xm_let (α := Int32) ((Int32.ofNat pn)) fun v1 =>
  ((lp_J7_fill_53178_5 m p pn x0 v1 m (0 : Int32) u0).bind fun q5 =>
  some ((), q5.2))
theorem el_J7_fill_53178_5 (m : Nat) (a0 : Nat) (n0 : Nat) (c1 : Int32) (c3 : Int32) (ha0 : xsh_ a0 13 n0) (K : Int32 × xm_Y → Option (Unit × xm_Y)) (kE : ∀ q : Int32 × xm_Y, xs_ (fun _ : Unit => none) sg_0 mt_J7_fill_53178 20 [none, none, none, none] [] q.2 0 0 (K q)) : ∀ (n : Nat) (l2 : Int32) (u0 : xm_Y), xs_ (fun _ : Unit => none) sg_0 mt_J7_fill_53178 5 [some (.ref a0), some (.int c1), some (.int l2), some (.int c3)] [] u0 0 0 ((lp_J7_fill_53178_5 m a0 n0 c1 c3 n l2 u0).bind K) := by
  intro n
  induction n with
  | zero =>
    intro l2 u0
    exact xs_none
  | succ n ih =>
    intro l2 u0
    rw [lp_J7_fill_53178_5]
    refine xs_iload_n (n := 6) dJ7_fill_53178_5 rfl rfl ?_
    refine xs_iload_n (n := 7) dJ7_fill_53178_6 rfl rfl ?_
    refine xs_icmp_ge (n := 10) (tgt := 20) dJ7_fill_53178_7 rfl rfl (fun hc2 => ?_) (fun hc2 => ?_)
    · exact xs_gf (xs_end (kE (l2, u0))) trivial
    · refine xs_aload_n (n := 11) dJ7_fill_53178_10 rfl rfl ?_
      refine xs_iload_n (n := 12) dJ7_fill_53178_11 rfl rfl ?_
      refine xs_iload_n (n := 13) dJ7_fill_53178_12 rfl rfl ?_
      refine ys_iastore (n := 14) dJ7_fill_53178_13 rfl ha0 (fun u3 => ?_)
      refine xs_iincl (n := 17) (dv := (1 : Int32)) (fun v4 => [some (.ref a0), some (.int c1), some (.int v4), some (.int c3)]) dJ7_fill_53178_14 rfl rfl rfl (Nat.le_of_ble_eq_true rfl) (fun _ => rfl) (fun v4 => ?_)
      refine xs_goto (n := 5) dJ7_fill_53178_17 rfl ?_
      exact xs_gf (ih v4 u3) (And.intro rfl (And.intro rfl (And.intro rfl (And.intro rfl trivial))))
theorem en_J7_fill_53178 (m : Nat) (p : Nat) (pn : Nat) (x0 : Int32) (hp_ : xsh_ p 13 pn) (u0 : xm_Y) : xs_ (fun _ : Unit => none) sg_0 mt_J7_fill_53178 0 [some (.ref p), some (.int x0), none, none] [] u0 0 0 (fn_J7_fill_53178 m p pn x0 u0) := by
  refine xs_top ?_
  rw [fn_J7_fill_53178]
  refine xs_iconst (n := 1) (v := (0 : Int32)) dJ7_fill_53178_0 rfl rfl ?_
  refine xs_istore_n (n := 2) (lv' := [some (.ref p), some (.int x0), some (.int (0 : Int32)), none]) dJ7_fill_53178_1 rfl (Nat.le_of_ble_eq_true rfl) rfl ?_
  refine xs_aload_n (n := 3) dJ7_fill_53178_2 rfl rfl ?_
  refine ys_alen13 (n := 4) dJ7_fill_53178_3 rfl hp_ ?_
  refine xs_leti (fun v1 => ?_)
  refine xs_istore_n (n := 5) (lv' := [some (.ref p), some (.int x0), some (.int (0 : Int32)), some (.int v1)]) dJ7_fill_53178_4 rfl (Nat.le_of_ble_eq_true rfl) rfl ?_
  refine xs_reg ?_
  refine xs_fg (lv' := [some (.ref p), some (.int x0), some (.int (0 : Int32)), some (.int v1)]) (And.intro rfl (And.intro rfl (And.intro rfl (And.intro rfl trivial)))) ?_
  refine el_J7_fill_53178_5 m p pn x0 v1 hp_ _ (fun q5 => ?_) m (0 : Int32) u0
  exact xs_vret dJ7_fill_53178_20 rfl rfl
def fn_J9_floorDiv_f86c9 (m : Nat) (x0 : Int64) (x1 : Int64) (u0 : xm_Y) : Option (Int64 × xm_Y) :=
  xm_chk (¬ x1 = 0) (
  xm_let (α := Int64) ((x0 / x1)) fun v1 =>
  if (0 : Int64) ≤ (x0 ^^^ x1) then (
  some (v1, u0)) else (
  if (v1 * x1) = x0 then (
  some (v1, u0)) else (
  some ((v1 - (1 : Int64)), u0))))
theorem en_J9_floorDiv_f86c9 (m : Nat) (x0 : Int64) (x1 : Int64) (u0 : xm_Y) : xs_ (fun x : Int64 => some (.long x)) sg_0 mt_J9_floorDiv_f86c9 0 [some (.long x0), none, some (.long x1), none, none, none] [] u0 0 0 (fn_J9_floorDiv_f86c9 m x0 x1 u0) := by
  refine xs_top ?_
  rw [fn_J9_floorDiv_f86c9]
  refine xs_lload_n (n := 1) dJ9_floorDiv_f86c9_0 rfl rfl ?_
  refine xs_lload_n (n := 2) dJ9_floorDiv_f86c9_1 rfl rfl ?_
  refine xs_ldiv (n := 3) dJ9_floorDiv_f86c9_2 rfl (fun _ => ?_)
  refine xs_letl (fun v1 => ?_)
  refine xs_lstore (n := 5) (lv' := [some (.long x0), none, some (.long x1), none, some (.long v1), none]) dJ9_floorDiv_f86c9_3 rfl (Nat.le_of_ble_eq_true rfl) rfl ?_
  refine xs_lload_n (n := 6) dJ9_floorDiv_f86c9_5 rfl rfl ?_
  refine xs_lload_n (n := 7) dJ9_floorDiv_f86c9_6 rfl rfl ?_
  refine xs_lxor (n := 8) dJ9_floorDiv_f86c9_7 rfl ?_
  refine xs_lconst (n := 9) (v := (0 : Int64)) dJ9_floorDiv_f86c9_8 rfl rfl ?_
  refine xs_lif_ge (n := 13) (pc1 := 10) (tgt := 27) dJ9_floorDiv_f86c9_9 rfl dJ9_floorDiv_f86c9_10 rfl rfl (fun hc2 => ?_) (fun hc2 => ?_)
  · refine xs_lload (n := 29) dJ9_floorDiv_f86c9_27 rfl rfl ?_
    exact xs_lret dJ9_floorDiv_f86c9_29 rfl rfl
  · refine xs_lload (n := 15) dJ9_floorDiv_f86c9_13 rfl rfl ?_
    refine xs_lload_n (n := 16) dJ9_floorDiv_f86c9_15 rfl rfl ?_
    refine xs_lmul (n := 17) dJ9_floorDiv_f86c9_16 rfl ?_
    refine xs_lload_n (n := 18) dJ9_floorDiv_f86c9_17 rfl rfl ?_
    refine xs_lif_eq (n := 22) (pc1 := 19) (tgt := 27) dJ9_floorDiv_f86c9_18 rfl dJ9_floorDiv_f86c9_19 rfl rfl (fun hc3 => ?_) (fun hc3 => ?_)
    · refine xs_lload (n := 29) dJ9_floorDiv_f86c9_27 rfl rfl ?_
      exact xs_lret dJ9_floorDiv_f86c9_29 rfl rfl
    · refine xs_lload (n := 24) dJ9_floorDiv_f86c9_22 rfl rfl ?_
      refine xs_lconst (n := 25) (v := (1 : Int64)) dJ9_floorDiv_f86c9_24 rfl rfl ?_
      refine xs_lsub (n := 26) dJ9_floorDiv_f86c9_25 rfl ?_
      exact xs_lret dJ9_floorDiv_f86c9_26 rfl rfl
def fn_J9_floorMod_f86c9 (m : Nat) (x0 : Int64) (x1 : Int64) (u0 : xm_Y) : Option (Int64 × xm_Y) :=
  xm_chk (¬ x1 = 0) (
  xm_let (α := Int64) ((x0 - x0 / x1 * x1)) fun v1 =>
  if (0 : Int64) ≤ (x0 ^^^ x1) then (
  some (v1, u0)) else (
  if v1 = (0 : Int64) then (
  some (v1, u0)) else (
  some ((v1 + x1), u0))))
theorem en_J9_floorMod_f86c9 (m : Nat) (x0 : Int64) (x1 : Int64) (u0 : xm_Y) : xs_ (fun x : Int64 => some (.long x)) sg_0 mt_J9_floorMod_f86c9 0 [some (.long x0), none, some (.long x1), none, none, none] [] u0 0 0 (fn_J9_floorMod_f86c9 m x0 x1 u0) := by
  refine xs_top ?_
  rw [fn_J9_floorMod_f86c9]
  refine xs_lload_n (n := 1) dJ9_floorMod_f86c9_0 rfl rfl ?_
  refine xs_lload_n (n := 2) dJ9_floorMod_f86c9_1 rfl rfl ?_
  refine xs_lrem (n := 3) dJ9_floorMod_f86c9_2 rfl (fun _ => ?_)
  refine xs_letl (fun v1 => ?_)
  refine xs_lstore (n := 5) (lv' := [some (.long x0), none, some (.long x1), none, some (.long v1), none]) dJ9_floorMod_f86c9_3 rfl (Nat.le_of_ble_eq_true rfl) rfl ?_
  refine xs_lload_n (n := 6) dJ9_floorMod_f86c9_5 rfl rfl ?_
  refine xs_lload_n (n := 7) dJ9_floorMod_f86c9_6 rfl rfl ?_
  refine xs_lxor (n := 8) dJ9_floorMod_f86c9_7 rfl ?_
  refine xs_lconst (n := 9) (v := (0 : Int64)) dJ9_floorMod_f86c9_8 rfl rfl ?_
  refine xs_lif_ge (n := 13) (pc1 := 10) (tgt := 25) dJ9_floorMod_f86c9_9 rfl dJ9_floorMod_f86c9_10 rfl rfl (fun hc2 => ?_) (fun hc2 => ?_)
  · refine xs_lload (n := 27) dJ9_floorMod_f86c9_25 rfl rfl ?_
    exact xs_lret dJ9_floorMod_f86c9_27 rfl rfl
  · refine xs_lload (n := 15) dJ9_floorMod_f86c9_13 rfl rfl ?_
    refine xs_lconst (n := 16) (v := (0 : Int64)) dJ9_floorMod_f86c9_15 rfl rfl ?_
    refine xs_lif_eq (n := 20) (pc1 := 17) (tgt := 25) dJ9_floorMod_f86c9_16 rfl dJ9_floorMod_f86c9_17 rfl rfl (fun hc3 => ?_) (fun hc3 => ?_)
    · refine xs_lload (n := 27) dJ9_floorMod_f86c9_25 rfl rfl ?_
      exact xs_lret dJ9_floorMod_f86c9_27 rfl rfl
    · refine xs_lload (n := 22) dJ9_floorMod_f86c9_20 rfl rfl ?_
      refine xs_lload_n (n := 23) dJ9_floorMod_f86c9_22 rfl rfl ?_
      refine xs_ladd (n := 24) dJ9_floorMod_f86c9_23 rfl ?_
      exact xs_lret dJ9_floorMod_f86c9_24 rfl rfl
def fn_J9_abs_0f7a4 (m : Nat) (x0 : Int32) (u0 : xm_Y) : Option (Int32 × xm_Y) :=
  ((if 0 ≤ x0 then (
  some (x0)) else (
  some ((-x0))) : Option (Int32)).bind fun q1 =>
  some (q1, u0))
theorem en_J9_abs_0f7a4 (m : Nat) (x0 : Int32) (u0 : xm_Y) : xs_ (fun x : Int32 => some (.int x)) sg_0 mt_J9_abs_0f7a4 0 [some (.int x0)] [] u0 0 0 (fn_J9_abs_0f7a4 m x0 u0) := by
  refine xs_top ?_
  rw [fn_J9_abs_0f7a4]
  refine xs_iload_n (n := 1) dJ9_abs_0f7a4_0 rfl rfl ?_
  refine xs_join 10 (fun q1 => [none]) (fun q1 => [.int q1]) (fun q1 => u0) (fun q1 => ?_) (fun kj2 => ?_)
  · exact xs_iret dJ9_abs_0f7a4_10 rfl rfl
  · refine xs_if_ge (n := 4) (tgt := 9) dJ9_abs_0f7a4_1 rfl rfl (fun hc3 => ?_) (fun hc3 => ?_)
    · refine xs_iload_n (n := 10) dJ9_abs_0f7a4_9 rfl rfl ?_
      exact xs_gf (xs_end (kj2 (x0))) trivial
    · refine xs_iload_n (n := 5) dJ9_abs_0f7a4_4 rfl rfl ?_
      refine xs_ineg (n := 6) dJ9_abs_0f7a4_5 rfl ?_
      refine xs_goto (n := 10) dJ9_abs_0f7a4_6 rfl ?_
      exact xs_gf (xs_end (kj2 ((-x0)))) trivial
def fn_J9_abs_067f4 (m : Nat) (x0 : Int64) (u0 : xm_Y) : Option (Int64 × xm_Y) :=
  ((if (0 : Int64) ≤ x0 then (
  some (x0)) else (
  some ((-x0))) : Option (Int64)).bind fun q1 =>
  some (q1, u0))
theorem en_J9_abs_067f4 (m : Nat) (x0 : Int64) (u0 : xm_Y) : xs_ (fun x : Int64 => some (.long x)) sg_0 mt_J9_abs_067f4 0 [some (.long x0), none] [] u0 0 0 (fn_J9_abs_067f4 m x0 u0) := by
  refine xs_top ?_
  rw [fn_J9_abs_067f4]
  refine xs_lload_n (n := 1) dJ9_abs_067f4_0 rfl rfl ?_
  refine xs_lconst (n := 2) (v := (0 : Int64)) dJ9_abs_067f4_1 rfl rfl ?_
  refine xs_join 12 (fun q1 => [none, none]) (fun q1 => [.long q1]) (fun q1 => u0) (fun q1 => ?_) (fun kj2 => ?_)
  · exact xs_lret dJ9_abs_067f4_12 rfl rfl
  · refine xs_lif_ge (n := 6) (pc1 := 3) (tgt := 11) dJ9_abs_067f4_2 rfl dJ9_abs_067f4_3 rfl rfl (fun hc3 => ?_) (fun hc3 => ?_)
    · refine xs_lload_n (n := 12) dJ9_abs_067f4_11 rfl rfl ?_
      exact xs_gf (xs_end (kj2 (x0))) trivial
    · refine xs_lload_n (n := 7) dJ9_abs_067f4_6 rfl rfl ?_
      refine xs_lneg (n := 8) dJ9_abs_067f4_7 rfl ?_
      refine xs_goto (n := 12) dJ9_abs_067f4_8 rfl ?_
      exact xs_gf (xs_end (kj2 ((-x0)))) trivial
def fn_J9_max_f86c9 (m : Nat) (x0 : Int64) (x1 : Int64) (u0 : xm_Y) : Option (Int64 × xm_Y) :=
  ((if x0 < x1 then (
  some (x1)) else (
  some (x0)) : Option (Int64)).bind fun q1 =>
  some (q1, u0))
theorem en_J9_max_f86c9 (m : Nat) (x0 : Int64) (x1 : Int64) (u0 : xm_Y) : xs_ (fun x : Int64 => some (.long x)) sg_0 mt_J9_max_f86c9 0 [some (.long x0), none, some (.long x1), none] [] u0 0 0 (fn_J9_max_f86c9 m x0 x1 u0) := by
  refine xs_top ?_
  rw [fn_J9_max_f86c9]
  refine xs_lload_n (n := 1) dJ9_max_f86c9_0 rfl rfl ?_
  refine xs_lload_n (n := 2) dJ9_max_f86c9_1 rfl rfl ?_
  refine xs_join 11 (fun q1 => [none, none, none, none]) (fun q1 => [.long q1]) (fun q1 => u0) (fun q1 => ?_) (fun kj2 => ?_)
  · exact xs_lret dJ9_max_f86c9_11 rfl rfl
  · refine xs_lif_lt (n := 6) (pc1 := 3) (tgt := 10) dJ9_max_f86c9_2 rfl dJ9_max_f86c9_3 rfl rfl (fun hc3 => ?_) (fun hc3 => ?_)
    · refine xs_lload_n (n := 11) dJ9_max_f86c9_10 rfl rfl ?_
      exact xs_gf (xs_end (kj2 (x1))) trivial
    · refine xs_lload_n (n := 7) dJ9_max_f86c9_6 rfl rfl ?_
      refine xs_goto (n := 11) dJ9_max_f86c9_7 rfl ?_
      exact xs_gf (xs_end (kj2 (x0))) trivial
def fn_J9_min_f86c9 (m : Nat) (x0 : Int64) (x1 : Int64) (u0 : xm_Y) : Option (Int64 × xm_Y) :=
  ((if x1 < x0 then (
  some (x1)) else (
  some (x0)) : Option (Int64)).bind fun q1 =>
  some (q1, u0))
theorem en_J9_min_f86c9 (m : Nat) (x0 : Int64) (x1 : Int64) (u0 : xm_Y) : xs_ (fun x : Int64 => some (.long x)) sg_0 mt_J9_min_f86c9 0 [some (.long x0), none, some (.long x1), none] [] u0 0 0 (fn_J9_min_f86c9 m x0 x1 u0) := by
  refine xs_top ?_
  rw [fn_J9_min_f86c9]
  refine xs_lload_n (n := 1) dJ9_min_f86c9_0 rfl rfl ?_
  refine xs_lload_n (n := 2) dJ9_min_f86c9_1 rfl rfl ?_
  refine xs_join 11 (fun q1 => [none, none, none, none]) (fun q1 => [.long q1]) (fun q1 => u0) (fun q1 => ?_) (fun kj2 => ?_)
  · exact xs_lret dJ9_min_f86c9_11 rfl rfl
  · refine xs_lif_gt (n := 6) (pc1 := 3) (tgt := 10) dJ9_min_f86c9_2 rfl dJ9_min_f86c9_3 rfl rfl (fun hc3 => ?_) (fun hc3 => ?_)
    · refine xs_lload_n (n := 11) dJ9_min_f86c9_10 rfl rfl ?_
      exact xs_gf (xs_end (kj2 (x1))) trivial
    · refine xs_lload_n (n := 7) dJ9_min_f86c9_6 rfl rfl ?_
      refine xs_goto (n := 11) dJ9_min_f86c9_7 rfl ?_
      exact xs_gf (xs_end (kj2 (x0))) trivial
def lp_X0_put_6 (m : Nat) (a0 : Nat) (c2 : Int32) : Nat → Int32 → Int32 → xm_Y → Option (Int32 × Int32 × xm_Y)
  | 0, _, _, _ => none
  | n + 1, l4, l5, u0 =>
  if l5 < 0 then (
  some (l4, l5, u0)) else (
  ((if c2 ≤ l5 then (
  some ((0 : Int32))) else (
  xm_chk (¬ (41 : Int32) = 0) (
  some (((l4 - l4 / (41 : Int32) * (41 : Int32)) - (20 : Int32))))) : Option (Int32)).bind fun q2 =>
  xm_chk (xm_in l5 3) (xm_let (w_I u0 (a0 + 1) (Int32.toNatClampNeg l5) q2) fun u5 =>
  xm_chk (¬ (41 : Int32) = 0) (
  xm_let (α := Int32) ((l4 / (41 : Int32))) fun v6 =>
  xm_let (α := Int32) (l5 + (-1 : Int32)) fun v7 =>
  lp_X0_put_6 m a0 c2 n v6 v7 u5))))
def fn_X0_put (m : Nat) (a : Nat) (x0 : Int32) (x1 : Int32) (x2 : Int32) (u0 : xm_Y) : Option (Unit × xm_Y) :=
  ((lp_X0_put_6 m a x1 m x0 (2 : Int32) u0).bind fun q8 =>
  xm_let (w_I q8.2.2 a 1 x2) fun u9 =>
  some ((), u9))
theorem el_X0_put_6 (m : Nat) (a0 : Nat) (c2 : Int32) (c3 : Int32) (ha0 : af_ok a0) (K : Int32 × Int32 × xm_Y → Option (Unit × xm_Y)) (kE : ∀ q : Int32 × Int32 × xm_Y, xs_ (fun _ : Unit => none) sg_0 mt_X0_put 49 [some (.ref a0), none, none, some (.int c3), none, none] [] q.2.2 0 0 (K q)) : ∀ (n : Nat) (l4 : Int32) (l5 : Int32) (u0 : xm_Y), xs_ (fun _ : Unit => none) sg_0 mt_X0_put 6 [some (.ref a0), none, some (.int c2), some (.int c3), some (.int l4), some (.int l5)] [] u0 0 0 ((lp_X0_put_6 m a0 c2 n l4 l5 u0).bind K) := by
  intro n
  induction n with
  | zero =>
    intro l4 l5 u0
    exact xs_none
  | succ n ih =>
    intro l4 l5 u0
    rw [lp_X0_put_6]
    refine xs_iload (n := 8) dX0_put_6 rfl rfl ?_
    refine xs_if_lt (n := 11) (tgt := 49) dX0_put_8 rfl rfl (fun hc1 => ?_) (fun hc1 => ?_)
    · exact xs_gf (xs_end (kE (l4, l5, u0))) (And.intro rfl (And.intro rfl trivial))
    · refine xs_aload_n (n := 12) dX0_put_11 rfl rfl ?_
      refine ys_getr (n := 15) dX0_put_12 rfl fl_X0_9 ha0.1 ha0.2.1 ?_
      refine xs_iload (n := 17) dX0_put_15 rfl rfl ?_
      refine xs_iload (n := 19) dX0_put_17 rfl rfl ?_
      refine xs_iload_n (n := 20) dX0_put_19 rfl rfl ?_
      refine xs_join 35 (fun q2 => [some (.ref a0), none, some (.int c2), some (.int c3), some (.int l4), some (.int l5)]) (fun q2 => [.int q2, .int l5, .ref (a0 + 1)]) (fun q2 => u0) (fun q2 => ?_) (fun kj3 => ?_)
      · refine ys_iastore (n := 36) dX0_put_35 rfl ha0.2.2 (fun u5 => ?_)
        refine xs_iload (n := 38) dX0_put_36 rfl rfl ?_
        refine xs_bipush (n := 40) (v := (41 : Int32)) dX0_put_38 rfl rfl ?_
        refine xs_idiv (n := 41) dX0_put_40 rfl (fun _ => ?_)
        refine xs_leti (fun v6 => ?_)
        refine xs_istore (n := 43) (lv' := [some (.ref a0), none, some (.int c2), some (.int c3), some (.int v6), some (.int l5)]) dX0_put_41 rfl (Nat.le_of_ble_eq_true rfl) rfl ?_
        refine xs_iincl (n := 46) (dv := (-1 : Int32)) (fun v7 => [some (.ref a0), none, some (.int c2), some (.int c3), some (.int v6), some (.int v7)]) dX0_put_43 rfl rfl rfl (Nat.le_of_ble_eq_true rfl) (fun _ => rfl) (fun v7 => ?_)
        refine xs_goto (n := 6) dX0_put_46 rfl ?_
        exact xs_gf (ih v6 v7 u5) (And.intro rfl (And.intro rfl (And.intro rfl (And.intro rfl (And.intro rfl trivial)))))
      · refine xs_icmp_ge (n := 23) (tgt := 34) dX0_put_20 rfl rfl (fun hc4 => ?_) (fun hc4 => ?_)
        · refine xs_iconst (n := 35) (v := (0 : Int32)) dX0_put_34 rfl rfl ?_
          exact xs_gf (xs_end (kj3 ((0 : Int32)))) (And.intro rfl (And.intro rfl (And.intro rfl (And.intro rfl (And.intro rfl trivial)))))
        · refine xs_iload (n := 25) dX0_put_23 rfl rfl ?_
          refine xs_bipush (n := 27) (v := (41 : Int32)) dX0_put_25 rfl rfl ?_
          refine xs_irem (n := 28) dX0_put_27 rfl (fun _ => ?_)
          refine xs_bipush (n := 30) (v := (20 : Int32)) dX0_put_28 rfl rfl ?_
          refine xs_isub (n := 31) dX0_put_30 rfl ?_
          refine xs_goto (n := 35) dX0_put_31 rfl ?_
          exact xs_gf (xs_end (kj3 (((l4 - l4 / (41 : Int32) * (41 : Int32)) - (20 : Int32))))) (And.intro rfl (And.intro rfl (And.intro rfl (And.intro rfl (And.intro rfl trivial)))))
theorem en_X0_put (m : Nat) (a : Nat) (x0 : Int32) (x1 : Int32) (x2 : Int32) (ha : af_ok a) (u0 : xm_Y) : xs_ (fun _ : Unit => none) sg_0 mt_X0_put 0 [some (.ref a), some (.int x0), some (.int x1), some (.int x2), none, none] [] u0 0 0 (fn_X0_put m a x0 x1 x2 u0) := by
  refine xs_top ?_
  rw [fn_X0_put]
  refine xs_iload_n (n := 1) dX0_put_0 rfl rfl ?_
  refine xs_istore (n := 3) (lv' := [some (.ref a), some (.int x0), some (.int x1), some (.int x2), some (.int x0), none]) dX0_put_1 rfl (Nat.le_of_ble_eq_true rfl) rfl ?_
  refine xs_iconst (n := 4) (v := (2 : Int32)) dX0_put_3 rfl rfl ?_
  refine xs_istore (n := 6) (lv' := [some (.ref a), some (.int x0), some (.int x1), some (.int x2), some (.int x0), some (.int (2 : Int32))]) dX0_put_4 rfl (Nat.le_of_ble_eq_true rfl) rfl ?_
  refine xs_reg ?_
  refine xs_fg (lv' := [some (.ref a), none, some (.int x1), some (.int x2), some (.int x0), some (.int (2 : Int32))]) (And.intro rfl (And.intro rfl (And.intro rfl (And.intro rfl (And.intro rfl trivial))))) ?_
  refine el_X0_put_6 m a x1 x2 ha _ (fun q8 => ?_) m x0 (2 : Int32) u0
  refine xs_aload_n (n := 50) dX0_put_49 rfl rfl ?_
  refine xs_iload_n (n := 51) dX0_put_50 rfl rfl ?_
  refine ys_puti (n := 54) dX0_put_51 rfl fl_X0_15 rfl ha.1 (fun u9 => ?_)
  exact xs_vret dX0_put_54 rfl rfl
def lp_X0_putSame_2 (m : Nat) (a0 : Nat) (c1 : Int32) : Nat → Int32 → xm_Y → Option (Int32 × xm_Y)
  | 0, _, _ => none
  | n + 1, l2, u0 =>
  if (3 : Int32) ≤ l2 then (
  some (l2, u0)) else (
  ((if l2 = c1 then (
  some ((1 : Int32))) else (
  some ((0 : Int32))) : Option (Int32)).bind fun q2 =>
  xm_chk (xm_in l2 3) (xm_let (w_I u0 (a0 + 1) (Int32.toNatClampNeg l2) q2) fun u5 =>
  xm_let (α := Int32) (l2 + (1 : Int32)) fun v6 =>
  lp_X0_putSame_2 m a0 c1 n v6 u5)))
def fn_X0_putSame (m : Nat) (a : Nat) (x0 : Int32) (u0 : xm_Y) : Option (Unit × xm_Y) :=
  ((lp_X0_putSame_2 m a x0 m (0 : Int32) u0).bind fun q7 =>
  xm_let (w_I q7.2 a 1 (0 : Int32)) fun u8 =>
  some ((), u8))
theorem el_X0_putSame_2 (m : Nat) (a0 : Nat) (c1 : Int32) (ha0 : af_ok a0) (K : Int32 × xm_Y → Option (Unit × xm_Y)) (kE : ∀ q : Int32 × xm_Y, xs_ (fun _ : Unit => none) sg_0 mt_X0_putSame 29 [some (.ref a0), none, none] [] q.2 0 0 (K q)) : ∀ (n : Nat) (l2 : Int32) (u0 : xm_Y), xs_ (fun _ : Unit => none) sg_0 mt_X0_putSame 2 [some (.ref a0), some (.int c1), some (.int l2)] [] u0 0 0 ((lp_X0_putSame_2 m a0 c1 n l2 u0).bind K) := by
  intro n
  induction n with
  | zero =>
    intro l2 u0
    exact xs_none
  | succ n ih =>
    intro l2 u0
    rw [lp_X0_putSame_2]
    refine xs_iload_n (n := 3) dX0_putSame_2 rfl rfl ?_
    refine xs_iconst (n := 4) (v := (3 : Int32)) dX0_putSame_3 rfl rfl ?_
    refine xs_icmp_ge (n := 7) (tgt := 29) dX0_putSame_4 rfl rfl (fun hc1 => ?_) (fun hc1 => ?_)
    · exact xs_gf (xs_end (kE (l2, u0))) (And.intro rfl trivial)
    · refine xs_aload_n (n := 8) dX0_putSame_7 rfl rfl ?_
      refine ys_getr (n := 11) dX0_putSame_8 rfl fl_X0_9 ha0.1 ha0.2.1 ?_
      refine xs_iload_n (n := 12) dX0_putSame_11 rfl rfl ?_
      refine xs_iload_n (n := 13) dX0_putSame_12 rfl rfl ?_
      refine xs_iload_n (n := 14) dX0_putSame_13 rfl rfl ?_
      refine xs_join 22 (fun q2 => [some (.ref a0), some (.int c1), some (.int l2)]) (fun q2 => [.int q2, .int l2, .ref (a0 + 1)]) (fun q2 => u0) (fun q2 => ?_) (fun kj3 => ?_)
      · refine ys_iastore (n := 23) dX0_putSame_22 rfl ha0.2.2 (fun u5 => ?_)
        refine xs_iincl (n := 26) (dv := (1 : Int32)) (fun v6 => [some (.ref a0), some (.int c1), some (.int v6)]) dX0_putSame_23 rfl rfl rfl (Nat.le_of_ble_eq_true rfl) (fun _ => rfl) (fun v6 => ?_)
        refine xs_goto (n := 2) dX0_putSame_26 rfl ?_
        exact xs_gf (ih v6 u5) (And.intro rfl (And.intro rfl (And.intro rfl trivial)))
      · refine xs_icmp_ne (n := 17) (tgt := 21) dX0_putSame_14 rfl rfl (fun hc4 => ?_) (fun hc4 => ?_)
        · refine xs_iconst (n := 18) (v := (1 : Int32)) dX0_putSame_17 rfl rfl ?_
          refine xs_goto (n := 22) dX0_putSame_18 rfl ?_
          exact xs_gf (xs_end (kj3 ((1 : Int32)))) (And.intro rfl (And.intro rfl (And.intro rfl trivial)))
        · refine xs_iconst (n := 22) (v := (0 : Int32)) dX0_putSame_21 rfl rfl ?_
          exact xs_gf (xs_end (kj3 ((0 : Int32)))) (And.intro rfl (And.intro rfl (And.intro rfl trivial)))
theorem en_X0_putSame (m : Nat) (a : Nat) (x0 : Int32) (ha : af_ok a) (u0 : xm_Y) : xs_ (fun _ : Unit => none) sg_0 mt_X0_putSame 0 [some (.ref a), some (.int x0), none] [] u0 0 0 (fn_X0_putSame m a x0 u0) := by
  refine xs_top ?_
  rw [fn_X0_putSame]
  refine xs_iconst (n := 1) (v := (0 : Int32)) dX0_putSame_0 rfl rfl ?_
  refine xs_istore_n (n := 2) (lv' := [some (.ref a), some (.int x0), some (.int (0 : Int32))]) dX0_putSame_1 rfl (Nat.le_of_ble_eq_true rfl) rfl ?_
  refine xs_reg ?_
  refine xs_fg (lv' := [some (.ref a), some (.int x0), some (.int (0 : Int32))]) (And.intro rfl (And.intro rfl (And.intro rfl trivial))) ?_
  refine el_X0_putSame_2 m a x0 ha _ (fun q7 => ?_) m (0 : Int32) u0
  refine xs_aload_n (n := 30) dX0_putSame_29 rfl rfl ?_
  refine xs_iconst (n := 31) (v := (0 : Int32)) dX0_putSame_30 rfl rfl ?_
  refine ys_puti (n := 34) dX0_putSame_31 rfl fl_X0_15 rfl ha.1 (fun u8 => ?_)
  exact xs_vret dX0_putSame_34 rfl rfl
def fn_X0_valueAt (m : Nat) (a : Nat) (p : Nat) (u0 : xm_Y) : Option (Int64 × xm_Y) :=
  xm_chk (xm_in (0 : Int32) 3) (
  xm_chk (xm_in (0 : Int32) 3) (
  xm_chk (xm_in (1 : Int32) 3) (
  xm_chk (xm_in (1 : Int32) 3) (
  xm_chk (xm_in (2 : Int32) 3) (
  xm_chk (xm_in (2 : Int32) 3) (
  some ((((((Int32.toInt64 (u0.1 (a + 1) (Int32.toNatClampNeg (0 : Int32)))) * (u0.2 p (Int32.toNatClampNeg (0 : Int32)))) + ((Int32.toInt64 (u0.1 (a + 1) (Int32.toNatClampNeg (1 : Int32)))) * (u0.2 p (Int32.toNatClampNeg (1 : Int32))))) + ((Int32.toInt64 (u0.1 (a + 1) (Int32.toNatClampNeg (2 : Int32)))) * (u0.2 p (Int32.toNatClampNeg (2 : Int32))))) + (Int32.toInt64 (u0.1 a 1))), u0)))))))
theorem en_X0_valueAt (m : Nat) (a : Nat) (p : Nat) (ha : af_ok a) (hp_ : xsh_ p 14 3) (u0 : xm_Y) : xs_ (fun x : Int64 => some (.long x)) sg_0 mt_X0_valueAt 0 [some (.ref a), some (.ref p)] [] u0 0 0 (fn_X0_valueAt m a p u0) := by
  refine xs_top ?_
  rw [fn_X0_valueAt]
  refine xs_aload_n (n := 1) dX0_valueAt_0 rfl rfl ?_
  refine ys_getr (n := 4) dX0_valueAt_1 rfl fl_X0_9 ha.1 ha.2.1 ?_
  refine xs_iconst (n := 5) (v := (0 : Int32)) dX0_valueAt_4 rfl rfl ?_
  refine ys_iaload (n := 6) dX0_valueAt_5 rfl ha.2.2 ?_
  refine xs_i2l (n := 7) dX0_valueAt_6 rfl ?_
  refine xs_aload_n (n := 8) dX0_valueAt_7 rfl rfl ?_
  refine xs_iconst (n := 9) (v := (0 : Int32)) dX0_valueAt_8 rfl rfl ?_
  refine ys_laload (n := 10) dX0_valueAt_9 rfl hp_ ?_
  refine xs_lmul (n := 11) dX0_valueAt_10 rfl ?_
  refine xs_aload_n (n := 12) dX0_valueAt_11 rfl rfl ?_
  refine ys_getr (n := 15) dX0_valueAt_12 rfl fl_X0_9 ha.1 ha.2.1 ?_
  refine xs_iconst (n := 16) (v := (1 : Int32)) dX0_valueAt_15 rfl rfl ?_
  refine ys_iaload (n := 17) dX0_valueAt_16 rfl ha.2.2 ?_
  refine xs_i2l (n := 18) dX0_valueAt_17 rfl ?_
  refine xs_aload_n (n := 19) dX0_valueAt_18 rfl rfl ?_
  refine xs_iconst (n := 20) (v := (1 : Int32)) dX0_valueAt_19 rfl rfl ?_
  refine ys_laload (n := 21) dX0_valueAt_20 rfl hp_ ?_
  refine xs_lmul (n := 22) dX0_valueAt_21 rfl ?_
  refine xs_ladd (n := 23) dX0_valueAt_22 rfl ?_
  refine xs_aload_n (n := 24) dX0_valueAt_23 rfl rfl ?_
  refine ys_getr (n := 27) dX0_valueAt_24 rfl fl_X0_9 ha.1 ha.2.1 ?_
  refine xs_iconst (n := 28) (v := (2 : Int32)) dX0_valueAt_27 rfl rfl ?_
  refine ys_iaload (n := 29) dX0_valueAt_28 rfl ha.2.2 ?_
  refine xs_i2l (n := 30) dX0_valueAt_29 rfl ?_
  refine xs_aload_n (n := 31) dX0_valueAt_30 rfl rfl ?_
  refine xs_iconst (n := 32) (v := (2 : Int32)) dX0_valueAt_31 rfl rfl ?_
  refine ys_laload (n := 33) dX0_valueAt_32 rfl hp_ ?_
  refine xs_lmul (n := 34) dX0_valueAt_33 rfl ?_
  refine xs_ladd (n := 35) dX0_valueAt_34 rfl ?_
  refine xs_aload_n (n := 36) dX0_valueAt_35 rfl rfl ?_
  refine ys_geti (n := 39) dX0_valueAt_36 rfl fl_X0_15 (Or.inl rfl) ha.1 ?_
  refine xs_i2l (n := 40) dX0_valueAt_39 rfl ?_
  refine xs_ladd (n := 41) dX0_valueAt_40 rfl ?_
  exact xs_lret dX0_valueAt_41 rfl rfl
def fn_X2_end (m : Nat) (o : Nat) (x0 : Int32) (x1 : Int32) (u0 : xm_Y) : Option (Int64 × xm_Y) :=
  xm_chk (xm_in (((2 : Int32) * x0) + x1) 6) (
  some ((u0.2 (o + 1) (Int32.toNatClampNeg (((2 : Int32) * x0) + x1))), u0))
theorem en_X2_end (m : Nat) (o : Nat) (x0 : Int32) (x1 : Int32) (ho : bx_ok o) (u0 : xm_Y) : xs_ (fun x : Int64 => some (.long x)) sg_0 mt_X2_end 0 [some (.ref o), some (.int x0), some (.int x1)] [] u0 0 0 (fn_X2_end m o x0 x1 u0) := by
  refine xs_top ?_
  rw [fn_X2_end]
  refine xs_aload_n (n := 1) dX2_end_0 rfl rfl ?_
  refine ys_getr (n := 4) dX2_end_1 rfl fl_X2_9 ho.1 ho.2.1 ?_
  refine xs_iconst (n := 5) (v := (2 : Int32)) dX2_end_4 rfl rfl ?_
  refine xs_iload_n (n := 6) dX2_end_5 rfl rfl ?_
  refine xs_imul (n := 7) dX2_end_6 rfl ?_
  refine xs_iload_n (n := 8) dX2_end_7 rfl rfl ?_
  refine xs_iadd (n := 9) dX2_end_8 rfl ?_
  refine ys_laload (n := 10) dX2_end_9 rfl ho.2.2 ?_
  exact xs_lret dX2_end_10 rfl rfl
def lp_X0_farthest_9 (m : Nat) (a0 : Nat) (a1 : Nat) (c2 : Int32) : Nat → Int64 → Int32 → xm_Y → Option ((Int64 × xm_Y) ⊕ (Int64 × Int32 × xm_Y))
  | 0, _, _, _ => none
  | n + 1, l3, l5, u0 =>
  if (3 : Int32) ≤ l5 then (
  some (.inr (l3, l5, u0))) else (
  xm_chk (xm_in l5 3) (
  if (u0.1 (a0 + 1) (Int32.toNatClampNeg l5)) = 0 then (
  xm_let (α := Int32) (l5 + (1 : Int32)) fun v4 =>
  lp_X0_farthest_9 m a0 a1 c2 n l3 v4 u0) else (
  xm_chk (xm_in l5 3) (
  ((if (u0.1 (a0 + 1) (Int32.toNatClampNeg l5)) ≤ 0 then (
  some (((1 : Int32) - c2))) else (
  some (c2)) : Option (Int32)).bind fun q5 =>
  ((fn_X2_end m a1 l5 q5 u0).bind fun q8 =>
  if q8.1 = (-3000000000000 : Int64) then (
  some (.inl ((-3000000000000 : Int64), q8.2))) else (
  xm_chk (xm_in l5 3) (
  xm_let (α := Int64) ((l3 + ((Int32.toInt64 (q8.2.1 (a0 + 1) (Int32.toNatClampNeg l5))) * q8.1))) fun v10 =>
  xm_let (α := Int32) (l5 + (1 : Int32)) fun v11 =>
  lp_X0_farthest_9 m a0 a1 c2 n v10 v11 q8.2))))))))
def fn_X0_farthest (m : Nat) (a : Nat) (o : Nat) (x0 : Int32) (u0 : xm_Y) : Option (Int64 × xm_Y) :=
  xm_let (α := Int64) ((Int32.toInt64 (u0.1 a 1))) fun v1 =>
  ((lp_X0_farthest_9 m a o x0 m v1 (0 : Int32) u0).bind (Sum.elim (fun r => some r) (fun q12 =>
  some (q12.1, q12.2.2))))
theorem el_X0_farthest_9 (m : Nat) (a0 : Nat) (a1 : Nat) (c2 : Int32) (ha0 : af_ok a0) (ha1 : bx_ok a1) (K : (Int64 × xm_Y) ⊕ (Int64 × Int32 × xm_Y) → Option (Int64 × xm_Y)) (hK : ∀ r, K (.inl r) = some r) (kE : ∀ q : Int64 × Int32 × xm_Y, xs_ (fun x : Int64 => some (.long x)) sg_0 mt_X0_farthest 83 [none, none, none, some (.long q.1), none, none, none, none] [] q.2.2 0 0 (K (.inr q))) : ∀ (n : Nat) (l3 : Int64) (l5 : Int32) (u0 : xm_Y), xs_ (fun x : Int64 => some (.long x)) sg_0 mt_X0_farthest 9 [some (.ref a0), some (.ref a1), some (.int c2), some (.long l3), none, some (.int l5), none, none] [] u0 0 0 ((lp_X0_farthest_9 m a0 a1 c2 n l3 l5 u0).bind K) := by
  intro n
  induction n with
  | zero =>
    intro l3 l5 u0
    exact xs_none
  | succ n ih =>
    intro l3 l5 u0
    rw [lp_X0_farthest_9]
    refine xs_iload (n := 11) dX0_farthest_9 rfl rfl ?_
    refine xs_iconst (n := 12) (v := (3 : Int32)) dX0_farthest_11 rfl rfl ?_
    refine xs_icmp_ge (n := 15) (tgt := 83) dX0_farthest_12 rfl rfl (fun hc2 => ?_) (fun hc2 => ?_)
    · exact xs_gf (xs_end (kE (l3, l5, u0))) (And.intro rfl trivial)
    · refine xs_aload_n (n := 16) dX0_farthest_15 rfl rfl ?_
      refine ys_getr (n := 19) dX0_farthest_16 rfl fl_X0_9 ha0.1 ha0.2.1 ?_
      refine xs_iload (n := 21) dX0_farthest_19 rfl rfl ?_
      refine ys_iaload (n := 22) dX0_farthest_21 rfl ha0.2.2 ?_
      refine xs_if_eq (n := 25) (tgt := 77) dX0_farthest_22 rfl rfl (fun hc3 => ?_) (fun hc3 => ?_)
      · refine xs_iincl (n := 80) (dv := (1 : Int32)) (fun v4 => [some (.ref a0), some (.ref a1), some (.int c2), some (.long l3), none, some (.int v4), none, none]) dX0_farthest_77 rfl rfl rfl (Nat.le_of_ble_eq_true rfl) (fun _ => rfl) (fun v4 => ?_)
        refine xs_goto (n := 9) dX0_farthest_80 rfl ?_
        exact xs_gf (ih l3 v4 u0) (And.intro rfl (And.intro rfl (And.intro rfl (And.intro rfl (And.intro rfl trivial)))))
      · refine xs_aload_n (n := 26) dX0_farthest_25 rfl rfl ?_
        refine xs_iload (n := 28) dX0_farthest_26 rfl rfl ?_
        refine xs_aload_n (n := 29) dX0_farthest_28 rfl rfl ?_
        refine ys_getr (n := 32) dX0_farthest_29 rfl fl_X0_9 ha0.1 ha0.2.1 ?_
        refine xs_iload (n := 34) dX0_farthest_32 rfl rfl ?_
        refine ys_iaload (n := 35) dX0_farthest_34 rfl ha0.2.2 ?_
        refine xs_join 45 (fun q5 => [some (.ref a0), some (.ref a1), some (.int c2), some (.long l3), none, some (.int l5), none, none]) (fun q5 => [.int q5, .int l5, .ref a1]) (fun q5 => u0) (fun q5 => ?_) (fun kj6 => ?_)
        · refine ys_callvl (n := 48) (N := mt_X2_end) dX0_farthest_45 rfl ok_X2_end tw_742 im_X2_end se_X2_end ⟨Nat.le_of_ble_eq_true rfl, Nat.le_of_ble_eq_true rfl⟩ [.int l5, .int q5] [] rfl rfl (Nat.le_of_ble_eq_true rfl) rfl (Nat.le_of_ble_eq_true rfl) (en_X2_end m a1 l5 q5 ha1 u0) ha1.1 (by decide) rfl (fun q8 => ?_)
          refine xs_lstore (n := 50) (lv' := [some (.ref a0), some (.ref a1), some (.int c2), some (.long l3), none, some (.int l5), some (.long q8.1), none]) dX0_farthest_48 rfl (Nat.le_of_ble_eq_true rfl) rfl ?_
          refine xs_lload (n := 52) dX0_farthest_50 rfl rfl ?_
          refine xs_ldc2 (n := 55) (v := (-3000000000000 : Int64)) dX0_farthest_52 rfl tw_743 ?_
          refine xs_lif_ne (n := 59) (pc1 := 56) (tgt := 63) dX0_farthest_55 rfl dX0_farthest_56 rfl rfl (fun hc9 => ?_) (fun hc9 => ?_)
          · refine xs_ldc2 (n := 62) (v := (-3000000000000 : Int64)) dX0_farthest_59 rfl tw_743 ?_
            exact xs_lret dX0_farthest_62 rfl (hK _)
          · refine xs_lload_n (n := 64) dX0_farthest_63 rfl rfl ?_
            refine xs_aload_n (n := 65) dX0_farthest_64 rfl rfl ?_
            refine ys_getr (n := 68) dX0_farthest_65 rfl fl_X0_9 ha0.1 ha0.2.1 ?_
            refine xs_iload (n := 70) dX0_farthest_68 rfl rfl ?_
            refine ys_iaload (n := 71) dX0_farthest_70 rfl ha0.2.2 ?_
            refine xs_i2l (n := 72) dX0_farthest_71 rfl ?_
            refine xs_lload (n := 74) dX0_farthest_72 rfl rfl ?_
            refine xs_lmul (n := 75) dX0_farthest_74 rfl ?_
            refine xs_ladd (n := 76) dX0_farthest_75 rfl ?_
            refine xs_letl (fun v10 => ?_)
            refine xs_lstore_n (n := 77) (lv' := [some (.ref a0), some (.ref a1), some (.int c2), some (.long v10), none, some (.int l5), some (.long q8.1), none]) dX0_farthest_76 rfl (Nat.le_of_ble_eq_true rfl) rfl ?_
            refine xs_iincl (n := 80) (dv := (1 : Int32)) (fun v11 => [some (.ref a0), some (.ref a1), some (.int c2), some (.long v10), none, some (.int v11), some (.long q8.1), none]) dX0_farthest_77 rfl rfl rfl (Nat.le_of_ble_eq_true rfl) (fun _ => rfl) (fun v11 => ?_)
            refine xs_goto (n := 9) dX0_farthest_80 rfl ?_
            exact xs_gf (ih v10 v11 q8.2) (And.intro rfl (And.intro rfl (And.intro rfl (And.intro rfl (And.intro rfl trivial)))))
        · refine xs_if_le (n := 38) (tgt := 42) dX0_farthest_35 rfl rfl (fun hc7 => ?_) (fun hc7 => ?_)
          · refine xs_iconst (n := 43) (v := (1 : Int32)) dX0_farthest_42 rfl rfl ?_
            refine xs_iload_n (n := 44) dX0_farthest_43 rfl rfl ?_
            refine xs_isub (n := 45) dX0_farthest_44 rfl ?_
            exact xs_gf (xs_end (kj6 (((1 : Int32) - c2)))) (And.intro rfl (And.intro rfl (And.intro rfl (And.intro rfl (And.intro rfl trivial)))))
          · refine xs_iload_n (n := 39) dX0_farthest_38 rfl rfl ?_
            refine xs_goto (n := 45) dX0_farthest_39 rfl ?_
            exact xs_gf (xs_end (kj6 (c2))) (And.intro rfl (And.intro rfl (And.intro rfl (And.intro rfl (And.intro rfl trivial)))))
theorem en_X0_farthest (m : Nat) (a : Nat) (o : Nat) (x0 : Int32) (ha : af_ok a) (ho_ : bx_ok o) (u0 : xm_Y) : xs_ (fun x : Int64 => some (.long x)) sg_0 mt_X0_farthest 0 [some (.ref a), some (.ref o), some (.int x0), none, none, none, none, none] [] u0 0 0 (fn_X0_farthest m a o x0 u0) := by
  refine xs_top ?_
  rw [fn_X0_farthest]
  refine xs_aload_n (n := 1) dX0_farthest_0 rfl rfl ?_
  refine ys_geti (n := 4) dX0_farthest_1 rfl fl_X0_15 (Or.inl rfl) ha.1 ?_
  refine xs_i2l (n := 5) dX0_farthest_4 rfl ?_
  refine xs_letl (fun v1 => ?_)
  refine xs_lstore_n (n := 6) (lv' := [some (.ref a), some (.ref o), some (.int x0), some (.long v1), none, none, none, none]) dX0_farthest_5 rfl (Nat.le_of_ble_eq_true rfl) rfl ?_
  refine xs_iconst (n := 7) (v := (0 : Int32)) dX0_farthest_6 rfl rfl ?_
  refine xs_istore (n := 9) (lv' := [some (.ref a), some (.ref o), some (.int x0), some (.long v1), none, some (.int (0 : Int32)), none, none]) dX0_farthest_7 rfl (Nat.le_of_ble_eq_true rfl) rfl ?_
  refine xs_reg ?_
  refine xs_fg (lv' := [some (.ref a), some (.ref o), some (.int x0), some (.long v1), none, some (.int (0 : Int32)), none, none]) (And.intro rfl (And.intro rfl (And.intro rfl (And.intro rfl (And.intro rfl trivial))))) ?_
  refine el_X0_farthest_9 m a o x0 ha ho_ _ (fun _ => rfl) (fun q12 => ?_) m v1 (0 : Int32) u0
  refine xs_inr ?_
  refine xs_lload_n (n := 84) dX0_farthest_83 rfl rfl ?_
  exact xs_lret dX0_farthest_84 rfl rfl
def lp_X1_startAnew_7 (m : Nat) (b0 : Nat) : Nat → Int32 → xm_Y → Option (Int32 × xm_Y)
  | 0, _, _ => none
  | n + 1, l1, u0 =>
  if (3 : Int32) ≤ l1 then (
  some (l1, u0)) else (
  xm_chk (xm_in l1 3) (
  ((fn_X0_putSame m (21 + 24 * b0 + 2 * (Int32.toNatClampNeg l1)) l1 u0).bind fun q4 =>
  xm_let (α := Int32) (l1 + (1 : Int32)) fun v5 =>
  lp_X1_startAnew_7 m b0 n v5 q4.2)))
def fn_X1_startAnew (m : Nat) (bb : Nat) (u0 : xm_Y) : Option (Unit × xm_Y) :=
  xm_let (w_I u0 (3 + 24 * bb) 4 (0 : Int32)) fun u1 =>
  ((lp_X1_startAnew_7 m bb m (0 : Int32) u1).bind fun q6 =>
  some ((), q6.2))
theorem el_X1_startAnew_7 (m : Nat) (b0 : Nat) (hb0 : b0 < 5) (K : Int32 × xm_Y → Option (Unit × xm_Y)) (kE : ∀ q : Int32 × xm_Y, xs_ (fun _ : Unit => none) sg_0 mt_X1_startAnew 28 [none, none] [] q.2 0 0 (K q)) : ∀ (n : Nat) (l1 : Int32) (u0 : xm_Y), xs_ (fun _ : Unit => none) sg_0 mt_X1_startAnew 7 [some (.ref (3 + 24 * b0)), some (.int l1)] [] u0 0 0 ((lp_X1_startAnew_7 m b0 n l1 u0).bind K) := by
  intro n
  induction n with
  | zero =>
    intro l1 u0
    exact xs_none
  | succ n ih =>
    intro l1 u0
    rw [lp_X1_startAnew_7]
    refine xs_iload_n (n := 8) dX1_startAnew_7 rfl rfl ?_
    refine xs_iconst (n := 9) (v := (3 : Int32)) dX1_startAnew_8 rfl rfl ?_
    refine xs_icmp_ge (n := 12) (tgt := 28) dX1_startAnew_9 rfl rfl (fun hc2 => ?_) (fun hc2 => ?_)
    · exact xs_gf (xs_end (kE (l1, u0))) trivial
    · refine xs_aload_n (n := 13) dX1_startAnew_12 rfl rfl ?_
      refine ys_getr (n := 16) dX1_startAnew_13 rfl fl_X1_17 (bd_s hb0) (bd_r1 hb0) ?_
      refine xs_iload_n (n := 17) dX1_startAnew_16 rfl rfl ?_
      refine ys_aaload16 (n := 18) dX1_startAnew_17 rfl (br_s hb0) (fun hi3 => br_r hb0 (xin_n hi3)) (fun hi3 => ?_)
      refine xs_iload_n (n := 19) dX1_startAnew_18 rfl rfl ?_
      refine ys_callvv (n := 22) (N := mt_X0_putSame) dX1_startAnew_19 rfl ok_X0_putSame tw_359 im_X0_putSame se_X0_putSame ⟨Nat.le_of_ble_eq_true rfl, Nat.le_of_ble_eq_true rfl⟩ [.int l1] [] rfl rfl (Nat.le_of_ble_eq_true rfl) rfl (Nat.le_of_ble_eq_true rfl) (en_X0_putSame m (21 + 24 * b0 + 2 * (Int32.toNatClampNeg l1)) l1 (br_a hb0 (xin_n hi3)) u0) (br_a hb0 (xin_n hi3)).1 (by decide) rfl (fun q4 => ?_)
      refine xs_iincl (n := 25) (dv := (1 : Int32)) (fun v5 => [some (.ref (3 + 24 * b0)), some (.int v5)]) dX1_startAnew_22 rfl rfl rfl (Nat.le_of_ble_eq_true rfl) (fun _ => rfl) (fun v5 => ?_)
      refine xs_goto (n := 7) dX1_startAnew_25 rfl ?_
      exact xs_gf (ih v5 q4.2) (And.intro rfl (And.intro rfl trivial))
theorem en_X1_startAnew (m : Nat) (bb : Nat) (hb : bb < 5) (u0 : xm_Y) : xs_ (fun _ : Unit => none) sg_0 mt_X1_startAnew 0 [some (.ref (3 + 24 * bb)), none] [] u0 0 0 (fn_X1_startAnew m bb u0) := by
  refine xs_top ?_
  rw [fn_X1_startAnew]
  refine xs_aload_n (n := 1) dX1_startAnew_0 rfl rfl ?_
  refine xs_iconst (n := 2) (v := (0 : Int32)) dX1_startAnew_1 rfl rfl ?_
  refine ys_puti (n := 5) dX1_startAnew_2 rfl fl_X1_32 rfl (bd_s hb) (fun u1 => ?_)
  refine xs_iconst (n := 6) (v := (0 : Int32)) dX1_startAnew_5 rfl rfl ?_
  refine xs_istore_n (n := 7) (lv' := [some (.ref (3 + 24 * bb)), some (.int (0 : Int32))]) dX1_startAnew_6 rfl (Nat.le_of_ble_eq_true rfl) rfl ?_
  refine xs_reg ?_
  refine xs_fg (lv' := [some (.ref (3 + 24 * bb)), some (.int (0 : Int32))]) (And.intro rfl (And.intro rfl trivial)) ?_
  refine el_X1_startAnew_7 m bb hb _ (fun q6 => ?_) m (0 : Int32) u1
  exact xs_vret dX1_startAnew_28 rfl rfl
def fn_X1_addGuard (m : Nat) (bb : Nat) (x0 : Int32) (x1 : Int32) (x2 : Int32) (u0 : xm_Y) : Option (Unit × xm_Y) :=
  ((if (6 : Int32) ≤ (u0.1 (3 + 24 * bb) 4) then (
  some (u0)) else (
  xm_chk (xm_in (u0.1 (3 + 24 * bb) 4) 6) (
  ((fn_X0_put m (9 + 24 * bb + 2 * (Int32.toNatClampNeg (u0.1 (3 + 24 * bb) 4))) x0 x1 x2 u0).bind fun q5 =>
  xm_let (w_I q5.2 (3 + 24 * bb) 4 ((q5.2.1 (3 + 24 * bb) 4) + (1 : Int32))) fun u6 =>
  some (u6)))) : Option (xm_Y)).bind fun q1 =>
  some ((), q1))
theorem en_X1_addGuard (m : Nat) (bb : Nat) (x0 : Int32) (x1 : Int32) (x2 : Int32) (hb : bb < 5) (u0 : xm_Y) : xs_ (fun _ : Unit => none) sg_0 mt_X1_addGuard 0 [some (.ref (3 + 24 * bb)), some (.int x0), some (.int x1), some (.int x2)] [] u0 0 0 (fn_X1_addGuard m bb x0 x1 x2 u0) := by
  refine xs_top ?_
  rw [fn_X1_addGuard]
  refine xs_aload_n (n := 1) dX1_addGuard_0 rfl rfl ?_
  refine ys_geti (n := 4) dX1_addGuard_1 rfl fl_X1_32 (Or.inl rfl) (bd_s hb) ?_
  refine xs_bipush (n := 6) (v := (6 : Int32)) dX1_addGuard_4 rfl rfl ?_
  refine xs_join 34 (fun q1 => [none, none, none, none]) (fun q1 => []) (fun q1 => q1) (fun q1 => ?_) (fun kj2 => ?_)
  · exact xs_vret dX1_addGuard_34 rfl rfl
  · refine xs_icmp_ge (n := 9) (tgt := 34) dX1_addGuard_6 rfl rfl (fun hc3 => ?_) (fun hc3 => ?_)
    · exact xs_gf (xs_end (kj2 (u0))) trivial
    · refine xs_aload_n (n := 10) dX1_addGuard_9 rfl rfl ?_
      refine ys_getr (n := 13) dX1_addGuard_10 rfl fl_X1_11 (bd_s hb) (bd_r0 hb) ?_
      refine xs_aload_n (n := 14) dX1_addGuard_13 rfl rfl ?_
      refine ys_geti (n := 17) dX1_addGuard_14 rfl fl_X1_32 (Or.inl rfl) (bd_s hb) ?_
      refine ys_aaload16 (n := 18) dX1_addGuard_17 rfl (bg_s hb) (fun hi4 => bg_r hb (xin_n hi4)) (fun hi4 => ?_)
      refine xs_iload_n (n := 19) dX1_addGuard_18 rfl rfl ?_
      refine xs_iload_n (n := 20) dX1_addGuard_19 rfl rfl ?_
      refine xs_iload_n (n := 21) dX1_addGuard_20 rfl rfl ?_
      refine ys_callvv (n := 24) (N := mt_X0_put) dX1_addGuard_21 rfl ok_X0_put tw_382 im_X0_put se_X0_put ⟨Nat.le_of_ble_eq_true rfl, Nat.le_of_ble_eq_true rfl⟩ [.int x0, .int x1, .int x2] [] rfl rfl (Nat.le_of_ble_eq_true rfl) rfl (Nat.le_of_ble_eq_true rfl) (en_X0_put m (9 + 24 * bb + 2 * (Int32.toNatClampNeg (u0.1 (3 + 24 * bb) 4))) x0 x1 x2 (bg_a hb (xin_n hi4)) u0) (bg_a hb (xin_n hi4)).1 (by decide) rfl (fun q5 => ?_)
      refine xs_aload_n (n := 25) dX1_addGuard_24 rfl rfl ?_
      refine xs_dup (n := 26) dX1_addGuard_25 rfl rfl ?_
      refine ys_geti (n := 29) dX1_addGuard_26 rfl fl_X1_32 (Or.inl rfl) (bd_s hb) ?_
      refine xs_iconst (n := 30) (v := (1 : Int32)) dX1_addGuard_29 rfl rfl ?_
      refine xs_iadd (n := 31) dX1_addGuard_30 rfl ?_
      refine ys_puti (n := 34) dX1_addGuard_31 rfl fl_X1_32 rfl (bd_s hb) (fun u6 => ?_)
      exact xs_gf (xs_end (kj2 (u6))) trivial
def lp_X1_holdsAt_2 (m : Nat) (b0 : Nat) (a1 : Nat) : Nat → Int32 → xm_Y → Option ((Int32 × xm_Y) ⊕ (Int32 × xm_Y))
  | 0, _, _ => none
  | n + 1, l2, u0 =>
  if (u0.1 (3 + 24 * b0) 4) ≤ l2 then (
  some (.inr (l2, u0))) else (
  xm_chk (xm_in l2 6) (
  ((fn_X0_valueAt m (9 + 24 * b0 + 2 * (Int32.toNatClampNeg l2)) a1 u0).bind fun q3 =>
  if (0 : Int64) ≤ q3.1 then (
  xm_let (α := Int32) (l2 + (1 : Int32)) fun v5 =>
  lp_X1_holdsAt_2 m b0 a1 n v5 q3.2) else (
  some (.inl ((0 : Int32), q3.2))))))
def fn_X1_holdsAt (m : Nat) (bb : Nat) (p : Nat) (u0 : xm_Y) : Option (Int32 × xm_Y) :=
  ((lp_X1_holdsAt_2 m bb p m (0 : Int32) u0).bind (Sum.elim (fun r => some r) (fun q6 =>
  some ((1 : Int32), q6.2))))
theorem el_X1_holdsAt_2 (m : Nat) (b0 : Nat) (a1 : Nat) (hb0 : b0 < 5) (ha1 : xsh_ a1 14 3) (K : (Int32 × xm_Y) ⊕ (Int32 × xm_Y) → Option (Int32 × xm_Y)) (hK : ∀ r, K (.inl r) = some r) (kE : ∀ q : Int32 × xm_Y, xs_ (fun x : Int32 => some (.int x)) sg_0 mt_X1_holdsAt 33 [none, none, none] [] q.2 0 0 (K (.inr q))) : ∀ (n : Nat) (l2 : Int32) (u0 : xm_Y), xs_ (fun x : Int32 => some (.int x)) sg_0 mt_X1_holdsAt 2 [some (.ref (3 + 24 * b0)), some (.ref a1), some (.int l2)] [] u0 0 0 ((lp_X1_holdsAt_2 m b0 a1 n l2 u0).bind K) := by
  intro n
  induction n with
  | zero =>
    intro l2 u0
    exact xs_none
  | succ n ih =>
    intro l2 u0
    rw [lp_X1_holdsAt_2]
    refine xs_iload_n (n := 3) dX1_holdsAt_2 rfl rfl ?_
    refine xs_aload_n (n := 4) dX1_holdsAt_3 rfl rfl ?_
    refine ys_geti (n := 7) dX1_holdsAt_4 rfl fl_X1_32 (Or.inl rfl) (bd_s hb0) ?_
    refine xs_icmp_ge (n := 10) (tgt := 33) dX1_holdsAt_7 rfl rfl (fun hc1 => ?_) (fun hc1 => ?_)
    · exact xs_gf (xs_end (kE (l2, u0))) trivial
    · refine xs_aload_n (n := 11) dX1_holdsAt_10 rfl rfl ?_
      refine ys_getr (n := 14) dX1_holdsAt_11 rfl fl_X1_11 (bd_s hb0) (bd_r0 hb0) ?_
      refine xs_iload_n (n := 15) dX1_holdsAt_14 rfl rfl ?_
      refine ys_aaload16 (n := 16) dX1_holdsAt_15 rfl (bg_s hb0) (fun hi2 => bg_r hb0 (xin_n hi2)) (fun hi2 => ?_)
      refine xs_aload_n (n := 17) dX1_holdsAt_16 rfl rfl ?_
      refine ys_callvl (n := 20) (N := mt_X0_valueAt) dX1_holdsAt_17 rfl ok_X0_valueAt tw_431 im_X0_valueAt se_X0_valueAt ⟨Nat.le_of_ble_eq_true rfl, Nat.le_of_ble_eq_true rfl⟩ [.ref a1] [] rfl rfl (Nat.le_of_ble_eq_true rfl) rfl (Nat.le_of_ble_eq_true rfl) (en_X0_valueAt m (9 + 24 * b0 + 2 * (Int32.toNatClampNeg l2)) a1 (bg_a hb0 (xin_n hi2)) ha1 u0) (bg_a hb0 (xin_n hi2)).1 (by decide) rfl (fun q3 => ?_)
      refine xs_lconst (n := 21) (v := (0 : Int64)) dX1_holdsAt_20 rfl rfl ?_
      refine xs_lif_ge (n := 25) (pc1 := 22) (tgt := 27) dX1_holdsAt_21 rfl dX1_holdsAt_22 rfl rfl (fun hc4 => ?_) (fun hc4 => ?_)
      · refine xs_iincl (n := 30) (dv := (1 : Int32)) (fun v5 => [some (.ref (3 + 24 * b0)), some (.ref a1), some (.int v5)]) dX1_holdsAt_27 rfl rfl rfl (Nat.le_of_ble_eq_true rfl) (fun _ => rfl) (fun v5 => ?_)
        refine xs_goto (n := 2) dX1_holdsAt_30 rfl ?_
        exact xs_gf (ih v5 q3.2) (And.intro rfl (And.intro rfl (And.intro rfl trivial)))
      · refine xs_iconst (n := 26) (v := (0 : Int32)) dX1_holdsAt_25 rfl rfl ?_
        exact xs_zretc dX1_holdsAt_26 rfl (Or.inl rfl) (hK _)
theorem en_X1_holdsAt (m : Nat) (bb : Nat) (p : Nat) (hb : bb < 5) (hp_ : xsh_ p 14 3) (u0 : xm_Y) : xs_ (fun x : Int32 => some (.int x)) sg_0 mt_X1_holdsAt 0 [some (.ref (3 + 24 * bb)), some (.ref p), none] [] u0 0 0 (fn_X1_holdsAt m bb p u0) := by
  refine xs_top ?_
  rw [fn_X1_holdsAt]
  refine xs_iconst (n := 1) (v := (0 : Int32)) dX1_holdsAt_0 rfl rfl ?_
  refine xs_istore_n (n := 2) (lv' := [some (.ref (3 + 24 * bb)), some (.ref p), some (.int (0 : Int32))]) dX1_holdsAt_1 rfl (Nat.le_of_ble_eq_true rfl) rfl ?_
  refine xs_reg ?_
  refine xs_fg (lv' := [some (.ref (3 + 24 * bb)), some (.ref p), some (.int (0 : Int32))]) (And.intro rfl (And.intro rfl (And.intro rfl trivial))) ?_
  refine el_X1_holdsAt_2 m bb p hb hp_ _ (fun _ => rfl) (fun q6 => ?_) m (0 : Int32) u0
  refine xs_inr ?_
  refine xs_iconst (n := 34) (v := (1 : Int32)) dX1_holdsAt_33 rfl rfl ?_
  exact xs_zretc dX1_holdsAt_34 rfl (Or.inr rfl) rfl
def lp_X1_isPassedOver_2 (m : Nat) (b0 : Nat) (a1 : Nat) : Nat → Int32 → xm_Y → Option ((Int32 × xm_Y) ⊕ (Int32 × xm_Y))
  | 0, _, _ => none
  | n + 1, l2, u0 =>
  if (u0.1 (3 + 24 * b0) 4) ≤ l2 then (
  some (.inr (l2, u0))) else (
  xm_chk (xm_in l2 6) (
  ((fn_X0_farthest m (9 + 24 * b0 + 2 * (Int32.toNatClampNeg l2)) a1 (1 : Int32) u0).bind fun q3 =>
  if q3.1 = (-3000000000000 : Int64) then (
  xm_let (α := Int32) (l2 + (1 : Int32)) fun v5 =>
  lp_X1_isPassedOver_2 m b0 a1 n v5 q3.2) else (
  if (0 : Int64) ≤ q3.1 then (
  xm_let (α := Int32) (l2 + (1 : Int32)) fun v7 =>
  lp_X1_isPassedOver_2 m b0 a1 n v7 q3.2) else (
  some (.inl ((1 : Int32), q3.2)))))))
def fn_X1_isPassedOver (m : Nat) (bb : Nat) (o : Nat) (u0 : xm_Y) : Option (Int32 × xm_Y) :=
  ((lp_X1_isPassedOver_2 m bb o m (0 : Int32) u0).bind (Sum.elim (fun r => some r) (fun q8 =>
  some ((0 : Int32), q8.2))))
theorem el_X1_isPassedOver_2 (m : Nat) (b0 : Nat) (a1 : Nat) (hb0 : b0 < 5) (ha1 : bx_ok a1) (K : (Int32 × xm_Y) ⊕ (Int32 × xm_Y) → Option (Int32 × xm_Y)) (hK : ∀ r, K (.inl r) = some r) (kE : ∀ q : Int32 × xm_Y, xs_ (fun x : Int32 => some (.int x)) sg_0 mt_X1_isPassedOver 44 [none, none, none, none, none] [] q.2 0 0 (K (.inr q))) : ∀ (n : Nat) (l2 : Int32) (u0 : xm_Y), xs_ (fun x : Int32 => some (.int x)) sg_0 mt_X1_isPassedOver 2 [some (.ref (3 + 24 * b0)), some (.ref a1), some (.int l2), none, none] [] u0 0 0 ((lp_X1_isPassedOver_2 m b0 a1 n l2 u0).bind K) := by
  intro n
  induction n with
  | zero =>
    intro l2 u0
    exact xs_none
  | succ n ih =>
    intro l2 u0
    rw [lp_X1_isPassedOver_2]
    refine xs_iload_n (n := 3) dX1_isPassedOver_2 rfl rfl ?_
    refine xs_aload_n (n := 4) dX1_isPassedOver_3 rfl rfl ?_
    refine ys_geti (n := 7) dX1_isPassedOver_4 rfl fl_X1_32 (Or.inl rfl) (bd_s hb0) ?_
    refine xs_icmp_ge (n := 10) (tgt := 44) dX1_isPassedOver_7 rfl rfl (fun hc1 => ?_) (fun hc1 => ?_)
    · exact xs_gf (xs_end (kE (l2, u0))) trivial
    · refine xs_aload_n (n := 11) dX1_isPassedOver_10 rfl rfl ?_
      refine ys_getr (n := 14) dX1_isPassedOver_11 rfl fl_X1_11 (bd_s hb0) (bd_r0 hb0) ?_
      refine xs_iload_n (n := 15) dX1_isPassedOver_14 rfl rfl ?_
      refine ys_aaload16 (n := 16) dX1_isPassedOver_15 rfl (bg_s hb0) (fun hi2 => bg_r hb0 (xin_n hi2)) (fun hi2 => ?_)
      refine xs_aload_n (n := 17) dX1_isPassedOver_16 rfl rfl ?_
      refine xs_iconst (n := 18) (v := (1 : Int32)) dX1_isPassedOver_17 rfl rfl ?_
      refine ys_callvl (n := 21) (N := mt_X0_farthest) dX1_isPassedOver_18 rfl ok_X0_farthest tw_738 im_X0_farthest se_X0_farthest ⟨Nat.le_of_ble_eq_true rfl, Nat.le_of_ble_eq_true rfl⟩ [.ref a1, .int (1 : Int32)] [] rfl rfl (Nat.le_of_ble_eq_true rfl) rfl (Nat.le_of_ble_eq_true rfl) (en_X0_farthest m (9 + 24 * b0 + 2 * (Int32.toNatClampNeg l2)) a1 (1 : Int32) (bg_a hb0 (xin_n hi2)) ha1 u0) (bg_a hb0 (xin_n hi2)).1 (by decide) rfl (fun q3 => ?_)
      refine xs_lstore_n (n := 22) (lv' := [some (.ref (3 + 24 * b0)), some (.ref a1), some (.int l2), some (.long q3.1), none]) dX1_isPassedOver_21 rfl (Nat.le_of_ble_eq_true rfl) rfl ?_
      refine xs_lload_n (n := 23) dX1_isPassedOver_22 rfl rfl ?_
      refine xs_ldc2 (n := 26) (v := (-3000000000000 : Int64)) dX1_isPassedOver_23 rfl tw_744 ?_
      refine xs_lif_eq (n := 30) (pc1 := 27) (tgt := 38) dX1_isPassedOver_26 rfl dX1_isPassedOver_27 rfl rfl (fun hc4 => ?_) (fun hc4 => ?_)
      · refine xs_iincl (n := 41) (dv := (1 : Int32)) (fun v5 => [some (.ref (3 + 24 * b0)), some (.ref a1), some (.int v5), some (.long q3.1), none]) dX1_isPassedOver_38 rfl rfl rfl (Nat.le_of_ble_eq_true rfl) (fun _ => rfl) (fun v5 => ?_)
        refine xs_goto (n := 2) dX1_isPassedOver_41 rfl ?_
        exact xs_gf (ih v5 q3.2) (And.intro rfl (And.intro rfl (And.intro rfl trivial)))
      · refine xs_lload_n (n := 31) dX1_isPassedOver_30 rfl rfl ?_
        refine xs_lconst (n := 32) (v := (0 : Int64)) dX1_isPassedOver_31 rfl rfl ?_
        refine xs_lif_ge (n := 36) (pc1 := 33) (tgt := 38) dX1_isPassedOver_32 rfl dX1_isPassedOver_33 rfl rfl (fun hc6 => ?_) (fun hc6 => ?_)
        · refine xs_iincl (n := 41) (dv := (1 : Int32)) (fun v7 => [some (.ref (3 + 24 * b0)), some (.ref a1), some (.int v7), some (.long q3.1), none]) dX1_isPassedOver_38 rfl rfl rfl (Nat.le_of_ble_eq_true rfl) (fun _ => rfl) (fun v7 => ?_)
          refine xs_goto (n := 2) dX1_isPassedOver_41 rfl ?_
          exact xs_gf (ih v7 q3.2) (And.intro rfl (And.intro rfl (And.intro rfl trivial)))
        · refine xs_iconst (n := 37) (v := (1 : Int32)) dX1_isPassedOver_36 rfl rfl ?_
          exact xs_zretc dX1_isPassedOver_37 rfl (Or.inr rfl) (hK _)
theorem en_X1_isPassedOver (m : Nat) (bb : Nat) (o : Nat) (hb : bb < 5) (ho_ : bx_ok o) (u0 : xm_Y) : xs_ (fun x : Int32 => some (.int x)) sg_0 mt_X1_isPassedOver 0 [some (.ref (3 + 24 * bb)), some (.ref o), none, none, none] [] u0 0 0 (fn_X1_isPassedOver m bb o u0) := by
  refine xs_top ?_
  rw [fn_X1_isPassedOver]
  refine xs_iconst (n := 1) (v := (0 : Int32)) dX1_isPassedOver_0 rfl rfl ?_
  refine xs_istore_n (n := 2) (lv' := [some (.ref (3 + 24 * bb)), some (.ref o), some (.int (0 : Int32)), none, none]) dX1_isPassedOver_1 rfl (Nat.le_of_ble_eq_true rfl) rfl ?_
  refine xs_reg ?_
  refine xs_fg (lv' := [some (.ref (3 + 24 * bb)), some (.ref o), some (.int (0 : Int32)), none, none]) (And.intro rfl (And.intro rfl (And.intro rfl trivial))) ?_
  refine el_X1_isPassedOver_2 m bb o hb ho_ _ (fun _ => rfl) (fun q8 => ?_) m (0 : Int32) u0
  refine xs_inr ?_
  refine xs_iconst (n := 45) (v := (0 : Int32)) dX1_isPassedOver_44 rfl rfl ?_
  exact xs_zretc dX1_isPassedOver_45 rfl (Or.inl rfl) rfl
def fn_X11_isBeyond (m : Nat) (x0 : Int64) (x1 : Int64) (u0 : xm_Y) : Option (Int32 × xm_Y) :=
  ((if x0 < (-x1) then (
  some ((1 : Int32))) else (
  if x0 ≤ x1 then (
  some ((0 : Int32))) else (
  some ((1 : Int32)))) : Option (Int32)).bind fun q1 =>
  xm_chk (q1 = 0 ∨ q1 = 1) (some (q1, u0)))
theorem en_X11_isBeyond (m : Nat) (x0 : Int64) (x1 : Int64) (u0 : xm_Y) : xs_ (fun x : Int32 => some (.int x)) sg_0 mt_X11_isBeyond 0 [some (.long x0), none, some (.long x1), none] [] u0 0 0 (fn_X11_isBeyond m x0 x1 u0) := by
  refine xs_top ?_
  rw [fn_X11_isBeyond]
  refine xs_lload_n (n := 1) dX11_isBeyond_0 rfl rfl ?_
  refine xs_lload_n (n := 2) dX11_isBeyond_1 rfl rfl ?_
  refine xs_lneg (n := 3) dX11_isBeyond_2 rfl ?_
  refine xs_join 18 (fun q1 => [none, none, none, none]) (fun q1 => [.int q1]) (fun q1 => u0) (fun q1 => ?_) (fun kj2 => ?_)
  · exact xs_zret dX11_isBeyond_18 rfl rfl
  · refine xs_lif_lt (n := 7) (pc1 := 4) (tgt := 13) dX11_isBeyond_3 rfl dX11_isBeyond_4 rfl rfl (fun hc3 => ?_) (fun hc3 => ?_)
    · refine xs_iconst (n := 14) (v := (1 : Int32)) dX11_isBeyond_13 rfl rfl ?_
      refine xs_goto (n := 18) dX11_isBeyond_14 rfl ?_
      exact xs_gf (xs_end (kj2 ((1 : Int32)))) trivial
    · refine xs_lload_n (n := 8) dX11_isBeyond_7 rfl rfl ?_
      refine xs_lload_n (n := 9) dX11_isBeyond_8 rfl rfl ?_
      refine xs_lif_le (n := 13) (pc1 := 10) (tgt := 17) dX11_isBeyond_9 rfl dX11_isBeyond_10 rfl rfl (fun hc4 => ?_) (fun hc4 => ?_)
      · refine xs_iconst (n := 18) (v := (0 : Int32)) dX11_isBeyond_17 rfl rfl ?_
        exact xs_gf (xs_end (kj2 ((0 : Int32)))) trivial
      · refine xs_iconst (n := 14) (v := (1 : Int32)) dX11_isBeyond_13 rfl rfl ?_
        refine xs_goto (n := 18) dX11_isBeyond_14 rfl ?_
        exact xs_gf (xs_end (kj2 ((1 : Int32)))) trivial
def fn_X1_move (m : Nat) (bb : Nat) (p : Nat) (u0 : xm_Y) : Option (Int32 × xm_Y) :=
  xm_chk (xm_in (0 : Int32) 3) (
  ((fn_X0_valueAt m (21 + 24 * bb + 2 * (Int32.toNatClampNeg (0 : Int32))) p u0).bind fun q2 =>
  xm_chk (xm_in (1 : Int32) 3) (
  ((fn_X0_valueAt m (21 + 24 * bb + 2 * (Int32.toNatClampNeg (1 : Int32))) p q2.2).bind fun q4 =>
  xm_chk (xm_in (2 : Int32) 3) (
  ((fn_X0_valueAt m (21 + 24 * bb + 2 * (Int32.toNatClampNeg (2 : Int32))) p q4.2).bind fun q6 =>
  ((fn_X11_isBeyond m q2.1 (1000000000000 : Int64) q6.2).bind fun q7 =>
  if q7.1 = 0 then (
  ((fn_X11_isBeyond m q4.1 (1000000000000 : Int64) q7.2).bind fun q9 =>
  if q9.1 = 0 then (
  ((fn_X11_isBeyond m q6.1 (1000000000000 : Int64) q9.2).bind fun q11 =>
  if q11.1 = 0 then (
  xm_chk (xm_in (0 : Int32) 3) (xm_let (w_J q11.2 p (Int32.toNatClampNeg (0 : Int32)) q2.1) fun u13 =>
  xm_chk (xm_in (1 : Int32) 3) (xm_let (w_J u13 p (Int32.toNatClampNeg (1 : Int32)) q4.1) fun u14 =>
  xm_chk (xm_in (2 : Int32) 3) (xm_let (w_J u14 p (Int32.toNatClampNeg (2 : Int32)) q6.1) fun u15 =>
  some ((1 : Int32), u15))))) else (
  some ((0 : Int32), q11.2)))) else (
  some ((0 : Int32), q9.2)))) else (
  some ((0 : Int32), q7.2)))))))))
theorem en_X1_move (m : Nat) (bb : Nat) (p : Nat) (hb : bb < 5) (hp_ : xsh_ p 14 3) (u0 : xm_Y) : xs_ (fun x : Int32 => some (.int x)) sg_0 mt_X1_move 0 [some (.ref (3 + 24 * bb)), some (.ref p), none, none, none, none, none, none] [] u0 0 0 (fn_X1_move m bb p u0) := by
  refine xs_top ?_
  rw [fn_X1_move]
  refine xs_aload_n (n := 1) dX1_move_0 rfl rfl ?_
  refine ys_getr (n := 4) dX1_move_1 rfl fl_X1_17 (bd_s hb) (bd_r1 hb) ?_
  refine xs_iconst (n := 5) (v := (0 : Int32)) dX1_move_4 rfl rfl ?_
  refine ys_aaload16 (n := 6) dX1_move_5 rfl (br_s hb) (fun hi1 => br_r hb (xin_n hi1)) (fun hi1 => ?_)
  refine xs_aload_n (n := 7) dX1_move_6 rfl rfl ?_
  refine ys_callvl (n := 10) (N := mt_X0_valueAt) dX1_move_7 rfl ok_X0_valueAt tw_431 im_X0_valueAt se_X0_valueAt ⟨Nat.le_of_ble_eq_true rfl, Nat.le_of_ble_eq_true rfl⟩ [.ref p] [] rfl rfl (Nat.le_of_ble_eq_true rfl) rfl (Nat.le_of_ble_eq_true rfl) (en_X0_valueAt m (21 + 24 * bb + 2 * (Int32.toNatClampNeg (0 : Int32))) p (br_a hb (xin_n hi1)) hp_ u0) (br_a hb (xin_n hi1)).1 (by decide) rfl (fun q2 => ?_)
  refine xs_lstore_n (n := 11) (lv' := [some (.ref (3 + 24 * bb)), some (.ref p), some (.long q2.1), none, none, none, none, none]) dX1_move_10 rfl (Nat.le_of_ble_eq_true rfl) rfl ?_
  refine xs_aload_n (n := 12) dX1_move_11 rfl rfl ?_
  refine ys_getr (n := 15) dX1_move_12 rfl fl_X1_17 (bd_s hb) (bd_r1 hb) ?_
  refine xs_iconst (n := 16) (v := (1 : Int32)) dX1_move_15 rfl rfl ?_
  refine ys_aaload16 (n := 17) dX1_move_16 rfl (br_s hb) (fun hi3 => br_r hb (xin_n hi3)) (fun hi3 => ?_)
  refine xs_aload_n (n := 18) dX1_move_17 rfl rfl ?_
  refine ys_callvl (n := 21) (N := mt_X0_valueAt) dX1_move_18 rfl ok_X0_valueAt tw_431 im_X0_valueAt se_X0_valueAt ⟨Nat.le_of_ble_eq_true rfl, Nat.le_of_ble_eq_true rfl⟩ [.ref p] [] rfl rfl (Nat.le_of_ble_eq_true rfl) rfl (Nat.le_of_ble_eq_true rfl) (en_X0_valueAt m (21 + 24 * bb + 2 * (Int32.toNatClampNeg (1 : Int32))) p (br_a hb (xin_n hi3)) hp_ q2.2) (br_a hb (xin_n hi3)).1 (by decide) rfl (fun q4 => ?_)
  refine xs_lstore (n := 23) (lv' := [some (.ref (3 + 24 * bb)), some (.ref p), some (.long q2.1), none, some (.long q4.1), none, none, none]) dX1_move_21 rfl (Nat.le_of_ble_eq_true rfl) rfl ?_
  refine xs_aload_n (n := 24) dX1_move_23 rfl rfl ?_
  refine ys_getr (n := 27) dX1_move_24 rfl fl_X1_17 (bd_s hb) (bd_r1 hb) ?_
  refine xs_iconst (n := 28) (v := (2 : Int32)) dX1_move_27 rfl rfl ?_
  refine ys_aaload16 (n := 29) dX1_move_28 rfl (br_s hb) (fun hi5 => br_r hb (xin_n hi5)) (fun hi5 => ?_)
  refine xs_aload_n (n := 30) dX1_move_29 rfl rfl ?_
  refine ys_callvl (n := 33) (N := mt_X0_valueAt) dX1_move_30 rfl ok_X0_valueAt tw_431 im_X0_valueAt se_X0_valueAt ⟨Nat.le_of_ble_eq_true rfl, Nat.le_of_ble_eq_true rfl⟩ [.ref p] [] rfl rfl (Nat.le_of_ble_eq_true rfl) rfl (Nat.le_of_ble_eq_true rfl) (en_X0_valueAt m (21 + 24 * bb + 2 * (Int32.toNatClampNeg (2 : Int32))) p (br_a hb (xin_n hi5)) hp_ q4.2) (br_a hb (xin_n hi5)).1 (by decide) rfl (fun q6 => ?_)
  refine xs_lstore (n := 35) (lv' := [some (.ref (3 + 24 * bb)), some (.ref p), some (.long q2.1), none, some (.long q4.1), none, some (.long q6.1), none]) dX1_move_33 rfl (Nat.le_of_ble_eq_true rfl) rfl ?_
  refine xs_lload_n (n := 36) dX1_move_35 rfl rfl ?_
  refine xs_ldc2 (n := 39) (v := (1000000000000 : Int64)) dX1_move_36 rfl tw_439 ?_
  refine ys_callsni (n := 42) (N := mt_X11_isBeyond) dX1_move_39 rfl ok_X11_isBeyond tn_440 st_X11_isBeyond ⟨Nat.le_of_ble_eq_true rfl, Nat.le_of_ble_eq_true rfl⟩ [.long q2.1, .long (1000000000000 : Int64)] [] rfl rfl (Nat.le_of_ble_eq_true rfl) rfl (Nat.le_of_ble_eq_true rfl) (en_X11_isBeyond m q2.1 (1000000000000 : Int64) q6.2) (fun q7 => ?_)
  refine xs_if_ne (n := 45) (tgt := 67) dX1_move_42 rfl rfl (fun hc8 => ?_) (fun hc8 => ?_)
  · refine xs_lload (n := 47) dX1_move_45 rfl rfl ?_
    refine xs_ldc2 (n := 50) (v := (1000000000000 : Int64)) dX1_move_47 rfl tw_439 ?_
    refine ys_callsni (n := 53) (N := mt_X11_isBeyond) dX1_move_50 rfl ok_X11_isBeyond tn_440 st_X11_isBeyond ⟨Nat.le_of_ble_eq_true rfl, Nat.le_of_ble_eq_true rfl⟩ [.long q4.1, .long (1000000000000 : Int64)] [] rfl rfl (Nat.le_of_ble_eq_true rfl) rfl (Nat.le_of_ble_eq_true rfl) (en_X11_isBeyond m q4.1 (1000000000000 : Int64) q7.2) (fun q9 => ?_)
    refine xs_if_ne (n := 56) (tgt := 67) dX1_move_53 rfl rfl (fun hc10 => ?_) (fun hc10 => ?_)
    · refine xs_lload (n := 58) dX1_move_56 rfl rfl ?_
      refine xs_ldc2 (n := 61) (v := (1000000000000 : Int64)) dX1_move_58 rfl tw_439 ?_
      refine ys_callsni (n := 64) (N := mt_X11_isBeyond) dX1_move_61 rfl ok_X11_isBeyond tn_440 st_X11_isBeyond ⟨Nat.le_of_ble_eq_true rfl, Nat.le_of_ble_eq_true rfl⟩ [.long q6.1, .long (1000000000000 : Int64)] [] rfl rfl (Nat.le_of_ble_eq_true rfl) rfl (Nat.le_of_ble_eq_true rfl) (en_X11_isBeyond m q6.1 (1000000000000 : Int64) q9.2) (fun q11 => ?_)
      refine xs_if_eq (n := 67) (tgt := 69) dX1_move_64 rfl rfl (fun hc12 => ?_) (fun hc12 => ?_)
      · refine xs_aload_n (n := 70) dX1_move_69 rfl rfl ?_
        refine xs_iconst (n := 71) (v := (0 : Int32)) dX1_move_70 rfl rfl ?_
        refine xs_lload_n (n := 72) dX1_move_71 rfl rfl ?_
        refine ys_lastore (n := 73) dX1_move_72 rfl hp_ (fun u13 => ?_)
        refine xs_aload_n (n := 74) dX1_move_73 rfl rfl ?_
        refine xs_iconst (n := 75) (v := (1 : Int32)) dX1_move_74 rfl rfl ?_
        refine xs_lload (n := 77) dX1_move_75 rfl rfl ?_
        refine ys_lastore (n := 78) dX1_move_77 rfl hp_ (fun u14 => ?_)
        refine xs_aload_n (n := 79) dX1_move_78 rfl rfl ?_
        refine xs_iconst (n := 80) (v := (2 : Int32)) dX1_move_79 rfl rfl ?_
        refine xs_lload (n := 82) dX1_move_80 rfl rfl ?_
        refine ys_lastore (n := 83) dX1_move_82 rfl hp_ (fun u15 => ?_)
        refine xs_iconst (n := 84) (v := (1 : Int32)) dX1_move_83 rfl rfl ?_
        exact xs_zretc dX1_move_84 rfl (Or.inr rfl) rfl
      · refine xs_iconst (n := 68) (v := (0 : Int32)) dX1_move_67 rfl rfl ?_
        exact xs_zretc dX1_move_68 rfl (Or.inl rfl) rfl
    · refine xs_iconst (n := 68) (v := (0 : Int32)) dX1_move_67 rfl rfl ?_
      exact xs_zretc dX1_move_68 rfl (Or.inl rfl) rfl
  · refine xs_iconst (n := 68) (v := (0 : Int32)) dX1_move_67 rfl rfl ?_
    exact xs_zretc dX1_move_68 rfl (Or.inl rfl) rfl
