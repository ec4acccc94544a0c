def lp_X12_threeLeaveNothing_17 (m : Nat) (c1 : Int32) (c2 : Int32) (c3 : Int32) : Nat → Int32 → xm_Y → Option ((Int32 × xm_Y) ⊕ (Int32 × xm_Y))
  | 0, _, _ => none
  | n + 1, l4, u0 =>
  if (3) ≤ l4 then (
  some (.inr (l4, u0))) else (
  ((fn_X12_cross m c2 c3 l4 u0).bind fun q4 =>
  ((fn_X12_cross m c3 c1 l4 q4.2).bind fun q5 =>
  ((fn_X12_cross m c1 c2 l4 q5.2).bind fun q6 =>
  if q4.1 = (0) then (
  if q5.1 = (0) then (
  if q6.1 = (0) then (
  xm_let (α := Int32) (l4 + (1)) fun v10 =>
  lp_X12_threeLeaveNothing_17 m c1 c2 c3 n v10 q6.2) else (
  ((fn_X12_leaveNothing m q4.1 q5.1 q6.1 (0) c1 c2 c3 c1 q6.2).bind fun q11 =>
  xm_chk (q11.1 = 0 ∨ q11.1 = 1) (some (.inl (q11.1, q11.2)))))) else (
  ((fn_X12_leaveNothing m q4.1 q5.1 q6.1 (0) c1 c2 c3 c1 q6.2).bind fun q12 =>
  xm_chk (q12.1 = 0 ∨ q12.1 = 1) (some (.inl (q12.1, q12.2)))))) else (
  ((fn_X12_leaveNothing m q4.1 q5.1 q6.1 (0) c1 c2 c3 c1 q6.2).bind fun q13 =>
  xm_chk (q13.1 = 0 ∨ q13.1 = 1) (some (.inl (q13.1, q13.2)))))))))
def fn_X12_threeLeaveNothing (m : Nat) (x0 : Int32) (x1 : Int32) (x2 : Int32) (u0 : xm_Y) : Option (Int32 × xm_Y) :=
  ((fn_X12_determinant m x0 x1 x2 u0).bind fun q1 =>
  if q1.1 = (0) then (
  ((lp_X12_threeLeaveNothing_17 m x0 x1 x2 m (0) q1.2).bind (Sum.elim (fun r => some r) (fun q14 =>
  some ((0), q14.2))))) else (
  some ((0), q1.2)))
theorem el_X12_threeLeaveNothing_17 (m : Nat) (c1 : Int32) (c2 : Int32) (c3 : Int32) (K : (Int32 × xm_Y) ⊕ (Int32 × xm_Y) → Option (Int32 × xm_Y)) (hK : ∀ r, K (.inl r) = some r) (kE : ∀ q : Int32 × xm_Y, xs_ (fun x : Int32 => some (.int x)) sg_0 mt_X12_threeLeaveNothing 96 [none, none, none, none, none, none, none, none, none, none, none] [] q.2 0 0 (K (.inr q))) : ∀ (n : Nat) (l4 : Int32) (u0 : xm_Y), xs_ (fun x : Int32 => some (.int x)) sg_0 mt_X12_threeLeaveNothing 17 [some (.ref 150), some (.int c1), some (.int c2), some (.int c3), some (.int l4), none, none, none, none, none, none] [] u0 0 0 ((lp_X12_threeLeaveNothing_17 m c1 c2 c3 n l4 u0).bind K) := by
  intro n
  induction n with
  | zero =>
    intro l4 u0
    exact xs_none
  | succ n ih =>
    intro l4 u0
    rw [lp_X12_threeLeaveNothing_17]
    refine xs_iload (n := 19) dX12_threeLeaveNothing_17 rfl rfl ?_
    refine xs_iconst (n := 20) (v := (3)) dX12_threeLeaveNothing_19 rfl rfl ?_
    refine xs_icmp_ge (n := 23) (tgt := 96) dX12_threeLeaveNothing_20 rfl rfl (fun hc3 => ?_) (fun hc3 => ?_)
    · exact xs_gf (kE (l4, u0)) trivial
    · refine xs_aload_n (n := 24) dX12_threeLeaveNothing_23 rfl rfl ?_
      refine xs_iload_n (n := 25) dX12_threeLeaveNothing_24 rfl rfl ?_
      refine xs_iload_n (n := 26) dX12_threeLeaveNothing_25 rfl rfl ?_
      refine xs_iload (n := 28) dX12_threeLeaveNothing_26 rfl rfl ?_
      refine ys_callvl (n := 31) (N := mt_X12_cross) dX12_threeLeaveNothing_28 rfl ok_X12_cross tw_1142 im_X12_cross se_X12_cross ⟨Nat.le_of_ble_eq_true rfl, Nat.le_of_ble_eq_true rfl⟩ [.int c2, .int c3, .int l4] [] rfl rfl (Nat.le_of_ble_eq_true rfl) rfl (Nat.le_of_ble_eq_true rfl) (en_X12_cross m c2 c3 l4 u0) sh_150 (by decide) rfl (fun q4 => ?_)
      refine xs_lstore (n := 33) (lv' := [some (.ref 150), some (.int c1), some (.int c2), some (.int c3), some (.int l4), some (.long q4.1), none, none, none, none, none]) dX12_threeLeaveNothing_31 rfl (Nat.le_of_ble_eq_true rfl) rfl ?_
      refine xs_aload_n (n := 34) dX12_threeLeaveNothing_33 rfl rfl ?_
      refine xs_iload_n (n := 35) dX12_threeLeaveNothing_34 rfl rfl ?_
      refine xs_iload_n (n := 36) dX12_threeLeaveNothing_35 rfl rfl ?_
      refine xs_iload (n := 38) dX12_threeLeaveNothing_36 rfl rfl ?_
      refine ys_callvl (n := 41) (N := mt_X12_cross) dX12_threeLeaveNothing_38 rfl ok_X12_cross tw_1142 im_X12_cross se_X12_cross ⟨Nat.le_of_ble_eq_true rfl, Nat.le_of_ble_eq_true rfl⟩ [.int c3, .int c1, .int l4] [] rfl rfl (Nat.le_of_ble_eq_true rfl) rfl (Nat.le_of_ble_eq_true rfl) (en_X12_cross m c3 c1 l4 q4.2) sh_150 (by decide) rfl (fun q5 => ?_)
      refine xs_lstore (n := 43) (lv' := [some (.ref 150), some (.int c1), some (.int c2), some (.int c3), some (.int l4), some (.long q4.1), none, some (.long q5.1), none, none, none]) dX12_threeLeaveNothing_41 rfl (Nat.le_of_ble_eq_true rfl) rfl ?_
      refine xs_aload_n (n := 44) dX12_threeLeaveNothing_43 rfl rfl ?_
      refine xs_iload_n (n := 45) dX12_threeLeaveNothing_44 rfl rfl ?_
      refine xs_iload_n (n := 46) dX12_threeLeaveNothing_45 rfl rfl ?_
      refine xs_iload (n := 48) dX12_threeLeaveNothing_46 rfl rfl ?_
      refine ys_callvl (n := 51) (N := mt_X12_cross) dX12_threeLeaveNothing_48 rfl ok_X12_cross tw_1142 im_X12_cross se_X12_cross ⟨Nat.le_of_ble_eq_true rfl, Nat.le_of_ble_eq_true rfl⟩ [.int c1, .int c2, .int l4] [] rfl rfl (Nat.le_of_ble_eq_true rfl) rfl (Nat.le_of_ble_eq_true rfl) (en_X12_cross m c1 c2 l4 q5.2) sh_150 (by decide) rfl (fun q6 => ?_)
      refine xs_lstore (n := 53) (lv' := [some (.ref 150), some (.int c1), some (.int c2), some (.int c3), some (.int l4), some (.long q4.1), none, some (.long q5.1), none, some (.long q6.1), none]) dX12_threeLeaveNothing_51 rfl (Nat.le_of_ble_eq_true rfl) rfl ?_
      refine xs_lload (n := 55) dX12_threeLeaveNothing_53 rfl rfl ?_
      refine xs_lconst (n := 56) (v := (0)) dX12_threeLeaveNothing_55 rfl rfl ?_
      refine xs_lif_ne (n := 60) (pc1 := 57) (tgt := 74) dX12_threeLeaveNothing_56 rfl dX12_threeLeaveNothing_57 rfl rfl (fun hc7 => ?_) (fun hc7 => ?_)
      · refine xs_lload (n := 62) dX12_threeLeaveNothing_60 rfl rfl ?_
        refine xs_lconst (n := 63) (v := (0)) dX12_threeLeaveNothing_62 rfl rfl ?_
        refine xs_lif_ne (n := 67) (pc1 := 64) (tgt := 74) dX12_threeLeaveNothing_63 rfl dX12_threeLeaveNothing_64 rfl rfl (fun hc8 => ?_) (fun hc8 => ?_)
        · refine xs_lload (n := 69) dX12_threeLeaveNothing_67 rfl rfl ?_
          refine xs_lconst (n := 70) (v := (0)) dX12_threeLeaveNothing_69 rfl rfl ?_
          refine xs_lif_eq (n := 74) (pc1 := 71) (tgt := 90) dX12_threeLeaveNothing_70 rfl dX12_threeLeaveNothing_71 rfl rfl (fun hc9 => ?_) (fun hc9 => ?_)
          · refine xs_iincl (n := 93) (dv := (1)) (fun v10 => [some (.ref 150), some (.int c1), some (.int c2), some (.int c3), some (.int v10), some (.long q4.1), none, some (.long q5.1), none, some (.long q6.1), none]) dX12_threeLeaveNothing_90 rfl rfl rfl (Nat.le_of_ble_eq_true rfl) (fun _ => rfl) (fun v10 => ?_)
            refine xs_goto (n := 17) dX12_threeLeaveNothing_93 rfl ?_
            exact xs_gf (ih v10 q6.2) (And.intro rfl (And.intro rfl (And.intro rfl (And.intro rfl (And.intro rfl trivial)))))
          · refine xs_aload_n (n := 75) dX12_threeLeaveNothing_74 rfl rfl ?_
            refine xs_lload (n := 77) dX12_threeLeaveNothing_75 rfl rfl ?_
            refine xs_lload (n := 79) dX12_threeLeaveNothing_77 rfl rfl ?_
            refine xs_lload (n := 81) dX12_threeLeaveNothing_79 rfl rfl ?_
            refine xs_lconst (n := 82) (v := (0)) dX12_threeLeaveNothing_81 rfl rfl ?_
            refine xs_iload_n (n := 83) dX12_threeLeaveNothing_82 rfl rfl ?_
            refine xs_iload_n (n := 84) dX12_threeLeaveNothing_83 rfl rfl ?_
            refine xs_iload_n (n := 85) dX12_threeLeaveNothing_84 rfl rfl ?_
            refine xs_iload_n (n := 86) dX12_threeLeaveNothing_85 rfl rfl ?_
            refine ys_callvi (n := 89) (N := mt_X12_leaveNothing) dX12_threeLeaveNothing_86 rfl ok_X12_leaveNothing tw_1155 im_X12_leaveNothing se_X12_leaveNothing ⟨Nat.le_of_ble_eq_true rfl, Nat.le_of_ble_eq_true rfl⟩ [.long q4.1, .long q5.1, .long q6.1, .long (0), .int c1, .int c2, .int c3, .int c1] [] rfl rfl (Nat.le_of_ble_eq_true rfl) rfl (Nat.le_of_ble_eq_true rfl) (en_X12_leaveNothing m q4.1 q5.1 q6.1 (0) c1 c2 c3 c1 q6.2) sh_150 (by decide) rfl (fun q11 => ?_)
            exact xs_zret dX12_threeLeaveNothing_89 rfl (hK _)
        · refine xs_aload_n (n := 75) dX12_threeLeaveNothing_74 rfl rfl ?_
          refine xs_lload (n := 77) dX12_threeLeaveNothing_75 rfl rfl ?_
          refine xs_lload (n := 79) dX12_threeLeaveNothing_77 rfl rfl ?_
          refine xs_lload (n := 81) dX12_threeLeaveNothing_79 rfl rfl ?_
          refine xs_lconst (n := 82) (v := (0)) dX12_threeLeaveNothing_81 rfl rfl ?_
          refine xs_iload_n (n := 83) dX12_threeLeaveNothing_82 rfl rfl ?_
          refine xs_iload_n (n := 84) dX12_threeLeaveNothing_83 rfl rfl ?_
          refine xs_iload_n (n := 85) dX12_threeLeaveNothing_84 rfl rfl ?_
          refine xs_iload_n (n := 86) dX12_threeLeaveNothing_85 rfl rfl ?_
          refine ys_callvi (n := 89) (N := mt_X12_leaveNothing) dX12_threeLeaveNothing_86 rfl ok_X12_leaveNothing tw_1155 im_X12_leaveNothing se_X12_leaveNothing ⟨Nat.le_of_ble_eq_true rfl, Nat.le_of_ble_eq_true rfl⟩ [.long q4.1, .long q5.1, .long q6.1, .long (0), .int c1, .int c2, .int c3, .int c1] [] rfl rfl (Nat.le_of_ble_eq_true rfl) rfl (Nat.le_of_ble_eq_true rfl) (en_X12_leaveNothing m q4.1 q5.1 q6.1 (0) c1 c2 c3 c1 q6.2) sh_150 (by decide) rfl (fun q12 => ?_)
          exact xs_zret dX12_threeLeaveNothing_89 rfl (hK _)
      · refine xs_aload_n (n := 75) dX12_threeLeaveNothing_74 rfl rfl ?_
        refine xs_lload (n := 77) dX12_threeLeaveNothing_75 rfl rfl ?_
        refine xs_lload (n := 79) dX12_threeLeaveNothing_77 rfl rfl ?_
        refine xs_lload (n := 81) dX12_threeLeaveNothing_79 rfl rfl ?_
        refine xs_lconst (n := 82) (v := (0)) dX12_threeLeaveNothing_81 rfl rfl ?_
        refine xs_iload_n (n := 83) dX12_threeLeaveNothing_82 rfl rfl ?_
        refine xs_iload_n (n := 84) dX12_threeLeaveNothing_83 rfl rfl ?_
        refine xs_iload_n (n := 85) dX12_threeLeaveNothing_84 rfl rfl ?_
        refine xs_iload_n (n := 86) dX12_threeLeaveNothing_85 rfl rfl ?_
        refine ys_callvi (n := 89) (N := mt_X12_leaveNothing) dX12_threeLeaveNothing_86 rfl ok_X12_leaveNothing tw_1155 im_X12_leaveNothing se_X12_leaveNothing ⟨Nat.le_of_ble_eq_true rfl, Nat.le_of_ble_eq_true rfl⟩ [.long q4.1, .long q5.1, .long q6.1, .long (0), .int c1, .int c2, .int c3, .int c1] [] rfl rfl (Nat.le_of_ble_eq_true rfl) rfl (Nat.le_of_ble_eq_true rfl) (en_X12_leaveNothing m q4.1 q5.1 q6.1 (0) c1 c2 c3 c1 q6.2) sh_150 (by decide) rfl (fun q13 => ?_)
        exact xs_zret dX12_threeLeaveNothing_89 rfl (hK _)
theorem en_X12_threeLeaveNothing (m : Nat) (x0 : Int32) (x1 : Int32) (x2 : Int32) (u0 : xm_Y) : xs_ (fun x : Int32 => some (.int x)) sg_0 mt_X12_threeLeaveNothing 0 [some (.ref 150), some (.int x0), some (.int x1), some (.int x2), none, none, none, none, none, none, none] [] u0 0 0 (fn_X12_threeLeaveNothing m x0 x1 x2 u0) := by
  refine xs_top ?_
  rw [fn_X12_threeLeaveNothing]
  refine xs_aload_n (n := 1) dX12_threeLeaveNothing_0 rfl rfl ?_
  refine xs_iload_n (n := 2) dX12_threeLeaveNothing_1 rfl rfl ?_
  refine xs_iload_n (n := 3) dX12_threeLeaveNothing_2 rfl rfl ?_
  refine xs_iload_n (n := 4) dX12_threeLeaveNothing_3 rfl rfl ?_
  refine ys_callvl (n := 7) (N := mt_X12_determinant) dX12_threeLeaveNothing_4 rfl ok_X12_determinant tw_1151 im_X12_determinant se_X12_determinant ⟨Nat.le_of_ble_eq_true rfl, Nat.le_of_ble_eq_true rfl⟩ [.int x0, .int x1, .int x2] [] rfl rfl (Nat.le_of_ble_eq_true rfl) rfl (Nat.le_of_ble_eq_true rfl) (en_X12_determinant m x0 x1 x2 u0) sh_150 (by decide) rfl (fun q1 => ?_)
  refine xs_lconst (n := 8) (v := (0)) dX12_threeLeaveNothing_7 rfl rfl ?_
  refine xs_lif_eq (n := 12) (pc1 := 9) (tgt := 14) dX12_threeLeaveNothing_8 rfl dX12_threeLeaveNothing_9 rfl rfl (fun hc2 => ?_) (fun hc2 => ?_)
  · refine xs_iconst (n := 15) (v := (0)) dX12_threeLeaveNothing_14 rfl rfl ?_
    refine xs_istore (n := 17) (lv' := [some (.ref 150), some (.int x0), some (.int x1), some (.int x2), some (.int (0)), none, none, none, none, none, none]) dX12_threeLeaveNothing_15 rfl (Nat.le_of_ble_eq_true rfl) rfl ?_
    refine xs_reg ?_
    refine xs_fg (lv' := [some (.ref 150), some (.int x0), some (.int x1), some (.int x2), some (.int (0)), none, none, none, none, none, none]) (And.intro rfl (And.intro rfl (And.intro rfl (And.intro rfl (And.intro rfl trivial))))) ?_
    refine el_X12_threeLeaveNothing_17 m x0 x1 x2 _ (fun _ => rfl) (fun q14 => ?_) m (0) q1.2
    refine xs_inr ?_
    refine xs_iconst (n := 97) (v := (0)) dX12_threeLeaveNothing_96 rfl rfl ?_
    exact xs_zretc dX12_threeLeaveNothing_97 rfl (Or.inl rfl) rfl
  · refine xs_iconst (n := 13) (v := (0)) dX12_threeLeaveNothing_12 rfl rfl ?_
    exact xs_zretc dX12_threeLeaveNothing_13 rfl (Or.inl rfl) rfl
def fn_X12_fourLeaveNothing (m : Nat) (x0 : Int32) (x1 : Int32) (x2 : Int32) (x3 : Int32) (u0 : xm_Y) : Option (Int32 × xm_Y) :=
  ((fn_X12_determinant m x1 x2 x3 u0).bind fun q1 =>
  ((fn_X12_determinant m x0 x2 x3 q1.2).bind fun q2 =>
  xm_let (α := Int64) ((-q2.1)) fun v3 =>
  ((fn_X12_determinant m x0 x1 x3 q2.2).bind fun q4 =>
  ((fn_X12_determinant m x0 x1 x2 q4.2).bind fun q5 =>
  xm_let (α := Int64) ((-q5.1)) fun v6 =>
  ((if q1.1 = (0) then (
  if v3 = (0) then (
  if q4.1 = (0) then (
  if v6 = (0) then (
  some ((0), q5.2)) else (
  ((fn_X12_leaveNothing m q1.1 v3 q4.1 v6 x0 x1 x2 x3 q5.2).bind fun q13 =>
  if q13.1 = 0 then (
  some ((0), q13.2)) else (
  some ((1), q13.2))))) else (
  ((fn_X12_leaveNothing m q1.1 v3 q4.1 v6 x0 x1 x2 x3 q5.2).bind fun q15 =>
  if q15.1 = 0 then (
  some ((0), q15.2)) else (
  some ((1), q15.2))))) else (
  ((fn_X12_leaveNothing m q1.1 v3 q4.1 v6 x0 x1 x2 x3 q5.2).bind fun q17 =>
  if q17.1 = 0 then (
  some ((0), q17.2)) else (
  some ((1), q17.2))))) else (
  ((fn_X12_leaveNothing m q1.1 v3 q4.1 v6 x0 x1 x2 x3 q5.2).bind fun q19 =>
  if q19.1 = 0 then (
  some ((0), q19.2)) else (
  some ((1), q19.2)))) : Option (Int32 × xm_Y)).bind fun q7 =>
  xm_chk (q7.1 = 0 ∨ q7.1 = 1) (some (q7.1, q7.2)))))))
theorem en_X12_fourLeaveNothing (m : Nat) (x0 : Int32) (x1 : Int32) (x2 : Int32) (x3 : Int32) (u0 : xm_Y) : xs_ (fun x : Int32 => some (.int x)) sg_0 mt_X12_fourLeaveNothing 0 [some (.ref 150), some (.int x0), some (.int x1), some (.int x2), some (.int x3), none, none, none, none, none, none, none, none] [] u0 0 0 (fn_X12_fourLeaveNothing m x0 x1 x2 x3 u0) := by
  refine xs_top ?_
  rw [fn_X12_fourLeaveNothing]
  refine xs_aload_n (n := 1) dX12_fourLeaveNothing_0 rfl rfl ?_
  refine xs_iload_n (n := 2) dX12_fourLeaveNothing_1 rfl rfl ?_
  refine xs_iload_n (n := 3) dX12_fourLeaveNothing_2 rfl rfl ?_
  refine xs_iload (n := 5) dX12_fourLeaveNothing_3 rfl rfl ?_
  refine ys_callvl (n := 8) (N := mt_X12_determinant) dX12_fourLeaveNothing_5 rfl ok_X12_determinant tw_1151 im_X12_determinant se_X12_determinant ⟨Nat.le_of_ble_eq_true rfl, Nat.le_of_ble_eq_true rfl⟩ [.int x1, .int x2, .int x3] [] rfl rfl (Nat.le_of_ble_eq_true rfl) rfl (Nat.le_of_ble_eq_true rfl) (en_X12_determinant m x1 x2 x3 u0) sh_150 (by decide) rfl (fun q1 => ?_)
  refine xs_lstore (n := 10) (lv' := [some (.ref 150), some (.int x0), some (.int x1), some (.int x2), some (.int x3), some (.long q1.1), none, none, none, none, none, none, none]) dX12_fourLeaveNothing_8 rfl (Nat.le_of_ble_eq_true rfl) rfl ?_
  refine xs_aload_n (n := 11) dX12_fourLeaveNothing_10 rfl rfl ?_
  refine xs_iload_n (n := 12) dX12_fourLeaveNothing_11 rfl rfl ?_
  refine xs_iload_n (n := 13) dX12_fourLeaveNothing_12 rfl rfl ?_
  refine xs_iload (n := 15) dX12_fourLeaveNothing_13 rfl rfl ?_
  refine ys_callvl (n := 18) (N := mt_X12_determinant) dX12_fourLeaveNothing_15 rfl ok_X12_determinant tw_1151 im_X12_determinant se_X12_determinant ⟨Nat.le_of_ble_eq_true rfl, Nat.le_of_ble_eq_true rfl⟩ [.int x0, .int x2, .int x3] [] rfl rfl (Nat.le_of_ble_eq_true rfl) rfl (Nat.le_of_ble_eq_true rfl) (en_X12_determinant m x0 x2 x3 q1.2) sh_150 (by decide) rfl (fun q2 => ?_)
  refine xs_lneg (n := 19) dX12_fourLeaveNothing_18 rfl ?_
  refine xs_letl (fun v3 => ?_)
  refine xs_lstore (n := 21) (lv' := [some (.ref 150), some (.int x0), some (.int x1), some (.int x2), some (.int x3), some (.long q1.1), none, some (.long v3), none, none, none, none, none]) dX12_fourLeaveNothing_19 rfl (Nat.le_of_ble_eq_true rfl) rfl ?_
  refine xs_aload_n (n := 22) dX12_fourLeaveNothing_21 rfl rfl ?_
  refine xs_iload_n (n := 23) dX12_fourLeaveNothing_22 rfl rfl ?_
  refine xs_iload_n (n := 24) dX12_fourLeaveNothing_23 rfl rfl ?_
  refine xs_iload (n := 26) dX12_fourLeaveNothing_24 rfl rfl ?_
  refine ys_callvl (n := 29) (N := mt_X12_determinant) dX12_fourLeaveNothing_26 rfl ok_X12_determinant tw_1151 im_X12_determinant se_X12_determinant ⟨Nat.le_of_ble_eq_true rfl, Nat.le_of_ble_eq_true rfl⟩ [.int x0, .int x1, .int x3] [] rfl rfl (Nat.le_of_ble_eq_true rfl) rfl (Nat.le_of_ble_eq_true rfl) (en_X12_determinant m x0 x1 x3 q2.2) sh_150 (by decide) rfl (fun q4 => ?_)
  refine xs_lstore (n := 31) (lv' := [some (.ref 150), some (.int x0), some (.int x1), some (.int x2), some (.int x3), some (.long q1.1), none, some (.long v3), none, some (.long q4.1), none, none, none]) dX12_fourLeaveNothing_29 rfl (Nat.le_of_ble_eq_true rfl) rfl ?_
  refine xs_aload_n (n := 32) dX12_fourLeaveNothing_31 rfl rfl ?_
  refine xs_iload_n (n := 33) dX12_fourLeaveNothing_32 rfl rfl ?_
  refine xs_iload_n (n := 34) dX12_fourLeaveNothing_33 rfl rfl ?_
  refine xs_iload_n (n := 35) dX12_fourLeaveNothing_34 rfl rfl ?_
  refine ys_callvl (n := 38) (N := mt_X12_determinant) dX12_fourLeaveNothing_35 rfl ok_X12_determinant tw_1151 im_X12_determinant se_X12_determinant ⟨Nat.le_of_ble_eq_true rfl, Nat.le_of_ble_eq_true rfl⟩ [.int x0, .int x1, .int x2] [] rfl rfl (Nat.le_of_ble_eq_true rfl) rfl (Nat.le_of_ble_eq_true rfl) (en_X12_determinant m x0 x1 x2 q4.2) sh_150 (by decide) rfl (fun q5 => ?_)
  refine xs_lneg (n := 39) dX12_fourLeaveNothing_38 rfl ?_
  refine xs_letl (fun v6 => ?_)
  refine xs_lstore (n := 41) (lv' := [some (.ref 150), some (.int x0), some (.int x1), some (.int x2), some (.int x3), some (.long q1.1), none, some (.long v3), none, some (.long q4.1), none, some (.long v6), none]) dX12_fourLeaveNothing_39 rfl (Nat.le_of_ble_eq_true rfl) rfl ?_
  refine xs_lload (n := 43) dX12_fourLeaveNothing_41 rfl rfl ?_
  refine xs_lconst (n := 44) (v := (0)) dX12_fourLeaveNothing_43 rfl rfl ?_
  refine xs_join 94 (fun q7 => [none, none, none, none, none, none, none, none, none, none, none, none, none]) (fun q7 => [.int q7.1]) (fun q7 => q7.2) (fun q7 => ?_) (fun kj8 => ?_)
  · exact xs_zret dX12_fourLeaveNothing_94 rfl rfl
  · refine xs_lif_ne (n := 48) (pc1 := 45) (tgt := 69) dX12_fourLeaveNothing_44 rfl dX12_fourLeaveNothing_45 rfl rfl (fun hc9 => ?_) (fun hc9 => ?_)
    · refine xs_lload (n := 50) dX12_fourLeaveNothing_48 rfl rfl ?_
      refine xs_lconst (n := 51) (v := (0)) dX12_fourLeaveNothing_50 rfl rfl ?_
      refine xs_lif_ne (n := 55) (pc1 := 52) (tgt := 69) dX12_fourLeaveNothing_51 rfl dX12_fourLeaveNothing_52 rfl rfl (fun hc10 => ?_) (fun hc10 => ?_)
      · refine xs_lload (n := 57) dX12_fourLeaveNothing_55 rfl rfl ?_
        refine xs_lconst (n := 58) (v := (0)) dX12_fourLeaveNothing_57 rfl rfl ?_
        refine xs_lif_ne (n := 62) (pc1 := 59) (tgt := 69) dX12_fourLeaveNothing_58 rfl dX12_fourLeaveNothing_59 rfl rfl (fun hc11 => ?_) (fun hc11 => ?_)
        · refine xs_lload (n := 64) dX12_fourLeaveNothing_62 rfl rfl ?_
          refine xs_lconst (n := 65) (v := (0)) dX12_fourLeaveNothing_64 rfl rfl ?_
          refine xs_lif_eq (n := 69) (pc1 := 66) (tgt := 93) dX12_fourLeaveNothing_65 rfl dX12_fourLeaveNothing_66 rfl rfl (fun hc12 => ?_) (fun hc12 => ?_)
          · refine xs_iconst (n := 94) (v := (0)) dX12_fourLeaveNothing_93 rfl rfl ?_
            exact xs_gf (kj8 ((0), q5.2)) trivial
          · refine xs_aload_n (n := 70) dX12_fourLeaveNothing_69 rfl rfl ?_
            refine xs_lload (n := 72) dX12_fourLeaveNothing_70 rfl rfl ?_
            refine xs_lload (n := 74) dX12_fourLeaveNothing_72 rfl rfl ?_
            refine xs_lload (n := 76) dX12_fourLeaveNothing_74 rfl rfl ?_
            refine xs_lload (n := 78) dX12_fourLeaveNothing_76 rfl rfl ?_
            refine xs_iload_n (n := 79) dX12_fourLeaveNothing_78 rfl rfl ?_
            refine xs_iload_n (n := 80) dX12_fourLeaveNothing_79 rfl rfl ?_
            refine xs_iload_n (n := 81) dX12_fourLeaveNothing_80 rfl rfl ?_
            refine xs_iload (n := 83) dX12_fourLeaveNothing_81 rfl rfl ?_
            refine ys_callvi (n := 86) (N := mt_X12_leaveNothing) dX12_fourLeaveNothing_83 rfl ok_X12_leaveNothing tw_1155 im_X12_leaveNothing se_X12_leaveNothing ⟨Nat.le_of_ble_eq_true rfl, Nat.le_of_ble_eq_true rfl⟩ [.long q1.1, .long v3, .long q4.1, .long v6, .int x0, .int x1, .int x2, .int x3] [] rfl rfl (Nat.le_of_ble_eq_true rfl) rfl (Nat.le_of_ble_eq_true rfl) (en_X12_leaveNothing m q1.1 v3 q4.1 v6 x0 x1 x2 x3 q5.2) sh_150 (by decide) rfl (fun q13 => ?_)
            refine xs_if_eq (n := 89) (tgt := 93) dX12_fourLeaveNothing_86 rfl rfl (fun hc14 => ?_) (fun hc14 => ?_)
            · refine xs_iconst (n := 94) (v := (0)) dX12_fourLeaveNothing_93 rfl rfl ?_
              exact xs_gf (kj8 ((0), q13.2)) trivial
            · refine xs_iconst (n := 90) (v := (1)) dX12_fourLeaveNothing_89 rfl rfl ?_
              refine xs_goto (n := 94) dX12_fourLeaveNothing_90 rfl ?_
              exact xs_gf (kj8 ((1), q13.2)) trivial
        · refine xs_aload_n (n := 70) dX12_fourLeaveNothing_69 rfl rfl ?_
          refine xs_lload (n := 72) dX12_fourLeaveNothing_70 rfl rfl ?_
          refine xs_lload (n := 74) dX12_fourLeaveNothing_72 rfl rfl ?_
          refine xs_lload (n := 76) dX12_fourLeaveNothing_74 rfl rfl ?_
          refine xs_lload (n := 78) dX12_fourLeaveNothing_76 rfl rfl ?_
          refine xs_iload_n (n := 79) dX12_fourLeaveNothing_78 rfl rfl ?_
          refine xs_iload_n (n := 80) dX12_fourLeaveNothing_79 rfl rfl ?_
          refine xs_iload_n (n := 81) dX12_fourLeaveNothing_80 rfl rfl ?_
          refine xs_iload (n := 83) dX12_fourLeaveNothing_81 rfl rfl ?_
          refine ys_callvi (n := 86) (N := mt_X12_leaveNothing) dX12_fourLeaveNothing_83 rfl ok_X12_leaveNothing tw_1155 im_X12_leaveNothing se_X12_leaveNothing ⟨Nat.le_of_ble_eq_true rfl, Nat.le_of_ble_eq_true rfl⟩ [.long q1.1, .long v3, .long q4.1, .long v6, .int x0, .int x1, .int x2, .int x3] [] rfl rfl (Nat.le_of_ble_eq_true rfl) rfl (Nat.le_of_ble_eq_true rfl) (en_X12_leaveNothing m q1.1 v3 q4.1 v6 x0 x1 x2 x3 q5.2) sh_150 (by decide) rfl (fun q15 => ?_)
          refine xs_if_eq (n := 89) (tgt := 93) dX12_fourLeaveNothing_86 rfl rfl (fun hc16 => ?_) (fun hc16 => ?_)
          · refine xs_iconst (n := 94) (v := (0)) dX12_fourLeaveNothing_93 rfl rfl ?_
            exact xs_gf (kj8 ((0), q15.2)) trivial
          · refine xs_iconst (n := 90) (v := (1)) dX12_fourLeaveNothing_89 rfl rfl ?_
            refine xs_goto (n := 94) dX12_fourLeaveNothing_90 rfl ?_
            exact xs_gf (kj8 ((1), q15.2)) trivial
      · refine xs_aload_n (n := 70) dX12_fourLeaveNothing_69 rfl rfl ?_
        refine xs_lload (n := 72) dX12_fourLeaveNothing_70 rfl rfl ?_
        refine xs_lload (n := 74) dX12_fourLeaveNothing_72 rfl rfl ?_
        refine xs_lload (n := 76) dX12_fourLeaveNothing_74 rfl rfl ?_
        refine xs_lload (n := 78) dX12_fourLeaveNothing_76 rfl rfl ?_
        refine xs_iload_n (n := 79) dX12_fourLeaveNothing_78 rfl rfl ?_
        refine xs_iload_n (n := 80) dX12_fourLeaveNothing_79 rfl rfl ?_
        refine xs_iload_n (n := 81) dX12_fourLeaveNothing_80 rfl rfl ?_
        refine xs_iload (n := 83) dX12_fourLeaveNothing_81 rfl rfl ?_
        refine ys_callvi (n := 86) (N := mt_X12_leaveNothing) dX12_fourLeaveNothing_83 rfl ok_X12_leaveNothing tw_1155 im_X12_leaveNothing se_X12_leaveNothing ⟨Nat.le_of_ble_eq_true rfl, Nat.le_of_ble_eq_true rfl⟩ [.long q1.1, .long v3, .long q4.1, .long v6, .int x0, .int x1, .int x2, .int x3] [] rfl rfl (Nat.le_of_ble_eq_true rfl) rfl (Nat.le_of_ble_eq_true rfl) (en_X12_leaveNothing m q1.1 v3 q4.1 v6 x0 x1 x2 x3 q5.2) sh_150 (by decide) rfl (fun q17 => ?_)
        refine xs_if_eq (n := 89) (tgt := 93) dX12_fourLeaveNothing_86 rfl rfl (fun hc18 => ?_) (fun hc18 => ?_)
        · refine xs_iconst (n := 94) (v := (0)) dX12_fourLeaveNothing_93 rfl rfl ?_
          exact xs_gf (kj8 ((0), q17.2)) trivial
        · refine xs_iconst (n := 90) (v := (1)) dX12_fourLeaveNothing_89 rfl rfl ?_
          refine xs_goto (n := 94) dX12_fourLeaveNothing_90 rfl ?_
          exact xs_gf (kj8 ((1), q17.2)) trivial
    · refine xs_aload_n (n := 70) dX12_fourLeaveNothing_69 rfl rfl ?_
      refine xs_lload (n := 72) dX12_fourLeaveNothing_70 rfl rfl ?_
      refine xs_lload (n := 74) dX12_fourLeaveNothing_72 rfl rfl ?_
      refine xs_lload (n := 76) dX12_fourLeaveNothing_74 rfl rfl ?_
      refine xs_lload (n := 78) dX12_fourLeaveNothing_76 rfl rfl ?_
      refine xs_iload_n (n := 79) dX12_fourLeaveNothing_78 rfl rfl ?_
      refine xs_iload_n (n := 80) dX12_fourLeaveNothing_79 rfl rfl ?_
      refine xs_iload_n (n := 81) dX12_fourLeaveNothing_80 rfl rfl ?_
      refine xs_iload (n := 83) dX12_fourLeaveNothing_81 rfl rfl ?_
      refine ys_callvi (n := 86) (N := mt_X12_leaveNothing) dX12_fourLeaveNothing_83 rfl ok_X12_leaveNothing tw_1155 im_X12_leaveNothing se_X12_leaveNothing ⟨Nat.le_of_ble_eq_true rfl, Nat.le_of_ble_eq_true rfl⟩ [.long q1.1, .long v3, .long q4.1, .long v6, .int x0, .int x1, .int x2, .int x3] [] rfl rfl (Nat.le_of_ble_eq_true rfl) rfl (Nat.le_of_ble_eq_true rfl) (en_X12_leaveNothing m q1.1 v3 q4.1 v6 x0 x1 x2 x3 q5.2) sh_150 (by decide) rfl (fun q19 => ?_)
      refine xs_if_eq (n := 89) (tgt := 93) dX12_fourLeaveNothing_86 rfl rfl (fun hc20 => ?_) (fun hc20 => ?_)
      · refine xs_iconst (n := 94) (v := (0)) dX12_fourLeaveNothing_93 rfl rfl ?_
        exact xs_gf (kj8 ((0), q19.2)) trivial
      · refine xs_iconst (n := 90) (v := (1)) dX12_fourLeaveNothing_89 rfl rfl ?_
        refine xs_goto (n := 94) dX12_fourLeaveNothing_90 rfl ?_
        exact xs_gf (kj8 ((1), q19.2)) trivial
def lp_X12_laySides_7 (m : Nat) (c1 : Int32) : Nat → Int32 → xm_Y → Option (Int32 × xm_Y)
  | 0, _, _ => none
  | n + 1, l2, u0 =>
  xm_chk (xm_in c1 5) (
  if (u0.1 151 (Int32.toNatClampNeg c1)) ≤ l2 then (
  some (l2, u0)) else (
  xm_let (α := Int32) (((((6) * c1) + l2) * (4))) fun v3 =>
  xm_chk (xm_in v3 120) (
  xm_chk (xm_in (v3 + (1)) 120) (
  xm_chk (xm_in (v3 + (2)) 120) (
  xm_chk (xm_in (v3 + (3)) 120) (
  ((fn_X12_addSide m (Int32.toInt64 (u0.1 152 (Int32.toNatClampNeg v3))) (Int32.toInt64 (u0.1 152 (Int32.toNatClampNeg (v3 + (1))))) (Int32.toInt64 (u0.1 152 (Int32.toNatClampNeg (v3 + (2))))) (Int32.toInt64 (-(u0.1 152 (Int32.toNatClampNeg (v3 + (3)))))) u0).bind fun q4 =>
  xm_let (α := Int32) (l2 + (1)) fun v5 =>
  lp_X12_laySides_7 m c1 n v5 q4.2)))))))
def lp_X12_laySides_73 (m : Nat) : Nat → Int32 → xm_Y → Option (Int32 × xm_Y)
  | 0, _, _ => none
  | n + 1, l2, u0 =>
  if ((2) * (u0.1 150 0)) ≤ l2 then (
  some (l2, u0)) else (
  xm_chk (xm_in l2 6) (
  ((if (u0.1 156 (Int32.toNatClampNeg l2)) = 0 then (
  xm_chk (¬ (2) = 0) (
  ((if (l2 - l2 / (2) * (2)) = 0 then (
  some ((1))) else (
  some ((-1))) : Option (Int64)).bind fun q11 =>
  xm_chk (¬ (2) = 0) (
  ((if (l2 / (2)) = 0 then (
  some (q11)) else (
  some ((0))) : Option (Int64)).bind fun q14 =>
  xm_chk (¬ (2) = 0) (
  ((if (l2 / (2)) = (1) then (
  some (q11)) else (
  some ((0))) : Option (Int64)).bind fun q17 =>
  xm_chk (¬ (2) = 0) (
  ((if (l2 / (2)) = (2) then (
  some (q11)) else (
  some ((0))) : Option (Int64)).bind fun q20 =>
  xm_chk (xm_in l2 6) (
  ((fn_X12_addSide m q14 q17 q20 (q11 * (u0.2 155 (Int32.toNatClampNeg l2))) u0).bind fun q23 =>
  some (q23.2)))))))))))) else (
  some (u0)) : Option (xm_Y)).bind fun q8 =>
  xm_let (α := Int32) (l2 + (1)) fun v24 =>
  lp_X12_laySides_73 m n v24 q8)))
def lp_X12_laySides_281 (m : Nat) (c2 : Int32) (c3 : Int32) (c4 : Int32) : Nat → Int32 → xm_Y → Option (Int32 × xm_Y)
  | 0, _, _ => none
  | n + 1, l5, u0 =>
  if (u0.1 150 11) ≤ l5 then (
  some (l5, u0)) else (
  if (u0.1 150 17) = 0 then (
  ((fn_X12_fourLeaveNothing m c2 c3 c4 l5 u0).bind fun q48 =>
  xm_chk (q48.1 = 0 ∨ q48.1 = 1) (
  xm_let (w_I q48.2 150 17 q48.1) fun u49 =>
  xm_let (α := Int32) (l5 + (1)) fun v50 =>
  lp_X12_laySides_281 m c2 c3 c4 n v50 u49))) else (
  some (l5, u0)))
def lp_X12_laySides_247 (m : Nat) (c2 : Int32) (c3 : Int32) : Nat → Int32 → xm_Y → Option (Int32 × xm_Y)
  | 0, _, _ => none
  | n + 1, l4, u0 =>
  if (u0.1 150 11) ≤ l4 then (
  some (l4, u0)) else (
  if (u0.1 150 17) = 0 then (
  ((fn_X12_threeLeaveNothing m c2 c3 l4 u0).bind fun q43 =>
  xm_chk (q43.1 = 0 ∨ q43.1 = 1) (
  xm_let (w_I q43.2 150 17 q43.1) fun u44 =>
  xm_let (α := Int32) ((l4 + (1))) fun v45 =>
  ((lp_X12_laySides_281 m c2 c3 l4 m v45 u44).bind fun q51 =>
  xm_let (α := Int32) (l4 + (1)) fun v52 =>
  lp_X12_laySides_247 m c2 c3 n v52 q51.2)))) else (
  some (l4, u0)))
def lp_X12_laySides_217 (m : Nat) (c2 : Int32) : Nat → Int32 → xm_Y → Option (Int32 × xm_Y)
  | 0, _, _ => none
  | n + 1, l3, u0 =>
  if (u0.1 150 11) ≤ l3 then (
  some (l3, u0)) else (
  if (u0.1 150 17) = 0 then (
  ((fn_X12_twoLeaveNothing m c2 l3 u0).bind fun q38 =>
  xm_chk (q38.1 = 0 ∨ q38.1 = 1) (
  xm_let (w_I q38.2 150 17 q38.1) fun u39 =>
  xm_let (α := Int32) ((l3 + (1))) fun v40 =>
  ((lp_X12_laySides_247 m c2 l3 m v40 u39).bind fun q53 =>
  xm_let (α := Int32) (l3 + (1)) fun v54 =>
  lp_X12_laySides_217 m c2 n v54 q53.2)))) else (
  some (l3, u0)))
def lp_X12_laySides_166 (m : Nat) : Nat → Int32 → xm_Y → Option (Int32 × xm_Y)
  | 0, _, _ => none
  | n + 1, l2, u0 =>
  if (u0.1 150 11) ≤ l2 then (
  some (l2, u0)) else (
  if (u0.1 150 17) = 0 then (
  ((fn_X12_isZero m l2 u0).bind fun q29 =>
  ((if q29.1 = 0 then (
  some ((0))) else (
  xm_chk (xm_in (((4) * l2) + (3)) 48) (
  if (q29.2.2 159 (Int32.toNatClampNeg (((4) * l2) + (3)))) ≤ (0) then (
  some ((0))) else (
  some ((1))))) : Option (Int32)).bind fun q30 =>
  xm_chk (q30 = 0 ∨ q30 = 1) (
  xm_let (w_I q29.2 150 17 q30) fun u34 =>
  xm_let (α := Int32) ((l2 + (1))) fun v35 =>
  ((lp_X12_laySides_217 m l2 m v35 u34).bind fun q55 =>
  xm_let (α := Int32) (l2 + (1)) fun v56 =>
  lp_X12_laySides_166 m n v56 q55.2))))) else (
  some (l2, u0)))
def fn_X12_laySides (m : Nat) (x0 : Int32) (u0 : xm_Y) : Option (Unit × xm_Y) :=
  xm_let (w_I u0 150 11 (0)) fun u1 =>
  ((lp_X12_laySides_7 m x0 m (0) u1).bind fun q6 =>
  ((lp_X12_laySides_73 m m (0) q6.2).bind fun q25 =>
  xm_let (w_I q25.2 150 17 (0)) fun u26 =>
  ((lp_X12_laySides_166 m m (0) u26).bind fun q57 =>
  some ((), q57.2))))
theorem el_X12_laySides_7 (m : Nat) (c1 : Int32) (K : Int32 × xm_Y → Option (Unit × xm_Y)) (kE : ∀ q : Int32 × xm_Y, xs_ (fun _ : Unit => none) sg_0 mt_X12_laySides 71 [some (.ref 150), none, none, none, none, none] [] q.2 0 0 (K q)) : ∀ (n : Nat) (l2 : Int32) (u0 : xm_Y), xs_ (fun _ : Unit => none) sg_0 mt_X12_laySides 7 [some (.ref 150), some (.int c1), some (.int l2), none, none, none] [] u0 0 0 ((lp_X12_laySides_7 m c1 n l2 u0).bind K) := by
  intro n
  induction n with
  | zero =>
    intro l2 u0
    exact xs_none
  | succ n ih =>
    intro l2 u0
    rw [lp_X12_laySides_7]
    refine xs_iload_n (n := 8) dX12_laySides_7 rfl rfl ?_
    refine xs_aload_n (n := 9) dX12_laySides_8 rfl rfl ?_
    refine ys_getr (n := 12) dX12_laySides_9 rfl fl_X12_13 sh_150 rfl ?_
    refine xs_iload_n (n := 13) dX12_laySides_12 rfl rfl ?_
    refine ys_iaload (n := 14) dX12_laySides_13 rfl sh_151 ?_
    refine xs_icmp_ge (n := 17) (tgt := 71) dX12_laySides_14 rfl rfl (fun hc2 => ?_) (fun hc2 => ?_)
    · exact xs_gf (kE (l2, u0)) (And.intro rfl trivial)
    · refine xs_bipush (n := 19) (v := (6)) dX12_laySides_17 rfl rfl ?_
      refine xs_iload_n (n := 20) dX12_laySides_19 rfl rfl ?_
      refine xs_imul (n := 21) dX12_laySides_20 rfl ?_
      refine xs_iload_n (n := 22) dX12_laySides_21 rfl rfl ?_
      refine xs_iadd (n := 23) dX12_laySides_22 rfl ?_
      refine xs_iconst (n := 24) (v := (4)) dX12_laySides_23 rfl rfl ?_
      refine xs_imul (n := 25) dX12_laySides_24 rfl ?_
      refine xs_leti (fun v3 => ?_)
      refine xs_istore_n (n := 26) (lv' := [some (.ref 150), some (.int c1), some (.int l2), some (.int v3), none, none]) dX12_laySides_25 rfl (Nat.le_of_ble_eq_true rfl) rfl ?_
      refine xs_aload_n (n := 27) dX12_laySides_26 rfl rfl ?_
      refine xs_aload_n (n := 28) dX12_laySides_27 rfl rfl ?_
      refine ys_getr (n := 31) dX12_laySides_28 rfl fl_X12_17 sh_150 rfl ?_
      refine xs_iload_n (n := 32) dX12_laySides_31 rfl rfl ?_
      refine ys_iaload (n := 33) dX12_laySides_32 rfl sh_152 ?_
      refine xs_i2l (n := 34) dX12_laySides_33 rfl ?_
      refine xs_aload_n (n := 35) dX12_laySides_34 rfl rfl ?_
      refine ys_getr (n := 38) dX12_laySides_35 rfl fl_X12_17 sh_150 rfl ?_
      refine xs_iload_n (n := 39) dX12_laySides_38 rfl rfl ?_
      refine xs_iconst (n := 40) (v := (1)) dX12_laySides_39 rfl rfl ?_
      refine xs_iadd (n := 41) dX12_laySides_40 rfl ?_
      refine ys_iaload (n := 42) dX12_laySides_41 rfl sh_152 ?_
      refine xs_i2l (n := 43) dX12_laySides_42 rfl ?_
      refine xs_aload_n (n := 44) dX12_laySides_43 rfl rfl ?_
      refine ys_getr (n := 47) dX12_laySides_44 rfl fl_X12_17 sh_150 rfl ?_
      refine xs_iload_n (n := 48) dX12_laySides_47 rfl rfl ?_
      refine xs_iconst (n := 49) (v := (2)) dX12_laySides_48 rfl rfl ?_
      refine xs_iadd (n := 50) dX12_laySides_49 rfl ?_
      refine ys_iaload (n := 51) dX12_laySides_50 rfl sh_152 ?_
      refine xs_i2l (n := 52) dX12_laySides_51 rfl ?_
      refine xs_aload_n (n := 53) dX12_laySides_52 rfl rfl ?_
      refine ys_getr (n := 56) dX12_laySides_53 rfl fl_X12_17 sh_150 rfl ?_
      refine xs_iload_n (n := 57) dX12_laySides_56 rfl rfl ?_
      refine xs_iconst (n := 58) (v := (3)) dX12_laySides_57 rfl rfl ?_
      refine xs_iadd (n := 59) dX12_laySides_58 rfl ?_
      refine ys_iaload (n := 60) dX12_laySides_59 rfl sh_152 ?_
      refine xs_ineg (n := 61) dX12_laySides_60 rfl ?_
      refine xs_i2l (n := 62) dX12_laySides_61 rfl ?_
      refine ys_callvv (n := 65) (N := mt_X12_addSide) dX12_laySides_62 rfl ok_X12_addSide tw_1125 im_X12_addSide se_X12_addSide ⟨Nat.le_of_ble_eq_true rfl, Nat.le_of_ble_eq_true rfl⟩ [.long (Int32.toInt64 (u0.1 152 (Int32.toNatClampNeg v3))), .long (Int32.toInt64 (u0.1 152 (Int32.toNatClampNeg (v3 + (1))))), .long (Int32.toInt64 (u0.1 152 (Int32.toNatClampNeg (v3 + (2))))), .long (Int32.toInt64 (-(u0.1 152 (Int32.toNatClampNeg (v3 + (3))))))] [] rfl rfl (Nat.le_of_ble_eq_true rfl) rfl (Nat.le_of_ble_eq_true rfl) (en_X12_addSide m (Int32.toInt64 (u0.1 152 (Int32.toNatClampNeg v3))) (Int32.toInt64 (u0.1 152 (Int32.toNatClampNeg (v3 + (1))))) (Int32.toInt64 (u0.1 152 (Int32.toNatClampNeg (v3 + (2))))) (Int32.toInt64 (-(u0.1 152 (Int32.toNatClampNeg (v3 + (3)))))) u0) sh_150 (by decide) rfl (fun q4 => ?_)
      refine xs_iincl (n := 68) (dv := (1)) (fun v5 => [some (.ref 150), some (.int c1), some (.int v5), some (.int v3), none, none]) dX12_laySides_65 rfl rfl rfl (Nat.le_of_ble_eq_true rfl) (fun _ => rfl) (fun v5 => ?_)
      refine xs_goto (n := 7) dX12_laySides_68 rfl ?_
      exact xs_gf (ih v5 q4.2) (And.intro rfl (And.intro rfl (And.intro rfl trivial)))
theorem el_X12_laySides_73 (m : Nat) (K : Int32 × xm_Y → Option (Unit × xm_Y)) (kE : ∀ q : Int32 × xm_Y, xs_ (fun _ : Unit => none) sg_0 mt_X12_laySides 159 [some (.ref 150), none, none, none, none, none] [] q.2 0 0 (K q)) : ∀ (n : Nat) (l2 : Int32) (u0 : xm_Y), xs_ (fun _ : Unit => none) sg_0 mt_X12_laySides 73 [some (.ref 150), none, some (.int l2), none, none, none] [] u0 0 0 ((lp_X12_laySides_73 m n l2 u0).bind K) := by
  intro n
  induction n with
  | zero =>
    intro l2 u0
    exact xs_none
  | succ n ih =>
    intro l2 u0
    rw [lp_X12_laySides_73]
    refine xs_iload_n (n := 74) dX12_laySides_73 rfl rfl ?_
    refine xs_iconst (n := 75) (v := (2)) dX12_laySides_74 rfl rfl ?_
    refine xs_aload_n (n := 76) dX12_laySides_75 rfl rfl ?_
    refine ys_geti (n := 79) dX12_laySides_76 rfl fl_X12_7 (Or.inl rfl) sh_150 ?_
    refine xs_imul (n := 80) dX12_laySides_79 rfl ?_
    refine xs_icmp_ge (n := 83) (tgt := 159) dX12_laySides_80 rfl rfl (fun hc7 => ?_) (fun hc7 => ?_)
    · exact xs_gf (kE (l2, u0)) (And.intro rfl trivial)
    · refine xs_aload_n (n := 84) dX12_laySides_83 rfl rfl ?_
      refine ys_getr (n := 87) dX12_laySides_84 rfl fl_X12_30 sh_150 rfl ?_
      refine xs_iload_n (n := 88) dX12_laySides_87 rfl rfl ?_
      refine ys_baload (n := 89) dX12_laySides_88 rfl sh_156 ?_
      refine xs_join 153 (fun q8 => [some (.ref 150), none, some (.int l2), none, none, none]) (fun q8 => []) (fun q8 => q8) (fun q8 => ?_) (fun kj9 => ?_)
      · refine xs_iincl (n := 156) (dv := (1)) (fun v24 => [some (.ref 150), none, some (.int v24), none, none, none]) dX12_laySides_153 rfl rfl rfl (Nat.le_of_ble_eq_true rfl) (fun _ => rfl) (fun v24 => ?_)
        refine xs_goto (n := 73) dX12_laySides_156 rfl ?_
        exact xs_gf (ih v24 q8) (And.intro rfl (And.intro rfl trivial))
      · refine xs_if_ne (n := 92) (tgt := 153) dX12_laySides_89 rfl rfl (fun hc10 => ?_) (fun hc10 => ?_)
        · refine xs_iload_n (n := 93) dX12_laySides_92 rfl rfl ?_
          refine xs_iconst (n := 94) (v := (2)) dX12_laySides_93 rfl rfl ?_
          refine xs_irem (n := 95) dX12_laySides_94 rfl (fun _ => ?_)
          refine xs_join 105 (fun q11 => [some (.ref 150), none, some (.int l2), none, none, none]) (fun q11 => [.long q11]) (fun q11 => u0) (fun q11 => ?_) (fun kj12 => ?_)
          · refine xs_lstore_n (n := 106) (lv' := [some (.ref 150), none, some (.int l2), some (.long q11), none, none]) dX12_laySides_105 rfl (Nat.le_of_ble_eq_true rfl) rfl ?_
            refine xs_aload_n (n := 107) dX12_laySides_106 rfl rfl ?_
            refine xs_iload_n (n := 108) dX12_laySides_107 rfl rfl ?_
            refine xs_iconst (n := 109) (v := (2)) dX12_laySides_108 rfl rfl ?_
            refine xs_idiv (n := 110) dX12_laySides_109 rfl (fun _ => ?_)
            refine xs_join 118 (fun q14 => [some (.ref 150), none, some (.int l2), some (.long q11), none, none]) (fun q14 => [.long q14, .ref 150]) (fun q14 => u0) (fun q14 => ?_) (fun kj15 => ?_)
            · refine xs_iload_n (n := 119) dX12_laySides_118 rfl rfl ?_
              refine xs_iconst (n := 120) (v := (2)) dX12_laySides_119 rfl rfl ?_
              refine xs_idiv (n := 121) dX12_laySides_120 rfl (fun _ => ?_)
              refine xs_iconst (n := 122) (v := (1)) dX12_laySides_121 rfl rfl ?_
              refine xs_join 130 (fun q17 => [some (.ref 150), none, some (.int l2), some (.long q11), none, none]) (fun q17 => [.long q17, .long q14, .ref 150]) (fun q17 => u0) (fun q17 => ?_) (fun kj18 => ?_)
              · refine xs_iload_n (n := 131) dX12_laySides_130 rfl rfl ?_
                refine xs_iconst (n := 132) (v := (2)) dX12_laySides_131 rfl rfl ?_
                refine xs_idiv (n := 133) dX12_laySides_132 rfl (fun _ => ?_)
                refine xs_iconst (n := 134) (v := (2)) dX12_laySides_133 rfl rfl ?_
                refine xs_join 142 (fun q20 => [some (.ref 150), none, some (.int l2), some (.long q11), none, none]) (fun q20 => [.long q20, .long q17, .long q14, .ref 150]) (fun q20 => u0) (fun q20 => ?_) (fun kj21 => ?_)
                · refine xs_lload_n (n := 143) dX12_laySides_142 rfl rfl ?_
                  refine xs_aload_n (n := 144) dX12_laySides_143 rfl rfl ?_
                  refine ys_getr (n := 147) dX12_laySides_144 rfl fl_X12_27 sh_150 rfl ?_
                  refine xs_iload_n (n := 148) dX12_laySides_147 rfl rfl ?_
                  refine ys_laload (n := 149) dX12_laySides_148 rfl sh_155 ?_
                  refine xs_lmul (n := 150) dX12_laySides_149 rfl ?_
                  refine ys_callvv (n := 153) (N := mt_X12_addSide) dX12_laySides_150 rfl ok_X12_addSide tw_1125 im_X12_addSide se_X12_addSide ⟨Nat.le_of_ble_eq_true rfl, Nat.le_of_ble_eq_true rfl⟩ [.long q14, .long q17, .long q20, .long (q11 * (u0.2 155 (Int32.toNatClampNeg l2)))] [] rfl rfl (Nat.le_of_ble_eq_true rfl) rfl (Nat.le_of_ble_eq_true rfl) (en_X12_addSide m q14 q17 q20 (q11 * (u0.2 155 (Int32.toNatClampNeg l2))) u0) sh_150 (by decide) rfl (fun q23 => ?_)
                  exact xs_gf (kj9 (q23.2)) (And.intro rfl (And.intro rfl trivial))
                · refine xs_icmp_ne (n := 137) (tgt := 141) dX12_laySides_134 rfl rfl (fun hc22 => ?_) (fun hc22 => ?_)
                  · refine xs_lload_n (n := 138) dX12_laySides_137 rfl rfl ?_
                    refine xs_goto (n := 142) dX12_laySides_138 rfl ?_
                    exact xs_gf (kj21 (q11)) (And.intro rfl (And.intro rfl (And.intro rfl trivial)))
                  · refine xs_lconst (n := 142) (v := (0)) dX12_laySides_141 rfl rfl ?_
                    exact xs_gf (kj21 ((0))) (And.intro rfl (And.intro rfl (And.intro rfl trivial)))
              · refine xs_icmp_ne (n := 125) (tgt := 129) dX12_laySides_122 rfl rfl (fun hc19 => ?_) (fun hc19 => ?_)
                · refine xs_lload_n (n := 126) dX12_laySides_125 rfl rfl ?_
                  refine xs_goto (n := 130) dX12_laySides_126 rfl ?_
                  exact xs_gf (kj18 (q11)) (And.intro rfl (And.intro rfl (And.intro rfl trivial)))
                · refine xs_lconst (n := 130) (v := (0)) dX12_laySides_129 rfl rfl ?_
                  exact xs_gf (kj18 ((0))) (And.intro rfl (And.intro rfl (And.intro rfl trivial)))
            · refine xs_if_ne (n := 113) (tgt := 117) dX12_laySides_110 rfl rfl (fun hc16 => ?_) (fun hc16 => ?_)
              · refine xs_lload_n (n := 114) dX12_laySides_113 rfl rfl ?_
                refine xs_goto (n := 118) dX12_laySides_114 rfl ?_
                exact xs_gf (kj15 (q11)) (And.intro rfl (And.intro rfl (And.intro rfl trivial)))
              · refine xs_lconst (n := 118) (v := (0)) dX12_laySides_117 rfl rfl ?_
                exact xs_gf (kj15 ((0))) (And.intro rfl (And.intro rfl (And.intro rfl trivial)))
          · refine xs_if_ne (n := 98) (tgt := 102) dX12_laySides_95 rfl rfl (fun hc13 => ?_) (fun hc13 => ?_)
            · refine xs_lconst (n := 99) (v := (1)) dX12_laySides_98 rfl rfl ?_
              refine xs_goto (n := 105) dX12_laySides_99 rfl ?_
              exact xs_gf (kj12 ((1))) (And.intro rfl (And.intro rfl trivial))
            · refine xs_ldc2 (n := 105) (v := (-1)) dX12_laySides_102 rfl tw_1129 ?_
              exact xs_gf (kj12 ((-1))) (And.intro rfl (And.intro rfl trivial))
        · exact xs_gf (kj9 (u0)) (And.intro rfl (And.intro rfl trivial))
theorem el_X12_laySides_281 (m : Nat) (c2 : Int32) (c3 : Int32) (c4 : Int32) (K : Int32 × xm_Y → Option (Unit × xm_Y)) (kE : ∀ q : Int32 × xm_Y, xs_ (fun _ : Unit => none) sg_0 mt_X12_laySides 317 [some (.ref 150), none, some (.int c2), some (.int c3), some (.int c4), none] [] q.2 0 0 (K q)) : ∀ (n : Nat) (l5 : Int32) (u0 : xm_Y), xs_ (fun _ : Unit => none) sg_0 mt_X12_laySides 281 [some (.ref 150), none, some (.int c2), some (.int c3), some (.int c4), some (.int l5)] [] u0 0 0 ((lp_X12_laySides_281 m c2 c3 c4 n l5 u0).bind K) := by
  intro n
  induction n with
  | zero =>
    intro l5 u0
    exact xs_none
  | succ n ih =>
    intro l5 u0
    rw [lp_X12_laySides_281]
    refine xs_iload (n := 283) dX12_laySides_281 rfl rfl ?_
    refine xs_aload_n (n := 284) dX12_laySides_283 rfl rfl ?_
    refine ys_geti (n := 287) dX12_laySides_284 rfl fl_X12_185 (Or.inl rfl) sh_150 ?_
    refine xs_icmp_ge (n := 290) (tgt := 317) dX12_laySides_287 rfl rfl (fun hc46 => ?_) (fun hc46 => ?_)
    · exact xs_gf (kE (l5, u0)) (And.intro rfl (And.intro rfl (And.intro rfl (And.intro rfl trivial))))
    · refine xs_aload_n (n := 291) dX12_laySides_290 rfl rfl ?_
      refine ys_geti (n := 294) dX12_laySides_291 rfl fl_X12_194 (Or.inr rfl) sh_150 ?_
      refine xs_if_ne (n := 297) (tgt := 317) dX12_laySides_294 rfl rfl (fun hc47 => ?_) (fun hc47 => ?_)
      · refine xs_aload_n (n := 298) dX12_laySides_297 rfl rfl ?_
        refine xs_aload_n (n := 299) dX12_laySides_298 rfl rfl ?_
        refine xs_iload_n (n := 300) dX12_laySides_299 rfl rfl ?_
        refine xs_iload_n (n := 301) dX12_laySides_300 rfl rfl ?_
        refine xs_iload (n := 303) dX12_laySides_301 rfl rfl ?_
        refine xs_iload (n := 305) dX12_laySides_303 rfl rfl ?_
        refine ys_callvi (n := 308) (N := mt_X12_fourLeaveNothing) dX12_laySides_305 rfl ok_X12_fourLeaveNothing tw_1159 im_X12_fourLeaveNothing se_X12_fourLeaveNothing ⟨Nat.le_of_ble_eq_true rfl, Nat.le_of_ble_eq_true rfl⟩ [.int c2, .int c3, .int c4, .int l5] [.ref 150] rfl rfl (Nat.le_of_ble_eq_true rfl) rfl (Nat.le_of_ble_eq_true rfl) (en_X12_fourLeaveNothing m c2 c3 c4 l5 u0) sh_150 (by decide) rfl (fun q48 => ?_)
        refine ys_putz (n := 311) dX12_laySides_308 rfl fl_X12_194 rfl sh_150 (fun u49 => ?_)
        refine xs_iincl (n := 314) (dv := (1)) (fun v50 => [some (.ref 150), none, some (.int c2), some (.int c3), some (.int c4), some (.int v50)]) dX12_laySides_311 rfl rfl rfl (Nat.le_of_ble_eq_true rfl) (fun _ => rfl) (fun v50 => ?_)
        refine xs_goto (n := 281) dX12_laySides_314 rfl ?_
        exact xs_gf (ih v50 u49) (And.intro rfl (And.intro rfl (And.intro rfl (And.intro rfl (And.intro rfl trivial)))))
      · exact xs_gf (kE (l5, u0)) (And.intro rfl (And.intro rfl (And.intro rfl (And.intro rfl trivial))))
theorem el_X12_laySides_247 (m : Nat) (c2 : Int32) (c3 : Int32) (K : Int32 × xm_Y → Option (Unit × xm_Y)) (kE : ∀ q : Int32 × xm_Y, xs_ (fun _ : Unit => none) sg_0 mt_X12_laySides 323 [some (.ref 150), none, some (.int c2), some (.int c3), none, none] [] q.2 0 0 (K q)) : ∀ (n : Nat) (l4 : Int32) (u0 : xm_Y), xs_ (fun _ : Unit => none) sg_0 mt_X12_laySides 247 [some (.ref 150), none, some (.int c2), some (.int c3), some (.int l4), none] [] u0 0 0 ((lp_X12_laySides_247 m c2 c3 n l4 u0).bind K) := by
  intro n
  induction n with
  | zero =>
    intro l4 u0
    exact xs_none
  | succ n ih =>
    intro l4 u0
    rw [lp_X12_laySides_247]
    refine xs_iload (n := 249) dX12_laySides_247 rfl rfl ?_
    refine xs_aload_n (n := 250) dX12_laySides_249 rfl rfl ?_
    refine ys_geti (n := 253) dX12_laySides_250 rfl fl_X12_185 (Or.inl rfl) sh_150 ?_
    refine xs_icmp_ge (n := 256) (tgt := 323) dX12_laySides_253 rfl rfl (fun hc41 => ?_) (fun hc41 => ?_)
    · exact xs_gf (kE (l4, u0)) (And.intro rfl (And.intro rfl (And.intro rfl trivial)))
    · refine xs_aload_n (n := 257) dX12_laySides_256 rfl rfl ?_
      refine ys_geti (n := 260) dX12_laySides_257 rfl fl_X12_194 (Or.inr rfl) sh_150 ?_
      refine xs_if_ne (n := 263) (tgt := 323) dX12_laySides_260 rfl rfl (fun hc42 => ?_) (fun hc42 => ?_)
      · refine xs_aload_n (n := 264) dX12_laySides_263 rfl rfl ?_
        refine xs_aload_n (n := 265) dX12_laySides_264 rfl rfl ?_
        refine xs_iload_n (n := 266) dX12_laySides_265 rfl rfl ?_
        refine xs_iload_n (n := 267) dX12_laySides_266 rfl rfl ?_
        refine xs_iload (n := 269) dX12_laySides_267 rfl rfl ?_
        refine ys_callvi (n := 272) (N := mt_X12_threeLeaveNothing) dX12_laySides_269 rfl ok_X12_threeLeaveNothing tw_1147 im_X12_threeLeaveNothing se_X12_threeLeaveNothing ⟨Nat.le_of_ble_eq_true rfl, Nat.le_of_ble_eq_true rfl⟩ [.int c2, .int c3, .int l4] [.ref 150] rfl rfl (Nat.le_of_ble_eq_true rfl) rfl (Nat.le_of_ble_eq_true rfl) (en_X12_threeLeaveNothing m c2 c3 l4 u0) sh_150 (by decide) rfl (fun q43 => ?_)
        refine ys_putz (n := 275) dX12_laySides_272 rfl fl_X12_194 rfl sh_150 (fun u44 => ?_)
        refine xs_iload (n := 277) dX12_laySides_275 rfl rfl ?_
        refine xs_iconst (n := 278) (v := (1)) dX12_laySides_277 rfl rfl ?_
        refine xs_iadd (n := 279) dX12_laySides_278 rfl ?_
        refine xs_leti (fun v45 => ?_)
        refine xs_istore (n := 281) (lv' := [some (.ref 150), none, some (.int c2), some (.int c3), some (.int l4), some (.int v45)]) dX12_laySides_279 rfl (Nat.le_of_ble_eq_true rfl) rfl ?_
        refine xs_reg ?_
        refine xs_fg (lv' := [some (.ref 150), none, some (.int c2), some (.int c3), some (.int l4), some (.int v45)]) (And.intro rfl (And.intro rfl (And.intro rfl (And.intro rfl (And.intro rfl trivial))))) ?_
        refine el_X12_laySides_281 m c2 c3 l4 _ (fun q51 => ?_) m v45 u44
        refine xs_iincl (n := 320) (dv := (1)) (fun v52 => [some (.ref 150), none, some (.int c2), some (.int c3), some (.int v52), none]) dX12_laySides_317 rfl rfl rfl (Nat.le_of_ble_eq_true rfl) (fun _ => rfl) (fun v52 => ?_)
        refine xs_goto (n := 247) dX12_laySides_320 rfl ?_
        exact xs_gf (ih v52 q51.2) (And.intro rfl (And.intro rfl (And.intro rfl (And.intro rfl trivial))))
      · exact xs_gf (kE (l4, u0)) (And.intro rfl (And.intro rfl (And.intro rfl trivial)))
theorem el_X12_laySides_217 (m : Nat) (c2 : Int32) (K : Int32 × xm_Y → Option (Unit × xm_Y)) (kE : ∀ q : Int32 × xm_Y, xs_ (fun _ : Unit => none) sg_0 mt_X12_laySides 329 [some (.ref 150), none, some (.int c2), none, none, none] [] q.2 0 0 (K q)) : ∀ (n : Nat) (l3 : Int32) (u0 : xm_Y), xs_ (fun _ : Unit => none) sg_0 mt_X12_laySides 217 [some (.ref 150), none, some (.int c2), some (.int l3), none, none] [] u0 0 0 ((lp_X12_laySides_217 m c2 n l3 u0).bind K) := by
  intro n
  induction n with
  | zero =>
    intro l3 u0
    exact xs_none
  | succ n ih =>
    intro l3 u0
    rw [lp_X12_laySides_217]
    refine xs_iload_n (n := 218) dX12_laySides_217 rfl rfl ?_
    refine xs_aload_n (n := 219) dX12_laySides_218 rfl rfl ?_
    refine ys_geti (n := 222) dX12_laySides_219 rfl fl_X12_185 (Or.inl rfl) sh_150 ?_
    refine xs_icmp_ge (n := 225) (tgt := 329) dX12_laySides_222 rfl rfl (fun hc36 => ?_) (fun hc36 => ?_)
    · exact xs_gf (kE (l3, u0)) (And.intro rfl (And.intro rfl trivial))
    · refine xs_aload_n (n := 226) dX12_laySides_225 rfl rfl ?_
      refine ys_geti (n := 229) dX12_laySides_226 rfl fl_X12_194 (Or.inr rfl) sh_150 ?_
      refine xs_if_ne (n := 232) (tgt := 329) dX12_laySides_229 rfl rfl (fun hc37 => ?_) (fun hc37 => ?_)
      · refine xs_aload_n (n := 233) dX12_laySides_232 rfl rfl ?_
        refine xs_aload_n (n := 234) dX12_laySides_233 rfl rfl ?_
        refine xs_iload_n (n := 235) dX12_laySides_234 rfl rfl ?_
        refine xs_iload_n (n := 236) dX12_laySides_235 rfl rfl ?_
        refine ys_callvi (n := 239) (N := mt_X12_twoLeaveNothing) dX12_laySides_236 rfl ok_X12_twoLeaveNothing tw_1134 im_X12_twoLeaveNothing se_X12_twoLeaveNothing ⟨Nat.le_of_ble_eq_true rfl, Nat.le_of_ble_eq_true rfl⟩ [.int c2, .int l3] [.ref 150] rfl rfl (Nat.le_of_ble_eq_true rfl) rfl (Nat.le_of_ble_eq_true rfl) (en_X12_twoLeaveNothing m c2 l3 u0) sh_150 (by decide) rfl (fun q38 => ?_)
        refine ys_putz (n := 242) dX12_laySides_239 rfl fl_X12_194 rfl sh_150 (fun u39 => ?_)
        refine xs_iload_n (n := 243) dX12_laySides_242 rfl rfl ?_
        refine xs_iconst (n := 244) (v := (1)) dX12_laySides_243 rfl rfl ?_
        refine xs_iadd (n := 245) dX12_laySides_244 rfl ?_
        refine xs_leti (fun v40 => ?_)
        refine xs_istore (n := 247) (lv' := [some (.ref 150), none, some (.int c2), some (.int l3), some (.int v40), none]) dX12_laySides_245 rfl (Nat.le_of_ble_eq_true rfl) rfl ?_
        refine xs_reg ?_
        refine xs_fg (lv' := [some (.ref 150), none, some (.int c2), some (.int l3), some (.int v40), none]) (And.intro rfl (And.intro rfl (And.intro rfl (And.intro rfl trivial)))) ?_
        refine el_X12_laySides_247 m c2 l3 _ (fun q53 => ?_) m v40 u39
        refine xs_iincl (n := 326) (dv := (1)) (fun v54 => [some (.ref 150), none, some (.int c2), some (.int v54), none, none]) dX12_laySides_323 rfl rfl rfl (Nat.le_of_ble_eq_true rfl) (fun _ => rfl) (fun v54 => ?_)
        refine xs_goto (n := 217) dX12_laySides_326 rfl ?_
        exact xs_gf (ih v54 q53.2) (And.intro rfl (And.intro rfl (And.intro rfl trivial)))
      · exact xs_gf (kE (l3, u0)) (And.intro rfl (And.intro rfl trivial))
theorem el_X12_laySides_166 (m : Nat) (K : Int32 × xm_Y → Option (Unit × xm_Y)) (kE : ∀ q : Int32 × xm_Y, xs_ (fun _ : Unit => none) sg_0 mt_X12_laySides 335 [none, none, none, none, none, none] [] q.2 0 0 (K q)) : ∀ (n : Nat) (l2 : Int32) (u0 : xm_Y), xs_ (fun _ : Unit => none) sg_0 mt_X12_laySides 166 [some (.ref 150), none, some (.int l2), none, none, none] [] u0 0 0 ((lp_X12_laySides_166 m n l2 u0).bind K) := by
  intro n
  induction n with
  | zero =>
    intro l2 u0
    exact xs_none
  | succ n ih =>
    intro l2 u0
    rw [lp_X12_laySides_166]
    refine xs_iload_n (n := 167) dX12_laySides_166 rfl rfl ?_
    refine xs_aload_n (n := 168) dX12_laySides_167 rfl rfl ?_
    refine ys_geti (n := 171) dX12_laySides_168 rfl fl_X12_185 (Or.inl rfl) sh_150 ?_
    refine xs_icmp_ge (n := 174) (tgt := 335) dX12_laySides_171 rfl rfl (fun hc27 => ?_) (fun hc27 => ?_)
    · exact xs_gf (kE (l2, u0)) trivial
    · refine xs_aload_n (n := 175) dX12_laySides_174 rfl rfl ?_
      refine ys_geti (n := 178) dX12_laySides_175 rfl fl_X12_194 (Or.inr rfl) sh_150 ?_
      refine xs_if_ne (n := 181) (tgt := 335) dX12_laySides_178 rfl rfl (fun hc28 => ?_) (fun hc28 => ?_)
      · refine xs_aload_n (n := 182) dX12_laySides_181 rfl rfl ?_
        refine xs_aload_n (n := 183) dX12_laySides_182 rfl rfl ?_
        refine xs_iload_n (n := 184) dX12_laySides_183 rfl rfl ?_
        refine ys_callvi (n := 187) (N := mt_X12_isZero) dX12_laySides_184 rfl ok_X12_isZero tw_1130 im_X12_isZero se_X12_isZero ⟨Nat.le_of_ble_eq_true rfl, Nat.le_of_ble_eq_true rfl⟩ [.int l2] [.ref 150] rfl rfl (Nat.le_of_ble_eq_true rfl) rfl (Nat.le_of_ble_eq_true rfl) (en_X12_isZero m l2 u0) sh_150 (by decide) rfl (fun q29 => ?_)
        refine xs_join 210 (fun q30 => [some (.ref 150), none, some (.int l2), none, none, none]) (fun q30 => [.int q30, .ref 150]) (fun q30 => q29.2) (fun q30 => ?_) (fun kj31 => ?_)
        · refine ys_putz (n := 213) dX12_laySides_210 rfl fl_X12_194 rfl sh_150 (fun u34 => ?_)
          refine xs_iload_n (n := 214) dX12_laySides_213 rfl rfl ?_
          refine xs_iconst (n := 215) (v := (1)) dX12_laySides_214 rfl rfl ?_
          refine xs_iadd (n := 216) dX12_laySides_215 rfl ?_
          refine xs_leti (fun v35 => ?_)
          refine xs_istore_n (n := 217) (lv' := [some (.ref 150), none, some (.int l2), some (.int v35), none, none]) dX12_laySides_216 rfl (Nat.le_of_ble_eq_true rfl) rfl ?_
          refine xs_reg ?_
          refine xs_fg (lv' := [some (.ref 150), none, some (.int l2), some (.int v35), none, none]) (And.intro rfl (And.intro rfl (And.intro rfl trivial))) ?_
          refine el_X12_laySides_217 m l2 _ (fun q55 => ?_) m v35 u34
          refine xs_iincl (n := 332) (dv := (1)) (fun v56 => [some (.ref 150), none, some (.int v56), none, none, none]) dX12_laySides_329 rfl rfl rfl (Nat.le_of_ble_eq_true rfl) (fun _ => rfl) (fun v56 => ?_)
          refine xs_goto (n := 166) dX12_laySides_332 rfl ?_
          exact xs_gf (ih v56 q55.2) (And.intro rfl (And.intro rfl trivial))
        · refine xs_if_eq (n := 190) (tgt := 209) dX12_laySides_187 rfl rfl (fun hc32 => ?_) (fun hc32 => ?_)
          · refine xs_iconst (n := 210) (v := (0)) dX12_laySides_209 rfl rfl ?_
            exact xs_gf (kj31 ((0))) (And.intro rfl (And.intro rfl trivial))
          · refine xs_aload_n (n := 191) dX12_laySides_190 rfl rfl ?_
            refine ys_getr (n := 194) dX12_laySides_191 rfl fl_X12_40 sh_150 rfl ?_
            refine xs_iconst (n := 195) (v := (4)) dX12_laySides_194 rfl rfl ?_
            refine xs_iload_n (n := 196) dX12_laySides_195 rfl rfl ?_
            refine xs_imul (n := 197) dX12_laySides_196 rfl ?_
            refine xs_iconst (n := 198) (v := (3)) dX12_laySides_197 rfl rfl ?_
            refine xs_iadd (n := 199) dX12_laySides_198 rfl ?_
            refine ys_laload (n := 200) dX12_laySides_199 rfl sh_159 ?_
            refine xs_lconst (n := 201) (v := (0)) dX12_laySides_200 rfl rfl ?_
            refine xs_lif_le (n := 205) (pc1 := 202) (tgt := 209) dX12_laySides_201 rfl dX12_laySides_202 rfl rfl (fun hc33 => ?_) (fun hc33 => ?_)
            · refine xs_iconst (n := 210) (v := (0)) dX12_laySides_209 rfl rfl ?_
              exact xs_gf (kj31 ((0))) (And.intro rfl (And.intro rfl trivial))
            · refine xs_iconst (n := 206) (v := (1)) dX12_laySides_205 rfl rfl ?_
              refine xs_goto (n := 210) dX12_laySides_206 rfl ?_
              exact xs_gf (kj31 ((1))) (And.intro rfl (And.intro rfl trivial))
      · exact xs_gf (kE (l2, u0)) trivial
theorem en_X12_laySides (m : Nat) (x0 : Int32) (u0 : xm_Y) : xs_ (fun _ : Unit => none) sg_0 mt_X12_laySides 0 [some (.ref 150), some (.int x0), none, none, none, none] [] u0 0 0 (fn_X12_laySides m x0 u0) := by
  refine xs_top ?_
  rw [fn_X12_laySides]
  refine xs_aload_n (n := 1) dX12_laySides_0 rfl rfl ?_
  refine xs_iconst (n := 2) (v := (0)) dX12_laySides_1 rfl rfl ?_
  refine ys_puti (n := 5) dX12_laySides_2 rfl fl_X12_185 rfl sh_150 (fun u1 => ?_)
  refine xs_iconst (n := 6) (v := (0)) dX12_laySides_5 rfl rfl ?_
  refine xs_istore_n (n := 7) (lv' := [some (.ref 150), some (.int x0), some (.int (0)), none, none, none]) dX12_laySides_6 rfl (Nat.le_of_ble_eq_true rfl) rfl ?_
  refine xs_reg ?_
  refine xs_fg (lv' := [some (.ref 150), some (.int x0), some (.int (0)), none, none, none]) (And.intro rfl (And.intro rfl (And.intro rfl trivial))) ?_
  refine el_X12_laySides_7 m x0 _ (fun q6 => ?_) m (0) u1
  refine xs_iconst (n := 72) (v := (0)) dX12_laySides_71 rfl rfl ?_
  refine xs_istore_n (n := 73) (lv' := [some (.ref 150), none, some (.int (0)), none, none, none]) dX12_laySides_72 rfl (Nat.le_of_ble_eq_true rfl) rfl ?_
  refine xs_reg ?_
  refine xs_fg (lv' := [some (.ref 150), none, some (.int (0)), none, none, none]) (And.intro rfl (And.intro rfl trivial)) ?_
  refine el_X12_laySides_73 m _ (fun q25 => ?_) m (0) q6.2
  refine xs_aload_n (n := 160) dX12_laySides_159 rfl rfl ?_
  refine xs_iconst (n := 161) (v := (0)) dX12_laySides_160 rfl rfl ?_
  refine ys_putzc (n := 164) dX12_laySides_161 rfl fl_X12_194 rfl sh_150 (Or.inl rfl) (fun u26 => ?_)
  refine xs_iconst (n := 165) (v := (0)) dX12_laySides_164 rfl rfl ?_
  refine xs_istore_n (n := 166) (lv' := [some (.ref 150), none, some (.int (0)), none, none, none]) dX12_laySides_165 rfl (Nat.le_of_ble_eq_true rfl) rfl ?_
  refine xs_reg ?_
  refine xs_fg (lv' := [some (.ref 150), none, some (.int (0)), none, none, none]) (And.intro rfl (And.intro rfl trivial)) ?_
  refine el_X12_laySides_166 m _ (fun q57 => ?_) m (0) u26
  exact xs_vret dX12_laySides_335 rfl rfl
def fn_X12_isAbove (m : Nat) (x0 : Int64) (x1 : Int64) (x2 : Int64) (x3 : Int64) (x4 : Int64) (x5 : Int64) (u0 : xm_Y) : Option (Int32 × xm_Y) :=
  xm_let (α := Int64) (((x0 * x5) - (x3 * x2))) fun v1 =>
  xm_let (α := Int64) (((x1 * x5) - (x4 * x2))) fun v2 =>
  ((fn_J9_floorDiv_f86c9 m v2 (1000000) u0).bind fun q3 =>
  xm_let (α := Int64) ((v1 + q3.1)) fun v4 =>
  ((fn_J9_floorMod_f86c9 m v2 (1000000) q3.2).bind fun q5 =>
  ((if (0) < v4 then (
  some ((1))) else (
  if v4 = (0) then (
  if q5.1 ≤ (0) then (
  some ((0))) else (
  some ((1)))) else (
  some ((0)))) : Option (Int32)).bind fun q6 =>
  xm_chk (q6 = 0 ∨ q6 = 1) (some (q6, q5.2)))))
theorem en_X12_isAbove (m : Nat) (x0 : Int64) (x1 : Int64) (x2 : Int64) (x3 : Int64) (x4 : Int64) (x5 : Int64) (u0 : xm_Y) : xs_ (fun x : Int32 => some (.int x)) sg_0 mt_X12_isAbove 0 [some (.long x0), none, some (.long x1), none, some (.long x2), none, some (.long x3), none, some (.long x4), none, some (.long x5), none, none, none, none, none] [] u0 0 0 (fn_X12_isAbove m x0 x1 x2 x3 x4 x5 u0) := by
  refine xs_top ?_
  rw [fn_X12_isAbove]
  refine xs_lload_n (n := 1) dX12_isAbove_0 rfl rfl ?_
  refine xs_lload (n := 3) dX12_isAbove_1 rfl rfl ?_
  refine xs_lmul (n := 4) dX12_isAbove_3 rfl ?_
  refine xs_lload (n := 6) dX12_isAbove_4 rfl rfl ?_
  refine xs_lload (n := 8) dX12_isAbove_6 rfl rfl ?_
  refine xs_lmul (n := 9) dX12_isAbove_8 rfl ?_
  refine xs_lsub (n := 10) dX12_isAbove_9 rfl ?_
  refine xs_letl (fun v1 => ?_)
  refine xs_lstore (n := 12) (lv' := [some (.long x0), none, some (.long x1), none, some (.long x2), none, some (.long x3), none, some (.long x4), none, some (.long x5), none, some (.long v1), none, none, none]) dX12_isAbove_10 rfl (Nat.le_of_ble_eq_true rfl) rfl ?_
  refine xs_lload_n (n := 13) dX12_isAbove_12 rfl rfl ?_
  refine xs_lload (n := 15) dX12_isAbove_13 rfl rfl ?_
  refine xs_lmul (n := 16) dX12_isAbove_15 rfl ?_
  refine xs_lload (n := 18) dX12_isAbove_16 rfl rfl ?_
  refine xs_lload (n := 20) dX12_isAbove_18 rfl rfl ?_
  refine xs_lmul (n := 21) dX12_isAbove_20 rfl ?_
  refine xs_lsub (n := 22) dX12_isAbove_21 rfl ?_
  refine xs_letl (fun v2 => ?_)
  refine xs_lstore (n := 24) (lv' := [some (.long x0), none, some (.long x1), none, some (.long x2), none, some (.long x3), none, some (.long x4), none, some (.long x5), none, some (.long v1), none, some (.long v2), none]) dX12_isAbove_22 rfl (Nat.le_of_ble_eq_true rfl) rfl ?_
  refine xs_lload (n := 26) dX12_isAbove_24 rfl rfl ?_
  refine xs_lload (n := 28) dX12_isAbove_26 rfl rfl ?_
  refine xs_ldc2 (n := 31) (v := (1000000)) dX12_isAbove_28 rfl tw_1179 ?_
  refine ys_callsl (n := 34) (N := mt_J9_floorDiv_f86c9) dX12_isAbove_31 rfl ok_J9_floorDiv_f86c9 tw_1180 st_J9_floorDiv_f86c9 ⟨Nat.le_of_ble_eq_true rfl, Nat.le_of_ble_eq_true rfl⟩ [.long v2, .long (1000000)] [.long v1] rfl rfl (Nat.le_of_ble_eq_true rfl) rfl (Nat.le_of_ble_eq_true rfl) (en_J9_floorDiv_f86c9 m v2 (1000000) u0) (fun q3 => ?_)
  refine xs_ladd (n := 35) dX12_isAbove_34 rfl ?_
  refine xs_letl (fun v4 => ?_)
  refine xs_lstore (n := 37) (lv' := [some (.long x0), none, some (.long x1), none, some (.long x2), none, some (.long x3), none, some (.long x4), none, some (.long x5), none, some (.long v4), none, some (.long v2), none]) dX12_isAbove_35 rfl (Nat.le_of_ble_eq_true rfl) rfl ?_
  refine xs_lload (n := 39) dX12_isAbove_37 rfl rfl ?_
  refine xs_ldc2 (n := 42) (v := (1000000)) dX12_isAbove_39 rfl tw_1179 ?_
  refine ys_callsl (n := 45) (N := mt_J9_floorMod_f86c9) dX12_isAbove_42 rfl ok_J9_floorMod_f86c9 tw_1181 st_J9_floorMod_f86c9 ⟨Nat.le_of_ble_eq_true rfl, Nat.le_of_ble_eq_true rfl⟩ [.long v2, .long (1000000)] [] rfl rfl (Nat.le_of_ble_eq_true rfl) rfl (Nat.le_of_ble_eq_true rfl) (en_J9_floorMod_f86c9 m v2 (1000000) q3.2) (fun q5 => ?_)
  refine xs_lstore (n := 47) (lv' := [some (.long x0), none, some (.long x1), none, some (.long x2), none, some (.long x3), none, some (.long x4), none, some (.long x5), none, some (.long v4), none, some (.long q5.1), none]) dX12_isAbove_45 rfl (Nat.le_of_ble_eq_true rfl) rfl ?_
  refine xs_lload (n := 49) dX12_isAbove_47 rfl rfl ?_
  refine xs_lconst (n := 50) (v := (0)) dX12_isAbove_49 rfl rfl ?_
  refine xs_join 73 (fun q6 => [none, none, none, none, none, none, none, none, none, none, none, none, none, none, none, none]) (fun q6 => [.int q6]) (fun q6 => q5.2) (fun q6 => ?_) (fun kj7 => ?_)
  · exact xs_zret dX12_isAbove_73 rfl rfl
  · refine xs_lif_gt (n := 54) (pc1 := 51) (tgt := 68) dX12_isAbove_50 rfl dX12_isAbove_51 rfl rfl (fun hc8 => ?_) (fun hc8 => ?_)
    · refine xs_iconst (n := 69) (v := (1)) dX12_isAbove_68 rfl rfl ?_
      refine xs_goto (n := 73) dX12_isAbove_69 rfl ?_
      exact xs_gf (kj7 ((1))) trivial
    · refine xs_lload (n := 56) dX12_isAbove_54 rfl rfl ?_
      refine xs_lconst (n := 57) (v := (0)) dX12_isAbove_56 rfl rfl ?_
      refine xs_lif_ne (n := 61) (pc1 := 58) (tgt := 72) dX12_isAbove_57 rfl dX12_isAbove_58 rfl rfl (fun hc9 => ?_) (fun hc9 => ?_)
      · refine xs_lload (n := 63) dX12_isAbove_61 rfl rfl ?_
        refine xs_lconst (n := 64) (v := (0)) dX12_isAbove_63 rfl rfl ?_
        refine xs_lif_le (n := 68) (pc1 := 65) (tgt := 72) dX12_isAbove_64 rfl dX12_isAbove_65 rfl rfl (fun hc10 => ?_) (fun hc10 => ?_)
        · refine xs_iconst (n := 73) (v := (0)) dX12_isAbove_72 rfl rfl ?_
          exact xs_gf (kj7 ((0))) trivial
        · refine xs_iconst (n := 69) (v := (1)) dX12_isAbove_68 rfl rfl ?_
          refine xs_goto (n := 73) dX12_isAbove_69 rfl ?_
          exact xs_gf (kj7 ((1))) trivial
      · refine xs_iconst (n := 73) (v := (0)) dX12_isAbove_72 rfl rfl ?_
        exact xs_gf (kj7 ((0))) trivial
