def lp_X12_ending_24 (m : Nat) : Nat → Int32 → xm_Y → Option (Int32 × xm_Y)
  | 0, _, _ => none
  | n + 1, l1, u0 =>
  if (u0.1 150 40) ≤ l1 then (
  some (l1, u0)) else (
  ((if (u0.1 150 41) < 0 then (
  some ((1 : Int32))) else (
  xm_chk (xm_in l1 1001) (
  xm_chk (xm_in (u0.1 150 41) 1001) (
  if (u0.1 176 (Int32.toNatClampNeg l1)) < (u0.1 176 (Int32.toNatClampNeg (u0.1 150 41))) then (
  some ((1 : Int32))) else (
  xm_chk (xm_in l1 1001) (
  xm_chk (xm_in (u0.1 150 41) 1001) (
  if (u0.1 176 (Int32.toNatClampNeg l1)) = (u0.1 176 (Int32.toNatClampNeg (u0.1 150 41))) then (
  xm_chk (xm_in l1 1001) (
  xm_chk (xm_in (u0.1 150 41) 1001) (
  if (u0.1 178 (Int32.toNatClampNeg (u0.1 150 41))) ≤ (u0.1 178 (Int32.toNatClampNeg l1)) then (
  some ((0 : Int32))) else (
  some ((1 : Int32)))))) else (
  some ((0 : Int32))))))))) : Option (Int32)).bind fun q6 =>
  ((fn_X12_isAsked m l1 u0).bind fun q12 =>
  ((if q12.1 = 0 then (
  if q6 = 0 then (
  some ((q12.2.1 150 41))) else (
  some (l1))) else (
  some ((q12.2.1 150 41))) : Option (Int32)).bind fun q13 =>
  xm_let (w_I q12.2 150 41 q13) fun u17 =>
  xm_let (α := Int32) (l1 + (1 : Int32)) fun v18 =>
  lp_X12_ending_24 m n v18 u17))))
def fn_X12_ending (m : Nat) (u0 : xm_Y) : Option (Int32 × xm_Y) :=
  ((fn_X12_makeAll m u0).bind fun q1 =>
  if q1.1 = 0 then (
  xm_let (w_I q1.2 150 40 (1000 : Int32)) fun u3 =>
  some ((-3 : Int32), u3)) else (
  xm_let (w_I q1.2 150 41 (-1 : Int32)) fun u4 =>
  ((lp_X12_ending_24 m m (0 : Int32) u4).bind fun q19 =>
  if 0 ≤ (q19.2.1 150 41) then (
  xm_chk (xm_in (q19.2.1 150 41) 1001) (
  xm_let (w_I q19.2 150 42 (q19.2.1 176 (Int32.toNatClampNeg (q19.2.1 150 41)))) fun u21 =>
  xm_chk (xm_in (u21.1 150 41) 1001) (
  xm_let (w_I u21 150 43 (u21.1 178 (Int32.toNatClampNeg (u21.1 150 41)))) fun u22 =>
  some ((0 : Int32), u22)))) else (
  some ((1 : Int32), q19.2)))))
theorem el_X12_ending_24 (m : Nat) (K : Int32 × xm_Y → Option (Int32 × xm_Y)) (kE : ∀ q : Int32 × xm_Y, xs_ (fun x : Int32 => some (.int x)) sg_0 mt_X12_ending 129 [some (.ref 150), none, none] [] q.2 0 0 (K q)) : ∀ (n : Nat) (l1 : Int32) (u0 : xm_Y), xs_ (fun x : Int32 => some (.int x)) sg_0 mt_X12_ending 24 [some (.ref 150), some (.int l1), none] [] u0 0 0 ((lp_X12_ending_24 m n l1 u0).bind K) := by
  intro n
  induction n with
  | zero =>
    intro l1 u0
    exact xs_none
  | succ n ih =>
    intro l1 u0
    rw [lp_X12_ending_24]
    refine xs_iload_n (n := 25) dX12_ending_24 rfl rfl ?_
    refine xs_aload_n (n := 26) dX12_ending_25 rfl rfl ?_
    refine ys_geti (n := 29) dX12_ending_26 rfl fl_X12_104 (Or.inl rfl) sh_150 ?_
    refine xs_icmp_ge (n := 32) (tgt := 129) dX12_ending_29 rfl rfl (fun hc5 => ?_) (fun hc5 => ?_)
    · exact xs_gf (xs_end (kE (l1, u0))) (And.intro rfl trivial)
    · refine xs_aload_n (n := 33) dX12_ending_32 rfl rfl ?_
      refine ys_geti (n := 36) dX12_ending_33 rfl fl_X12_107 (Or.inl rfl) sh_150 ?_
      refine xs_join 98 (fun q6 => [some (.ref 150), some (.int l1), none]) (fun q6 => [.int q6]) (fun q6 => u0) (fun q6 => ?_) (fun kj7 => ?_)
      · refine xs_istore_n (n := 99) (lv' := [some (.ref 150), some (.int l1), some (.int q6)]) dX12_ending_98 rfl (Nat.le_of_ble_eq_true rfl) rfl ?_
        refine xs_aload_n (n := 100) dX12_ending_99 rfl rfl ?_
        refine xs_aload_n (n := 101) dX12_ending_100 rfl rfl ?_
        refine xs_iload_n (n := 102) dX12_ending_101 rfl rfl ?_
        refine ys_callvi (n := 105) (N := mt_X12_isAsked) dX12_ending_102 rfl ok_X12_isAsked tw_1312 im_X12_isAsked se_X12_isAsked ⟨Nat.le_of_ble_eq_true rfl, Nat.le_of_ble_eq_true rfl⟩ [.int l1] [.ref 150] rfl rfl (Nat.le_of_ble_eq_true rfl) rfl (Nat.le_of_ble_eq_true rfl) (en_X12_isAsked m l1 u0) sh_150 (by decide) rfl (fun q12 => ?_)
        refine xs_join 120 (fun q13 => [some (.ref 150), some (.int l1), none]) (fun q13 => [.int q13, .ref 150]) (fun q13 => q12.2) (fun q13 => ?_) (fun kj14 => ?_)
        · refine ys_puti (n := 123) dX12_ending_120 rfl fl_X12_107 rfl sh_150 (fun u17 => ?_)
          refine xs_iincl (n := 126) (dv := (1 : Int32)) (fun v18 => [some (.ref 150), some (.int v18), none]) dX12_ending_123 rfl rfl rfl (Nat.le_of_ble_eq_true rfl) (fun _ => rfl) (fun v18 => ?_)
          refine xs_goto (n := 24) dX12_ending_126 rfl ?_
          exact xs_gf (ih v18 u17) (And.intro rfl (And.intro rfl trivial))
        · refine xs_if_ne (n := 108) (tgt := 116) dX12_ending_105 rfl rfl (fun hc15 => ?_) (fun hc15 => ?_)
          · refine xs_iload_n (n := 109) dX12_ending_108 rfl rfl ?_
            refine xs_if_eq (n := 112) (tgt := 116) dX12_ending_109 rfl rfl (fun hc16 => ?_) (fun hc16 => ?_)
            · refine xs_aload_n (n := 117) dX12_ending_116 rfl rfl ?_
              refine ys_geti (n := 120) dX12_ending_117 rfl fl_X12_107 (Or.inl rfl) sh_150 ?_
              exact xs_gf (xs_end (kj14 ((q12.2.1 150 41)))) (And.intro rfl (And.intro rfl trivial))
            · refine xs_iload_n (n := 113) dX12_ending_112 rfl rfl ?_
              refine xs_goto (n := 120) dX12_ending_113 rfl ?_
              exact xs_gf (xs_end (kj14 (l1))) (And.intro rfl (And.intro rfl trivial))
          · refine xs_aload_n (n := 117) dX12_ending_116 rfl rfl ?_
            refine ys_geti (n := 120) dX12_ending_117 rfl fl_X12_107 (Or.inl rfl) sh_150 ?_
            exact xs_gf (xs_end (kj14 ((q12.2.1 150 41)))) (And.intro rfl (And.intro rfl trivial))
      · refine xs_if_lt (n := 39) (tgt := 93) dX12_ending_36 rfl rfl (fun hc8 => ?_) (fun hc8 => ?_)
        · refine xs_iconst (n := 94) (v := (1 : Int32)) dX12_ending_93 rfl rfl ?_
          refine xs_goto (n := 98) dX12_ending_94 rfl ?_
          exact xs_gf (xs_end (kj7 ((1 : Int32)))) (And.intro rfl (And.intro rfl trivial))
        · refine xs_aload_n (n := 40) dX12_ending_39 rfl rfl ?_
          refine ys_getr (n := 43) dX12_ending_40 rfl fl_X12_95 sh_150 rfl ?_
          refine xs_iload_n (n := 44) dX12_ending_43 rfl rfl ?_
          refine ys_iaload (n := 45) dX12_ending_44 rfl sh_176 ?_
          refine xs_aload_n (n := 46) dX12_ending_45 rfl rfl ?_
          refine ys_getr (n := 49) dX12_ending_46 rfl fl_X12_95 sh_150 rfl ?_
          refine xs_aload_n (n := 50) dX12_ending_49 rfl rfl ?_
          refine ys_geti (n := 53) dX12_ending_50 rfl fl_X12_107 (Or.inl rfl) sh_150 ?_
          refine ys_iaload (n := 54) dX12_ending_53 rfl sh_176 ?_
          refine xs_icmp_lt (n := 57) (tgt := 93) dX12_ending_54 rfl rfl (fun hc9 => ?_) (fun hc9 => ?_)
          · refine xs_iconst (n := 94) (v := (1 : Int32)) dX12_ending_93 rfl rfl ?_
            refine xs_goto (n := 98) dX12_ending_94 rfl ?_
            exact xs_gf (xs_end (kj7 ((1 : Int32)))) (And.intro rfl (And.intro rfl trivial))
          · refine xs_aload_n (n := 58) dX12_ending_57 rfl rfl ?_
            refine ys_getr (n := 61) dX12_ending_58 rfl fl_X12_95 sh_150 rfl ?_
            refine xs_iload_n (n := 62) dX12_ending_61 rfl rfl ?_
            refine ys_iaload (n := 63) dX12_ending_62 rfl sh_176 ?_
            refine xs_aload_n (n := 64) dX12_ending_63 rfl rfl ?_
            refine ys_getr (n := 67) dX12_ending_64 rfl fl_X12_95 sh_150 rfl ?_
            refine xs_aload_n (n := 68) dX12_ending_67 rfl rfl ?_
            refine ys_geti (n := 71) dX12_ending_68 rfl fl_X12_107 (Or.inl rfl) sh_150 ?_
            refine ys_iaload (n := 72) dX12_ending_71 rfl sh_176 ?_
            refine xs_icmp_ne (n := 75) (tgt := 97) dX12_ending_72 rfl rfl (fun hc10 => ?_) (fun hc10 => ?_)
            · refine xs_aload_n (n := 76) dX12_ending_75 rfl rfl ?_
              refine ys_getr (n := 79) dX12_ending_76 rfl fl_X12_101 sh_150 rfl ?_
              refine xs_iload_n (n := 80) dX12_ending_79 rfl rfl ?_
              refine ys_iaload (n := 81) dX12_ending_80 rfl sh_178 ?_
              refine xs_aload_n (n := 82) dX12_ending_81 rfl rfl ?_
              refine ys_getr (n := 85) dX12_ending_82 rfl fl_X12_101 sh_150 rfl ?_
              refine xs_aload_n (n := 86) dX12_ending_85 rfl rfl ?_
              refine ys_geti (n := 89) dX12_ending_86 rfl fl_X12_107 (Or.inl rfl) sh_150 ?_
              refine ys_iaload (n := 90) dX12_ending_89 rfl sh_178 ?_
              refine xs_icmp_ge (n := 93) (tgt := 97) dX12_ending_90 rfl rfl (fun hc11 => ?_) (fun hc11 => ?_)
              · refine xs_iconst (n := 98) (v := (0 : Int32)) dX12_ending_97 rfl rfl ?_
                exact xs_gf (xs_end (kj7 ((0 : Int32)))) (And.intro rfl (And.intro rfl trivial))
              · refine xs_iconst (n := 94) (v := (1 : Int32)) dX12_ending_93 rfl rfl ?_
                refine xs_goto (n := 98) dX12_ending_94 rfl ?_
                exact xs_gf (xs_end (kj7 ((1 : Int32)))) (And.intro rfl (And.intro rfl trivial))
            · refine xs_iconst (n := 98) (v := (0 : Int32)) dX12_ending_97 rfl rfl ?_
              exact xs_gf (xs_end (kj7 ((0 : Int32)))) (And.intro rfl (And.intro rfl trivial))
theorem en_X12_ending (m : Nat) (u0 : xm_Y) : xs_ (fun x : Int32 => some (.int x)) sg_0 mt_X12_ending 0 [some (.ref 150), none, none] [] u0 0 0 (fn_X12_ending m u0) := by
  refine xs_top ?_
  rw [fn_X12_ending]
  refine xs_aload_n (n := 1) dX12_ending_0 rfl rfl ?_
  refine ys_callvi (n := 4) (N := mt_X12_makeAll) dX12_ending_1 rfl ok_X12_makeAll tw_1297 im_X12_makeAll se_X12_makeAll ⟨Nat.le_of_ble_eq_true rfl, Nat.le_of_ble_eq_true rfl⟩ [] [] rfl rfl (Nat.le_of_ble_eq_true rfl) rfl (Nat.le_of_ble_eq_true rfl) (en_X12_makeAll m u0) sh_150 (by decide) rfl (fun q1 => ?_)
  refine xs_if_ne (n := 7) (tgt := 17) dX12_ending_4 rfl rfl (fun hc2 => ?_) (fun hc2 => ?_)
  · refine xs_aload_n (n := 8) dX12_ending_7 rfl rfl ?_
    refine xs_sipush (n := 11) (v := (1000 : Int32)) dX12_ending_8 rfl rfl ?_
    refine ys_puti (n := 14) dX12_ending_11 rfl fl_X12_104 rfl sh_150 (fun u3 => ?_)
    refine xs_bipush (n := 16) (v := (-3 : Int32)) dX12_ending_14 rfl rfl ?_
    exact xs_iret dX12_ending_16 rfl rfl
  · refine xs_aload_n (n := 18) dX12_ending_17 rfl rfl ?_
    refine xs_iconst (n := 19) (v := (-1 : Int32)) dX12_ending_18 rfl rfl ?_
    refine ys_puti (n := 22) dX12_ending_19 rfl fl_X12_107 rfl sh_150 (fun u4 => ?_)
    refine xs_iconst (n := 23) (v := (0 : Int32)) dX12_ending_22 rfl rfl ?_
    refine xs_istore_n (n := 24) (lv' := [some (.ref 150), some (.int (0 : Int32)), none]) dX12_ending_23 rfl (Nat.le_of_ble_eq_true rfl) rfl ?_
    refine xs_reg ?_
    refine xs_fg (lv' := [some (.ref 150), some (.int (0 : Int32)), none]) (And.intro rfl (And.intro rfl trivial)) ?_
    refine el_X12_ending_24 m _ (fun q19 => ?_) m (0 : Int32) u4
    refine xs_aload_n (n := 130) dX12_ending_129 rfl rfl ?_
    refine ys_geti (n := 133) dX12_ending_130 rfl fl_X12_107 (Or.inl rfl) sh_150 ?_
    refine xs_if_ge (n := 136) (tgt := 138) dX12_ending_133 rfl rfl (fun hc20 => ?_) (fun hc20 => ?_)
    · refine xs_aload_n (n := 139) dX12_ending_138 rfl rfl ?_
      refine xs_aload_n (n := 140) dX12_ending_139 rfl rfl ?_
      refine ys_getr (n := 143) dX12_ending_140 rfl fl_X12_95 sh_150 rfl ?_
      refine xs_aload_n (n := 144) dX12_ending_143 rfl rfl ?_
      refine ys_geti (n := 147) dX12_ending_144 rfl fl_X12_107 (Or.inl rfl) sh_150 ?_
      refine ys_iaload (n := 148) dX12_ending_147 rfl sh_176 ?_
      refine ys_puti (n := 151) dX12_ending_148 rfl fl_X12_110 rfl sh_150 (fun u21 => ?_)
      refine xs_aload_n (n := 152) dX12_ending_151 rfl rfl ?_
      refine xs_aload_n (n := 153) dX12_ending_152 rfl rfl ?_
      refine ys_getr (n := 156) dX12_ending_153 rfl fl_X12_101 sh_150 rfl ?_
      refine xs_aload_n (n := 157) dX12_ending_156 rfl rfl ?_
      refine ys_geti (n := 160) dX12_ending_157 rfl fl_X12_107 (Or.inl rfl) sh_150 ?_
      refine ys_iaload (n := 161) dX12_ending_160 rfl sh_178 ?_
      refine ys_puti (n := 164) dX12_ending_161 rfl fl_X12_113 rfl sh_150 (fun u22 => ?_)
      refine xs_iconst (n := 165) (v := (0 : Int32)) dX12_ending_164 rfl rfl ?_
      exact xs_iret dX12_ending_165 rfl rfl
    · refine xs_iconst (n := 137) (v := (1 : Int32)) dX12_ending_136 rfl rfl ?_
      exact xs_iret dX12_ending_137 rfl rfl
def fn_X12_made (m : Nat) (u0 : xm_Y) : Option (Int32 × xm_Y) :=
  some ((u0.1 150 40), u0)
theorem en_X12_made (m : Nat) (u0 : xm_Y) : xs_ (fun x : Int32 => some (.int x)) sg_0 mt_X12_made 0 [some (.ref 150)] [] u0 0 0 (fn_X12_made m u0) := by
  refine xs_top ?_
  rw [fn_X12_made]
  refine xs_aload_n (n := 1) dX12_made_0 rfl rfl ?_
  refine ys_geti (n := 4) dX12_made_1 rfl fl_X12_104 (Or.inl rfl) sh_150 ?_
  exact xs_iret dX12_made_4 rfl rfl
def fn_X12_witness (m : Nat) (x0 : Int32) (u0 : xm_Y) : Option (Int32 × xm_Y) :=
  ((if x0 = 0 then (
  some ((u0.1 150 42))) else (
  if x0 = (1 : Int32) then (
  some ((u0.1 150 43))) else (
  some ((-1 : Int32)))) : Option (Int32)).bind fun q1 =>
  some (q1, u0))
theorem en_X12_witness (m : Nat) (x0 : Int32) (u0 : xm_Y) : xs_ (fun x : Int32 => some (.int x)) sg_0 mt_X12_witness 0 [some (.ref 150), some (.int x0)] [] u0 0 0 (fn_X12_witness m x0 u0) := by
  refine xs_top ?_
  rw [fn_X12_witness]
  refine xs_iload_n (n := 1) dX12_witness_0 rfl rfl ?_
  refine xs_join 24 (fun q1 => [none, none]) (fun q1 => [.int q1]) (fun q1 => u0) (fun q1 => ?_) (fun kj2 => ?_)
  · exact xs_iret dX12_witness_24 rfl rfl
  · refine xs_if_ne (n := 4) (tgt := 11) dX12_witness_1 rfl rfl (fun hc3 => ?_) (fun hc3 => ?_)
    · refine xs_aload_n (n := 5) dX12_witness_4 rfl rfl ?_
      refine ys_geti (n := 8) dX12_witness_5 rfl fl_X12_110 (Or.inl rfl) sh_150 ?_
      refine xs_goto (n := 24) dX12_witness_8 rfl ?_
      exact xs_gf (xs_end (kj2 ((u0.1 150 42)))) trivial
    · refine xs_iload_n (n := 12) dX12_witness_11 rfl rfl ?_
      refine xs_iconst (n := 13) (v := (1 : Int32)) dX12_witness_12 rfl rfl ?_
      refine xs_icmp_ne (n := 16) (tgt := 23) dX12_witness_13 rfl rfl (fun hc4 => ?_) (fun hc4 => ?_)
      · refine xs_aload_n (n := 17) dX12_witness_16 rfl rfl ?_
        refine ys_geti (n := 20) dX12_witness_17 rfl fl_X12_113 (Or.inl rfl) sh_150 ?_
        refine xs_goto (n := 24) dX12_witness_20 rfl ?_
        exact xs_gf (xs_end (kj2 ((u0.1 150 43)))) trivial
      · refine xs_iconst (n := 24) (v := (-1 : Int32)) dX12_witness_23 rfl rfl ?_
        exact xs_gf (xs_end (kj2 ((-1 : Int32)))) trivial
