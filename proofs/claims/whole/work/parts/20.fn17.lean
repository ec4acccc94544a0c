def lp_X12_round_15 (m : Nat) (u0 : xm_Y) : Nat → Int32 → Option ((Int32 × xm_Y) ⊕ (Int32))
  | 0, _ => none
  | n + 1, l2 =>
  if (u0.1 150 0) ≤ l2 then (
  some (.inr (l2))) else (
  xm_chk (xm_in ((2) * l2) 6) (
  if (u0.1 158 (Int32.toNatClampNeg ((2) * l2))) = 0 then (
  xm_chk (xm_in (((2) * l2) + (1)) 6) (
  if (u0.1 158 (Int32.toNatClampNeg (((2) * l2) + (1)))) = 0 then (
  xm_chk (xm_in ((2) * l2) 6) (
  xm_chk (xm_in (((2) * l2) + (1)) 6) (
  if (u0.2 157 (Int32.toNatClampNeg ((2) * l2))) ≤ (u0.2 157 (Int32.toNatClampNeg (((2) * l2) + (1)))) then (
  xm_let (α := Int32) (l2 + (1)) fun v7 =>
  lp_X12_round_15 m u0 n v7) else (
  some (.inl ((-1), u0)))))) else (
  xm_let (α := Int32) (l2 + (1)) fun v8 =>
  lp_X12_round_15 m u0 n v8))) else (
  xm_let (α := Int32) (l2 + (1)) fun v9 =>
  lp_X12_round_15 m u0 n v9)))
def lp_X12_round_79 (m : Nat) : Nat → Int32 → xm_Y → Option (Int32 × xm_Y)
  | 0, _, _ => none
  | n + 1, l2, u0 =>
  if (6) ≤ l2 then (
  some (l2, u0)) else (
  xm_chk (xm_in l2 6) (
  ((if (u0.1 158 (Int32.toNatClampNeg l2)) = 0 then (
  xm_chk (xm_in l2 6) (
  some ((u0.2 157 (Int32.toNatClampNeg l2))))) else (
  some ((0))) : Option (Int64)).bind fun q12 =>
  xm_chk (xm_in l2 6) (xm_let (w_J u0 169 (Int32.toNatClampNeg l2) q12) fun u15 =>
  xm_chk (xm_in l2 6) (
  xm_chk (xm_in l2 6) (xm_let (w_I u15 170 (Int32.toNatClampNeg l2) (vp_nar .boolean (u15.1 158 (Int32.toNatClampNeg l2)))) fun u16 =>
  xm_let (α := Int32) (l2 + (1)) fun v17 =>
  lp_X12_round_79 m n v17 u16))))))
def lp_X12_round_139 (m : Nat) (c1 : Int32) (c2 : Int32) : Nat → Int32 → xm_Y → Option ((Int32 × xm_Y) ⊕ (Int32 × xm_Y))
  | 0, _, _ => none
  | n + 1, l3, u0 =>
  if ((2) * (u0.1 150 0)) ≤ l3 then (
  some (.inr (l3, u0))) else (
  ((if c2 < c1 then (
  some ((0), u0)) else (
  ((fn_X12_isChanged m l3 u0).bind fun q25 =>
  if q25.1 = 0 then (
  some ((0), q25.2)) else (
  some ((1), q25.2)))) : Option (Int32 × xm_Y)).bind fun q22 =>
  xm_chk (xm_in l3 6) (
  ((if (q22.2.1 172 (Int32.toNatClampNeg l3)) = 0 then (
  if q22.1 = 0 then (
  some ((0))) else (
  some ((1)))) else (
  some ((1))) : Option (Int32)).bind fun q27 =>
  xm_chk (xm_in l3 6) (xm_let (w_I q22.2 170 (Int32.toNatClampNeg l3) (vp_nar .boolean q27)) fun u31 =>
  xm_chk (xm_in l3 6) (
  ((if (u31.1 170 (Int32.toNatClampNeg l3)) = 0 then (
  xm_chk (xm_in l3 6) (
  some ((u31.2 171 (Int32.toNatClampNeg l3))))) else (
  some ((0))) : Option (Int64)).bind fun q32 =>
  xm_chk (xm_in l3 6) (xm_let (w_J u31 169 (Int32.toNatClampNeg l3) q32) fun u35 =>
  xm_chk (xm_in l3 6) (
  if (u35.1 170 (Int32.toNatClampNeg l3)) = 0 then (
  xm_chk (xm_in l3 6) (
  if (1000000000) < (u35.2 169 (Int32.toNatClampNeg l3)) then (
  some (.inl ((-4), u35))) else (
  xm_chk (xm_in l3 6) (
  if (-1000000000) ≤ (u35.2 169 (Int32.toNatClampNeg l3)) then (
  xm_let (α := Int32) (l3 + (1)) fun v39 =>
  lp_X12_round_139 m c1 c2 n v39 u35) else (
  some (.inl ((-4), u35))))))) else (
  xm_let (α := Int32) (l3 + (1)) fun v40 =>
  lp_X12_round_139 m c1 c2 n v40 u35))))))))))
def lp_X12_round_130 (m : Nat) (c1 : Int32) : Nat → Int32 → xm_Y → Option ((Int32 × xm_Y) ⊕ (Int32 × xm_Y))
  | 0, _, _ => none
  | n + 1, l2, u0 =>
  ((fn_X12_goRound m u0).bind fun q19 =>
  if q19.1 = 0 then (
  some (.inr (l2, q19.2))) else (
  ((lp_X12_round_139 m c1 l2 m (0) q19.2).bind (Sum.elim (fun r => some (.inl r)) (fun q41 =>
  xm_let (α := Int32) (l2 + (1)) fun v42 =>
  lp_X12_round_130 m c1 n v42 q41.2)))))
def lp_X12_round_276 (m : Nat) : Nat → Int32 → xm_Y → Option (Int32 × xm_Y)
  | 0, _, _ => none
  | n + 1, l3, u0 =>
  if (6) ≤ l3 then (
  some (l3, u0)) else (
  xm_chk (xm_in l3 6) (
  xm_chk (xm_in l3 6) (xm_let (w_J u0 155 (Int32.toNatClampNeg l3) (u0.2 169 (Int32.toNatClampNeg l3))) fun u46 =>
  ((if ((2) * (u46.1 150 0)) ≤ l3 then (
  some ((1))) else (
  xm_chk (xm_in l3 6) (
  if (u46.1 170 (Int32.toNatClampNeg l3)) = 0 then (
  some ((0))) else (
  some ((1))))) : Option (Int32)).bind fun q47 =>
  xm_chk (xm_in l3 6) (xm_let (w_I u46 156 (Int32.toNatClampNeg l3) (vp_nar .boolean q47)) fun u51 =>
  xm_let (α := Int32) (l3 + (1)) fun v52 =>
  lp_X12_round_276 m n v52 u51)))))
def fn_X12_round (m : Nat) (x0 : Int32) (u0 : xm_Y) : Option (Int32 × xm_Y) :=
  if x0 < (1) then (
  some ((-1), u0)) else (
  if x0 ≤ (20) then (
  ((lp_X12_round_15 m u0 m (0)).bind (Sum.elim (fun r => some r) (fun q10 =>
  ((lp_X12_round_79 m m (0) u0).bind fun q18 =>
  ((lp_X12_round_130 m x0 m (1) q18.2).bind (Sum.elim (fun r => some r) (fun q43 =>
  xm_let (w_I q43.2 150 21 (0)) fun u44 =>
  ((lp_X12_round_276 m m (0) u44).bind fun q53 =>
  some (q43.1, q53.2)))))))))) else (
  some ((-1), u0)))
theorem el_X12_round_15 (m : Nat) (c1 : Int32) (u0 : xm_Y) (K : (Int32 × xm_Y) ⊕ (Int32) → Option (Int32 × xm_Y)) (hK : ∀ r, K (.inl r) = some r) (kE : ∀ q : Int32, xs_ (fun x : Int32 => some (.int x)) sg_0 mt_X12_round 77 [some (.ref 150), some (.int c1), none, none, none] [] u0 0 0 (K (.inr q))) : ∀ (n : Nat) (l2 : Int32), xs_ (fun x : Int32 => some (.int x)) sg_0 mt_X12_round 15 [some (.ref 150), some (.int c1), some (.int l2), none, none] [] u0 0 0 ((lp_X12_round_15 m u0 n l2).bind K) := by
  intro n
  induction n with
  | zero =>
    intro l2
    exact xs_none
  | succ n ih =>
    intro l2
    rw [lp_X12_round_15]
    refine xs_iload_n (n := 16) dX12_round_15 rfl rfl ?_
    refine xs_aload_n (n := 17) dX12_round_16 rfl rfl ?_
    refine ys_geti (n := 20) dX12_round_17 rfl fl_X12_7 (Or.inl rfl) sh_150 ?_
    refine xs_icmp_ge (n := 23) (tgt := 77) dX12_round_20 rfl rfl (fun hc3 => ?_) (fun hc3 => ?_)
    · exact xs_gf (kE (l2)) (And.intro rfl (And.intro rfl trivial))
    · refine xs_aload_n (n := 24) dX12_round_23 rfl rfl ?_
      refine ys_getr (n := 27) dX12_round_24 rfl fl_X12_37 sh_150 rfl ?_
      refine xs_iconst (n := 28) (v := (2)) dX12_round_27 rfl rfl ?_
      refine xs_iload_n (n := 29) dX12_round_28 rfl rfl ?_
      refine xs_imul (n := 30) dX12_round_29 rfl ?_
      refine ys_baload (n := 31) dX12_round_30 rfl sh_158 ?_
      refine xs_if_ne (n := 34) (tgt := 71) dX12_round_31 rfl rfl (fun hc4 => ?_) (fun hc4 => ?_)
      · refine xs_aload_n (n := 35) dX12_round_34 rfl rfl ?_
        refine ys_getr (n := 38) dX12_round_35 rfl fl_X12_37 sh_150 rfl ?_
        refine xs_iconst (n := 39) (v := (2)) dX12_round_38 rfl rfl ?_
        refine xs_iload_n (n := 40) dX12_round_39 rfl rfl ?_
        refine xs_imul (n := 41) dX12_round_40 rfl ?_
        refine xs_iconst (n := 42) (v := (1)) dX12_round_41 rfl rfl ?_
        refine xs_iadd (n := 43) dX12_round_42 rfl ?_
        refine ys_baload (n := 44) dX12_round_43 rfl sh_158 ?_
        refine xs_if_ne (n := 47) (tgt := 71) dX12_round_44 rfl rfl (fun hc5 => ?_) (fun hc5 => ?_)
        · refine xs_aload_n (n := 48) dX12_round_47 rfl rfl ?_
          refine ys_getr (n := 51) dX12_round_48 rfl fl_X12_34 sh_150 rfl ?_
          refine xs_iconst (n := 52) (v := (2)) dX12_round_51 rfl rfl ?_
          refine xs_iload_n (n := 53) dX12_round_52 rfl rfl ?_
          refine xs_imul (n := 54) dX12_round_53 rfl ?_
          refine ys_laload (n := 55) dX12_round_54 rfl sh_157 ?_
          refine xs_aload_n (n := 56) dX12_round_55 rfl rfl ?_
          refine ys_getr (n := 59) dX12_round_56 rfl fl_X12_34 sh_150 rfl ?_
          refine xs_iconst (n := 60) (v := (2)) dX12_round_59 rfl rfl ?_
          refine xs_iload_n (n := 61) dX12_round_60 rfl rfl ?_
          refine xs_imul (n := 62) dX12_round_61 rfl ?_
          refine xs_iconst (n := 63) (v := (1)) dX12_round_62 rfl rfl ?_
          refine xs_iadd (n := 64) dX12_round_63 rfl ?_
          refine ys_laload (n := 65) dX12_round_64 rfl sh_157 ?_
          refine xs_lif_le (n := 69) (pc1 := 66) (tgt := 71) dX12_round_65 rfl dX12_round_66 rfl rfl (fun hc6 => ?_) (fun hc6 => ?_)
          · refine xs_iincl (n := 74) (dv := (1)) (fun v7 => [some (.ref 150), some (.int c1), some (.int v7), none, none]) dX12_round_71 rfl rfl rfl (Nat.le_of_ble_eq_true rfl) (fun _ => rfl) (fun v7 => ?_)
            refine xs_goto (n := 15) dX12_round_74 rfl ?_
            exact xs_gf (ih v7) (And.intro rfl (And.intro rfl (And.intro rfl trivial)))
          · refine xs_iconst (n := 70) (v := (-1)) dX12_round_69 rfl rfl ?_
            exact xs_iret dX12_round_70 rfl (hK _)
        · refine xs_iincl (n := 74) (dv := (1)) (fun v8 => [some (.ref 150), some (.int c1), some (.int v8), none, none]) dX12_round_71 rfl rfl rfl (Nat.le_of_ble_eq_true rfl) (fun _ => rfl) (fun v8 => ?_)
          refine xs_goto (n := 15) dX12_round_74 rfl ?_
          exact xs_gf (ih v8) (And.intro rfl (And.intro rfl (And.intro rfl trivial)))
      · refine xs_iincl (n := 74) (dv := (1)) (fun v9 => [some (.ref 150), some (.int c1), some (.int v9), none, none]) dX12_round_71 rfl rfl rfl (Nat.le_of_ble_eq_true rfl) (fun _ => rfl) (fun v9 => ?_)
        refine xs_goto (n := 15) dX12_round_74 rfl ?_
        exact xs_gf (ih v9) (And.intro rfl (And.intro rfl (And.intro rfl trivial)))
theorem el_X12_round_79 (m : Nat) (c1 : Int32) (K : Int32 × xm_Y → Option (Int32 × xm_Y)) (kE : ∀ q : Int32 × xm_Y, xs_ (fun x : Int32 => some (.int x)) sg_0 mt_X12_round 128 [some (.ref 150), some (.int c1), none, none, none] [] q.2 0 0 (K q)) : ∀ (n : Nat) (l2 : Int32) (u0 : xm_Y), xs_ (fun x : Int32 => some (.int x)) sg_0 mt_X12_round 79 [some (.ref 150), some (.int c1), some (.int l2), none, none] [] u0 0 0 ((lp_X12_round_79 m n l2 u0).bind K) := by
  intro n
  induction n with
  | zero =>
    intro l2 u0
    exact xs_none
  | succ n ih =>
    intro l2 u0
    rw [lp_X12_round_79]
    refine xs_iload_n (n := 80) dX12_round_79 rfl rfl ?_
    refine xs_bipush (n := 82) (v := (6)) dX12_round_80 rfl rfl ?_
    refine xs_icmp_ge (n := 85) (tgt := 128) dX12_round_82 rfl rfl (fun hc11 => ?_) (fun hc11 => ?_)
    · exact xs_gf (kE (l2, u0)) (And.intro rfl (And.intro rfl trivial))
    · refine xs_aload_n (n := 86) dX12_round_85 rfl rfl ?_
      refine ys_getr (n := 89) dX12_round_86 rfl fl_X12_74 sh_150 rfl ?_
      refine xs_iload_n (n := 90) dX12_round_89 rfl rfl ?_
      refine xs_aload_n (n := 91) dX12_round_90 rfl rfl ?_
      refine ys_getr (n := 94) dX12_round_91 rfl fl_X12_37 sh_150 rfl ?_
      refine xs_iload_n (n := 95) dX12_round_94 rfl rfl ?_
      refine ys_baload (n := 96) dX12_round_95 rfl sh_158 ?_
      refine xs_join 109 (fun q12 => [some (.ref 150), some (.int c1), some (.int l2), none, none]) (fun q12 => [.long q12, .int l2, .ref 169]) (fun q12 => u0) (fun q12 => ?_) (fun kj13 => ?_)
      · refine ys_lastore (n := 110) dX12_round_109 rfl sh_169 (fun u15 => ?_)
        refine xs_aload_n (n := 111) dX12_round_110 rfl rfl ?_
        refine ys_getr (n := 114) dX12_round_111 rfl fl_X12_77 sh_150 rfl ?_
        refine xs_iload_n (n := 115) dX12_round_114 rfl rfl ?_
        refine xs_aload_n (n := 116) dX12_round_115 rfl rfl ?_
        refine ys_getr (n := 119) dX12_round_116 rfl fl_X12_37 sh_150 rfl ?_
        refine xs_iload_n (n := 120) dX12_round_119 rfl rfl ?_
        refine ys_baload (n := 121) dX12_round_120 rfl sh_158 ?_
        refine ys_bastore (n := 122) dX12_round_121 rfl sh_170 (fun u16 => ?_)
        refine xs_iincl (n := 125) (dv := (1)) (fun v17 => [some (.ref 150), some (.int c1), some (.int v17), none, none]) dX12_round_122 rfl rfl rfl (Nat.le_of_ble_eq_true rfl) (fun _ => rfl) (fun v17 => ?_)
        refine xs_goto (n := 79) dX12_round_125 rfl ?_
        exact xs_gf (ih v17 u16) (And.intro rfl (And.intro rfl (And.intro rfl trivial)))
      · refine xs_if_eq (n := 99) (tgt := 103) dX12_round_96 rfl rfl (fun hc14 => ?_) (fun hc14 => ?_)
        · refine xs_aload_n (n := 104) dX12_round_103 rfl rfl ?_
          refine ys_getr (n := 107) dX12_round_104 rfl fl_X12_34 sh_150 rfl ?_
          refine xs_iload_n (n := 108) dX12_round_107 rfl rfl ?_
          refine ys_laload (n := 109) dX12_round_108 rfl sh_157 ?_
          exact xs_gf (kj13 ((u0.2 157 (Int32.toNatClampNeg l2)))) (And.intro rfl (And.intro rfl (And.intro rfl trivial)))
        · refine xs_lconst (n := 100) (v := (0)) dX12_round_99 rfl rfl ?_
          refine xs_goto (n := 109) dX12_round_100 rfl ?_
          exact xs_gf (kj13 ((0))) (And.intro rfl (And.intro rfl (And.intro rfl trivial)))
theorem el_X12_round_139 (m : Nat) (c1 : Int32) (c2 : Int32) (K : (Int32 × xm_Y) ⊕ (Int32 × xm_Y) → Option (Int32 × xm_Y)) (hK : ∀ r, K (.inl r) = some r) (kE : ∀ q : Int32 × xm_Y, xs_ (fun x : Int32 => some (.int x)) sg_0 mt_X12_round 263 [some (.ref 150), some (.int c1), some (.int c2), none, none] [] q.2 0 0 (K (.inr q))) : ∀ (n : Nat) (l3 : Int32) (u0 : xm_Y), xs_ (fun x : Int32 => some (.int x)) sg_0 mt_X12_round 139 [some (.ref 150), some (.int c1), some (.int c2), some (.int l3), none] [] u0 0 0 ((lp_X12_round_139 m c1 c2 n l3 u0).bind K) := by
  intro n
  induction n with
  | zero =>
    intro l3 u0
    exact xs_none
  | succ n ih =>
    intro l3 u0
    rw [lp_X12_round_139]
    refine xs_iload_n (n := 140) dX12_round_139 rfl rfl ?_
    refine xs_iconst (n := 141) (v := (2)) dX12_round_140 rfl rfl ?_
    refine xs_aload_n (n := 142) dX12_round_141 rfl rfl ?_
    refine ys_geti (n := 145) dX12_round_142 rfl fl_X12_7 (Or.inl rfl) sh_150 ?_
    refine xs_imul (n := 146) dX12_round_145 rfl ?_
    refine xs_icmp_ge (n := 149) (tgt := 263) dX12_round_146 rfl rfl (fun hc21 => ?_) (fun hc21 => ?_)
    · exact xs_gf (kE (l3, u0)) (And.intro rfl (And.intro rfl (And.intro rfl trivial)))
    · refine xs_iload_n (n := 150) dX12_round_149 rfl rfl ?_
      refine xs_iload_n (n := 151) dX12_round_150 rfl rfl ?_
      refine xs_join 167 (fun q22 => [some (.ref 150), some (.int c1), some (.int c2), some (.int l3), none]) (fun q22 => [.int q22.1]) (fun q22 => q22.2) (fun q22 => ?_) (fun kj23 => ?_)
      · refine xs_istore (n := 169) (lv' := [some (.ref 150), some (.int c1), some (.int c2), some (.int l3), some (.int q22.1)]) dX12_round_167 rfl (Nat.le_of_ble_eq_true rfl) rfl ?_
        refine xs_aload_n (n := 170) dX12_round_169 rfl rfl ?_
        refine ys_getr (n := 173) dX12_round_170 rfl fl_X12_77 sh_150 rfl ?_
        refine xs_iload_n (n := 174) dX12_round_173 rfl rfl ?_
        refine xs_aload_n (n := 175) dX12_round_174 rfl rfl ?_
        refine ys_getr (n := 178) dX12_round_175 rfl fl_X12_83 sh_150 rfl ?_
        refine xs_iload_n (n := 179) dX12_round_178 rfl rfl ?_
        refine ys_baload (n := 180) dX12_round_179 rfl sh_172 ?_
        refine xs_join 193 (fun q27 => [some (.ref 150), some (.int c1), some (.int c2), some (.int l3), none]) (fun q27 => [.int q27, .int l3, .ref 170]) (fun q27 => q22.2) (fun q27 => ?_) (fun kj28 => ?_)
        · refine ys_bastore (n := 194) dX12_round_193 rfl sh_170 (fun u31 => ?_)
          refine xs_aload_n (n := 195) dX12_round_194 rfl rfl ?_
          refine ys_getr (n := 198) dX12_round_195 rfl fl_X12_74 sh_150 rfl ?_
          refine xs_iload_n (n := 199) dX12_round_198 rfl rfl ?_
          refine xs_aload_n (n := 200) dX12_round_199 rfl rfl ?_
          refine ys_getr (n := 203) dX12_round_200 rfl fl_X12_77 sh_150 rfl ?_
          refine xs_iload_n (n := 204) dX12_round_203 rfl rfl ?_
          refine ys_baload (n := 205) dX12_round_204 rfl sh_170 ?_
          refine xs_join 218 (fun q32 => [some (.ref 150), some (.int c1), some (.int c2), some (.int l3), none]) (fun q32 => [.long q32, .int l3, .ref 169]) (fun q32 => u31) (fun q32 => ?_) (fun kj33 => ?_)
          · refine ys_lastore (n := 219) dX12_round_218 rfl sh_169 (fun u35 => ?_)
            refine xs_aload_n (n := 220) dX12_round_219 rfl rfl ?_
            refine ys_getr (n := 223) dX12_round_220 rfl fl_X12_77 sh_150 rfl ?_
            refine xs_iload_n (n := 224) dX12_round_223 rfl rfl ?_
            refine ys_baload (n := 225) dX12_round_224 rfl sh_170 ?_
            refine xs_if_ne (n := 228) (tgt := 257) dX12_round_225 rfl rfl (fun hc36 => ?_) (fun hc36 => ?_)
            · refine xs_aload_n (n := 229) dX12_round_228 rfl rfl ?_
              refine ys_getr (n := 232) dX12_round_229 rfl fl_X12_74 sh_150 rfl ?_
              refine xs_iload_n (n := 233) dX12_round_232 rfl rfl ?_
              refine ys_laload (n := 234) dX12_round_233 rfl sh_169 ?_
              refine xs_ldc2 (n := 237) (v := (1000000000)) dX12_round_234 rfl tw_1278 ?_
              refine xs_lif_gt (n := 241) (pc1 := 238) (tgt := 254) dX12_round_237 rfl dX12_round_238 rfl rfl (fun hc37 => ?_) (fun hc37 => ?_)
              · refine xs_bipush (n := 256) (v := (-4)) dX12_round_254 rfl rfl ?_
                exact xs_iret dX12_round_256 rfl (hK _)
              · refine xs_aload_n (n := 242) dX12_round_241 rfl rfl ?_
                refine ys_getr (n := 245) dX12_round_242 rfl fl_X12_74 sh_150 rfl ?_
                refine xs_iload_n (n := 246) dX12_round_245 rfl rfl ?_
                refine ys_laload (n := 247) dX12_round_246 rfl sh_169 ?_
                refine xs_ldc2 (n := 250) (v := (-1000000000)) dX12_round_247 rfl tw_1279 ?_
                refine xs_lif_ge (n := 254) (pc1 := 251) (tgt := 257) dX12_round_250 rfl dX12_round_251 rfl rfl (fun hc38 => ?_) (fun hc38 => ?_)
                · refine xs_iincl (n := 260) (dv := (1)) (fun v39 => [some (.ref 150), some (.int c1), some (.int c2), some (.int v39), none]) dX12_round_257 rfl rfl rfl (Nat.le_of_ble_eq_true rfl) (fun _ => rfl) (fun v39 => ?_)
                  refine xs_goto (n := 139) dX12_round_260 rfl ?_
                  exact xs_gf (ih v39 u35) (And.intro rfl (And.intro rfl (And.intro rfl (And.intro rfl trivial))))
                · refine xs_bipush (n := 256) (v := (-4)) dX12_round_254 rfl rfl ?_
                  exact xs_iret dX12_round_256 rfl (hK _)
            · refine xs_iincl (n := 260) (dv := (1)) (fun v40 => [some (.ref 150), some (.int c1), some (.int c2), some (.int v40), none]) dX12_round_257 rfl rfl rfl (Nat.le_of_ble_eq_true rfl) (fun _ => rfl) (fun v40 => ?_)
              refine xs_goto (n := 139) dX12_round_260 rfl ?_
              exact xs_gf (ih v40 u35) (And.intro rfl (And.intro rfl (And.intro rfl (And.intro rfl trivial))))
          · refine xs_if_eq (n := 208) (tgt := 212) dX12_round_205 rfl rfl (fun hc34 => ?_) (fun hc34 => ?_)
            · refine xs_aload_n (n := 213) dX12_round_212 rfl rfl ?_
              refine ys_getr (n := 216) dX12_round_213 rfl fl_X12_80 sh_150 rfl ?_
              refine xs_iload_n (n := 217) dX12_round_216 rfl rfl ?_
              refine ys_laload (n := 218) dX12_round_217 rfl sh_171 ?_
              exact xs_gf (kj33 ((u31.2 171 (Int32.toNatClampNeg l3)))) (And.intro rfl (And.intro rfl (And.intro rfl (And.intro rfl trivial))))
            · refine xs_lconst (n := 209) (v := (0)) dX12_round_208 rfl rfl ?_
              refine xs_goto (n := 218) dX12_round_209 rfl ?_
              exact xs_gf (kj33 ((0))) (And.intro rfl (And.intro rfl (And.intro rfl (And.intro rfl trivial))))
        · refine xs_if_ne (n := 183) (tgt := 188) dX12_round_180 rfl rfl (fun hc29 => ?_) (fun hc29 => ?_)
          · refine xs_iload (n := 185) dX12_round_183 rfl rfl ?_
            refine xs_if_eq (n := 188) (tgt := 192) dX12_round_185 rfl rfl (fun hc30 => ?_) (fun hc30 => ?_)
            · refine xs_iconst (n := 193) (v := (0)) dX12_round_192 rfl rfl ?_
              exact xs_gf (kj28 ((0))) (And.intro rfl (And.intro rfl (And.intro rfl (And.intro rfl trivial))))
            · refine xs_iconst (n := 189) (v := (1)) dX12_round_188 rfl rfl ?_
              refine xs_goto (n := 193) dX12_round_189 rfl ?_
              exact xs_gf (kj28 ((1))) (And.intro rfl (And.intro rfl (And.intro rfl (And.intro rfl trivial))))
          · refine xs_iconst (n := 189) (v := (1)) dX12_round_188 rfl rfl ?_
            refine xs_goto (n := 193) dX12_round_189 rfl ?_
            exact xs_gf (kj28 ((1))) (And.intro rfl (And.intro rfl (And.intro rfl (And.intro rfl trivial))))
      · refine xs_icmp_lt (n := 154) (tgt := 166) dX12_round_151 rfl rfl (fun hc24 => ?_) (fun hc24 => ?_)
        · refine xs_iconst (n := 167) (v := (0)) dX12_round_166 rfl rfl ?_
          exact xs_gf (kj23 ((0), u0)) (And.intro rfl (And.intro rfl (And.intro rfl (And.intro rfl trivial))))
        · refine xs_aload_n (n := 155) dX12_round_154 rfl rfl ?_
          refine xs_iload_n (n := 156) dX12_round_155 rfl rfl ?_
          refine ys_callvi (n := 159) (N := mt_X12_isChanged) dX12_round_156 rfl ok_X12_isChanged tw_1274 im_X12_isChanged se_X12_isChanged ⟨Nat.le_of_ble_eq_true rfl, Nat.le_of_ble_eq_true rfl⟩ [.int l3] [] rfl rfl (Nat.le_of_ble_eq_true rfl) rfl (Nat.le_of_ble_eq_true rfl) (en_X12_isChanged m l3 u0) sh_150 (by decide) rfl (fun q25 => ?_)
          refine xs_if_eq (n := 162) (tgt := 166) dX12_round_159 rfl rfl (fun hc26 => ?_) (fun hc26 => ?_)
          · refine xs_iconst (n := 167) (v := (0)) dX12_round_166 rfl rfl ?_
            exact xs_gf (kj23 ((0), q25.2)) (And.intro rfl (And.intro rfl (And.intro rfl (And.intro rfl trivial))))
          · refine xs_iconst (n := 163) (v := (1)) dX12_round_162 rfl rfl ?_
            refine xs_goto (n := 167) dX12_round_163 rfl ?_
            exact xs_gf (kj23 ((1), q25.2)) (And.intro rfl (And.intro rfl (And.intro rfl (And.intro rfl trivial))))
theorem el_X12_round_130 (m : Nat) (c1 : Int32) (K : (Int32 × xm_Y) ⊕ (Int32 × xm_Y) → Option (Int32 × xm_Y)) (hK : ∀ r, K (.inl r) = some r) (kE : ∀ q : Int32 × xm_Y, xs_ (fun x : Int32 => some (.int x)) sg_0 mt_X12_round 269 [some (.ref 150), none, some (.int q.1), none, none] [] q.2 0 0 (K (.inr q))) : ∀ (n : Nat) (l2 : Int32) (u0 : xm_Y), xs_ (fun x : Int32 => some (.int x)) sg_0 mt_X12_round 130 [some (.ref 150), some (.int c1), some (.int l2), none, none] [] u0 0 0 ((lp_X12_round_130 m c1 n l2 u0).bind K) := by
  intro n
  induction n with
  | zero =>
    intro l2 u0
    exact xs_none
  | succ n ih =>
    intro l2 u0
    rw [lp_X12_round_130]
    refine xs_aload_n (n := 131) dX12_round_130 rfl rfl ?_
    refine ys_callvi (n := 134) (N := mt_X12_goRound) dX12_round_131 rfl ok_X12_goRound tw_1262 im_X12_goRound se_X12_goRound ⟨Nat.le_of_ble_eq_true rfl, Nat.le_of_ble_eq_true rfl⟩ [] [] rfl rfl (Nat.le_of_ble_eq_true rfl) rfl (Nat.le_of_ble_eq_true rfl) (en_X12_goRound m u0) sh_150 (by decide) rfl (fun q19 => ?_)
    refine xs_if_eq (n := 137) (tgt := 269) dX12_round_134 rfl rfl (fun hc20 => ?_) (fun hc20 => ?_)
    · exact xs_gf (kE (l2, q19.2)) (And.intro rfl (And.intro rfl trivial))
    · refine xs_iconst (n := 138) (v := (0)) dX12_round_137 rfl rfl ?_
      refine xs_istore_n (n := 139) (lv' := [some (.ref 150), some (.int c1), some (.int l2), some (.int (0)), none]) dX12_round_138 rfl (Nat.le_of_ble_eq_true rfl) rfl ?_
      refine xs_reg ?_
      refine xs_fg (lv' := [some (.ref 150), some (.int c1), some (.int l2), some (.int (0)), none]) (And.intro rfl (And.intro rfl (And.intro rfl (And.intro rfl trivial)))) ?_
      refine el_X12_round_139 m c1 l2 _ (fun r => hK r) (fun q41 => ?_) m (0) q19.2
      refine xs_inr ?_
      refine xs_iincl (n := 266) (dv := (1)) (fun v42 => [some (.ref 150), some (.int c1), some (.int v42), none, none]) dX12_round_263 rfl rfl rfl (Nat.le_of_ble_eq_true rfl) (fun _ => rfl) (fun v42 => ?_)
      refine xs_goto (n := 130) dX12_round_266 rfl ?_
      exact xs_gf (ih v42 q41.2) (And.intro rfl (And.intro rfl (And.intro rfl trivial)))
theorem el_X12_round_276 (m : Nat) (c2 : Int32) (K : Int32 × xm_Y → Option (Int32 × xm_Y)) (kE : ∀ q : Int32 × xm_Y, xs_ (fun x : Int32 => some (.int x)) sg_0 mt_X12_round 330 [none, none, some (.int c2), none, none] [] q.2 0 0 (K q)) : ∀ (n : Nat) (l3 : Int32) (u0 : xm_Y), xs_ (fun x : Int32 => some (.int x)) sg_0 mt_X12_round 276 [some (.ref 150), none, some (.int c2), some (.int l3), none] [] u0 0 0 ((lp_X12_round_276 m n l3 u0).bind K) := by
  intro n
  induction n with
  | zero =>
    intro l3 u0
    exact xs_none
  | succ n ih =>
    intro l3 u0
    rw [lp_X12_round_276]
    refine xs_iload_n (n := 277) dX12_round_276 rfl rfl ?_
    refine xs_bipush (n := 279) (v := (6)) dX12_round_277 rfl rfl ?_
    refine xs_icmp_ge (n := 282) (tgt := 330) dX12_round_279 rfl rfl (fun hc45 => ?_) (fun hc45 => ?_)
    · exact xs_gf (kE (l3, u0)) (And.intro rfl trivial)
    · refine xs_aload_n (n := 283) dX12_round_282 rfl rfl ?_
      refine ys_getr (n := 286) dX12_round_283 rfl fl_X12_27 sh_150 rfl ?_
      refine xs_iload_n (n := 287) dX12_round_286 rfl rfl ?_
      refine xs_aload_n (n := 288) dX12_round_287 rfl rfl ?_
      refine ys_getr (n := 291) dX12_round_288 rfl fl_X12_74 sh_150 rfl ?_
      refine xs_iload_n (n := 292) dX12_round_291 rfl rfl ?_
      refine ys_laload (n := 293) dX12_round_292 rfl sh_169 ?_
      refine ys_lastore (n := 294) dX12_round_293 rfl sh_155 (fun u46 => ?_)
      refine xs_aload_n (n := 295) dX12_round_294 rfl rfl ?_
      refine ys_getr (n := 298) dX12_round_295 rfl fl_X12_30 sh_150 rfl ?_
      refine xs_iload_n (n := 299) dX12_round_298 rfl rfl ?_
      refine xs_iload_n (n := 300) dX12_round_299 rfl rfl ?_
      refine xs_iconst (n := 301) (v := (2)) dX12_round_300 rfl rfl ?_
      refine xs_aload_n (n := 302) dX12_round_301 rfl rfl ?_
      refine ys_geti (n := 305) dX12_round_302 rfl fl_X12_7 (Or.inl rfl) sh_150 ?_
      refine xs_imul (n := 306) dX12_round_305 rfl ?_
      refine xs_join 323 (fun q47 => [some (.ref 150), none, some (.int c2), some (.int l3), none]) (fun q47 => [.int q47, .int l3, .ref 156]) (fun q47 => u46) (fun q47 => ?_) (fun kj48 => ?_)
      · refine ys_bastore (n := 324) dX12_round_323 rfl sh_156 (fun u51 => ?_)
        refine xs_iincl (n := 327) (dv := (1)) (fun v52 => [some (.ref 150), none, some (.int c2), some (.int v52), none]) dX12_round_324 rfl rfl rfl (Nat.le_of_ble_eq_true rfl) (fun _ => rfl) (fun v52 => ?_)
        refine xs_goto (n := 276) dX12_round_327 rfl ?_
        exact xs_gf (ih v52 u51) (And.intro rfl (And.intro rfl (And.intro rfl trivial)))
      · refine xs_icmp_ge (n := 309) (tgt := 318) dX12_round_306 rfl rfl (fun hc49 => ?_) (fun hc49 => ?_)
        · refine xs_iconst (n := 319) (v := (1)) dX12_round_318 rfl rfl ?_
          refine xs_goto (n := 323) dX12_round_319 rfl ?_
          exact xs_gf (kj48 ((1))) (And.intro rfl (And.intro rfl (And.intro rfl trivial)))
        · refine xs_aload_n (n := 310) dX12_round_309 rfl rfl ?_
          refine ys_getr (n := 313) dX12_round_310 rfl fl_X12_77 sh_150 rfl ?_
          refine xs_iload_n (n := 314) dX12_round_313 rfl rfl ?_
          refine ys_baload (n := 315) dX12_round_314 rfl sh_170 ?_
          refine xs_if_eq (n := 318) (tgt := 322) dX12_round_315 rfl rfl (fun hc50 => ?_) (fun hc50 => ?_)
          · refine xs_iconst (n := 323) (v := (0)) dX12_round_322 rfl rfl ?_
            exact xs_gf (kj48 ((0))) (And.intro rfl (And.intro rfl (And.intro rfl trivial)))
          · refine xs_iconst (n := 319) (v := (1)) dX12_round_318 rfl rfl ?_
            refine xs_goto (n := 323) dX12_round_319 rfl ?_
            exact xs_gf (kj48 ((1))) (And.intro rfl (And.intro rfl (And.intro rfl trivial)))
theorem en_X12_round (m : Nat) (x0 : Int32) (u0 : xm_Y) : xs_ (fun x : Int32 => some (.int x)) sg_0 mt_X12_round 0 [some (.ref 150), some (.int x0), none, none, none] [] u0 0 0 (fn_X12_round m x0 u0) := by
  refine xs_top ?_
  rw [fn_X12_round]
  refine xs_iload_n (n := 1) dX12_round_0 rfl rfl ?_
  refine xs_iconst (n := 2) (v := (1)) dX12_round_1 rfl rfl ?_
  refine xs_icmp_lt (n := 5) (tgt := 11) dX12_round_2 rfl rfl (fun hc1 => ?_) (fun hc1 => ?_)
  · refine xs_iconst (n := 12) (v := (-1)) dX12_round_11 rfl rfl ?_
    exact xs_iret dX12_round_12 rfl rfl
  · refine xs_iload_n (n := 6) dX12_round_5 rfl rfl ?_
    refine xs_bipush (n := 8) (v := (20)) dX12_round_6 rfl rfl ?_
    refine xs_icmp_le (n := 11) (tgt := 13) dX12_round_8 rfl rfl (fun hc2 => ?_) (fun hc2 => ?_)
    · refine xs_iconst (n := 14) (v := (0)) dX12_round_13 rfl rfl ?_
      refine xs_istore_n (n := 15) (lv' := [some (.ref 150), some (.int x0), some (.int (0)), none, none]) dX12_round_14 rfl (Nat.le_of_ble_eq_true rfl) rfl ?_
      refine xs_reg ?_
      refine xs_fg (lv' := [some (.ref 150), some (.int x0), some (.int (0)), none, none]) (And.intro rfl (And.intro rfl (And.intro rfl trivial))) ?_
      refine el_X12_round_15 m x0 u0 _ (fun _ => rfl) (fun q10 => ?_) m (0)
      refine xs_inr ?_
      refine xs_iconst (n := 78) (v := (0)) dX12_round_77 rfl rfl ?_
      refine xs_istore_n (n := 79) (lv' := [some (.ref 150), some (.int x0), some (.int (0)), none, none]) dX12_round_78 rfl (Nat.le_of_ble_eq_true rfl) rfl ?_
      refine xs_reg ?_
      refine xs_fg (lv' := [some (.ref 150), some (.int x0), some (.int (0)), none, none]) (And.intro rfl (And.intro rfl (And.intro rfl trivial))) ?_
      refine el_X12_round_79 m x0 _ (fun q18 => ?_) m (0) u0
      refine xs_iconst (n := 129) (v := (1)) dX12_round_128 rfl rfl ?_
      refine xs_istore_n (n := 130) (lv' := [some (.ref 150), some (.int x0), some (.int (1)), none, none]) dX12_round_129 rfl (Nat.le_of_ble_eq_true rfl) rfl ?_
      refine xs_reg ?_
      refine xs_fg (lv' := [some (.ref 150), some (.int x0), some (.int (1)), none, none]) (And.intro rfl (And.intro rfl (And.intro rfl trivial))) ?_
      refine el_X12_round_130 m x0 _ (fun _ => rfl) (fun q43 => ?_) m (1) q18.2
      refine xs_inr ?_
      refine xs_aload_n (n := 270) dX12_round_269 rfl rfl ?_
      refine xs_iconst (n := 271) (v := (0)) dX12_round_270 rfl rfl ?_
      refine ys_putzc (n := 274) dX12_round_271 rfl fl_X12_131 rfl sh_150 (Or.inl rfl) (fun u44 => ?_)
      refine xs_iconst (n := 275) (v := (0)) dX12_round_274 rfl rfl ?_
      refine xs_istore_n (n := 276) (lv' := [some (.ref 150), none, some (.int q43.1), some (.int (0)), none]) dX12_round_275 rfl (Nat.le_of_ble_eq_true rfl) rfl ?_
      refine xs_reg ?_
      refine xs_fg (lv' := [some (.ref 150), none, some (.int q43.1), some (.int (0)), none]) (And.intro rfl (And.intro rfl (And.intro rfl trivial))) ?_
      refine el_X12_round_276 m q43.1 _ (fun q53 => ?_) m (0) u44
      refine xs_iload_n (n := 331) dX12_round_330 rfl rfl ?_
      exact xs_iret dX12_round_331 rfl rfl
    · refine xs_iconst (n := 12) (v := (-1)) dX12_round_11 rfl rfl ?_
      exact xs_iret dX12_round_12 rfl rfl
def fn_X12_box (m : Nat) (x0 : Int32) (x1 : Int32) (u0 : xm_Y) : Option (Int64 × xm_Y) :=
  ((if x0 < 0 then (
  some ((-3000000000000))) else (
  if (u0.1 150 0) ≤ x0 then (
  some ((-3000000000000))) else (
  if x1 < 0 then (
  some ((-3000000000000))) else (
  if (1) < x1 then (
  some ((-3000000000000))) else (
  xm_chk (xm_in (((2) * x0) + x1) 6) (
  if (u0.1 156 (Int32.toNatClampNeg (((2) * x0) + x1))) = 0 then (
  xm_chk (xm_in (((2) * x0) + x1) 6) (
  some ((u0.2 155 (Int32.toNatClampNeg (((2) * x0) + x1)))))) else (
  some ((-3000000000000)))))))) : Option (Int64)).bind fun q1 =>
  some (q1, u0))
theorem en_X12_box (m : Nat) (x0 : Int32) (x1 : Int32) (u0 : xm_Y) : xs_ (fun x : Int64 => some (.long x)) sg_0 mt_X12_box 0 [some (.ref 150), some (.int x0), some (.int x1)] [] u0 0 0 (fn_X12_box m x0 x1 u0) := by
  refine xs_top ?_
  rw [fn_X12_box]
  refine xs_iload_n (n := 1) dX12_box_0 rfl rfl ?_
  refine xs_join 50 (fun q1 => [none, none, none]) (fun q1 => [.long q1]) (fun q1 => u0) (fun q1 => ?_) (fun kj2 => ?_)
  · exact xs_lret dX12_box_50 rfl rfl
  · refine xs_if_lt (n := 4) (tgt := 34) dX12_box_1 rfl rfl (fun hc3 => ?_) (fun hc3 => ?_)
    · refine xs_ldc2 (n := 37) (v := (-3000000000000)) dX12_box_34 rfl tw_1284 ?_
      refine xs_goto (n := 50) dX12_box_37 rfl ?_
      exact xs_gf (kj2 ((-3000000000000))) trivial
    · refine xs_iload_n (n := 5) dX12_box_4 rfl rfl ?_
      refine xs_aload_n (n := 6) dX12_box_5 rfl rfl ?_
      refine ys_geti (n := 9) dX12_box_6 rfl fl_X12_7 (Or.inl rfl) sh_150 ?_
      refine xs_icmp_ge (n := 12) (tgt := 34) dX12_box_9 rfl rfl (fun hc4 => ?_) (fun hc4 => ?_)
      · refine xs_ldc2 (n := 37) (v := (-3000000000000)) dX12_box_34 rfl tw_1284 ?_
        refine xs_goto (n := 50) dX12_box_37 rfl ?_
        exact xs_gf (kj2 ((-3000000000000))) trivial
      · refine xs_iload_n (n := 13) dX12_box_12 rfl rfl ?_
        refine xs_if_lt (n := 16) (tgt := 34) dX12_box_13 rfl rfl (fun hc5 => ?_) (fun hc5 => ?_)
        · refine xs_ldc2 (n := 37) (v := (-3000000000000)) dX12_box_34 rfl tw_1284 ?_
          refine xs_goto (n := 50) dX12_box_37 rfl ?_
          exact xs_gf (kj2 ((-3000000000000))) trivial
        · refine xs_iload_n (n := 17) dX12_box_16 rfl rfl ?_
          refine xs_iconst (n := 18) (v := (1)) dX12_box_17 rfl rfl ?_
          refine xs_icmp_gt (n := 21) (tgt := 34) dX12_box_18 rfl rfl (fun hc6 => ?_) (fun hc6 => ?_)
          · refine xs_ldc2 (n := 37) (v := (-3000000000000)) dX12_box_34 rfl tw_1284 ?_
            refine xs_goto (n := 50) dX12_box_37 rfl ?_
            exact xs_gf (kj2 ((-3000000000000))) trivial
          · refine xs_aload_n (n := 22) dX12_box_21 rfl rfl ?_
            refine ys_getr (n := 25) dX12_box_22 rfl fl_X12_30 sh_150 rfl ?_
            refine xs_iconst (n := 26) (v := (2)) dX12_box_25 rfl rfl ?_
            refine xs_iload_n (n := 27) dX12_box_26 rfl rfl ?_
            refine xs_imul (n := 28) dX12_box_27 rfl ?_
            refine xs_iload_n (n := 29) dX12_box_28 rfl rfl ?_
            refine xs_iadd (n := 30) dX12_box_29 rfl ?_
            refine ys_baload (n := 31) dX12_box_30 rfl sh_156 ?_
            refine xs_if_eq (n := 34) (tgt := 40) dX12_box_31 rfl rfl (fun hc7 => ?_) (fun hc7 => ?_)
            · refine xs_aload_n (n := 41) dX12_box_40 rfl rfl ?_
              refine ys_getr (n := 44) dX12_box_41 rfl fl_X12_27 sh_150 rfl ?_
              refine xs_iconst (n := 45) (v := (2)) dX12_box_44 rfl rfl ?_
              refine xs_iload_n (n := 46) dX12_box_45 rfl rfl ?_
              refine xs_imul (n := 47) dX12_box_46 rfl ?_
              refine xs_iload_n (n := 48) dX12_box_47 rfl rfl ?_
              refine xs_iadd (n := 49) dX12_box_48 rfl ?_
              refine ys_laload (n := 50) dX12_box_49 rfl sh_155 ?_
              exact xs_gf (kj2 ((u0.2 155 (Int32.toNatClampNeg (((2) * x0) + x1))))) trivial
            · refine xs_ldc2 (n := 37) (v := (-3000000000000)) dX12_box_34 rfl tw_1284 ?_
              refine xs_goto (n := 50) dX12_box_37 rfl ?_
              exact xs_gf (kj2 ((-3000000000000))) trivial
def fn_X12_open (m : Nat) (u0 : xm_Y) : Option (Int32 × xm_Y) :=
  ((fn_X12_openAll m u0).bind fun q1 =>
  some ((0), q1.2))
theorem en_X12_open (m : Nat) (u0 : xm_Y) : xs_ (fun x : Int32 => some (.int x)) sg_0 mt_X12_open 0 [some (.ref 150)] [] u0 0 0 (fn_X12_open m u0) := by
  refine xs_top ?_
  rw [fn_X12_open]
  refine xs_aload_n (n := 1) dX12_open_0 rfl rfl ?_
  refine ys_callvv (n := 4) (N := mt_X12_openAll) dX12_open_1 rfl ok_X12_openAll tw_868 im_X12_openAll se_X12_openAll ⟨Nat.le_of_ble_eq_true rfl, Nat.le_of_ble_eq_true rfl⟩ [] [] rfl rfl (Nat.le_of_ble_eq_true rfl) rfl (Nat.le_of_ble_eq_true rfl) (en_X12_openAll m u0) sh_150 (by decide) rfl (fun q1 => ?_)
  refine xs_iconst (n := 5) (v := (0)) dX12_open_4 rfl rfl ?_
  exact xs_iret dX12_open_5 rfl rfl
def fn_X12_call (m : Nat) (x0 : Int32) (x1 : Int32) (x2 : Int32) (u0 : xm_Y) : Option (Int32 × xm_Y) :=
  if x0 < 0 then (
  some ((-1), u0)) else (
  if (7) < x0 then (
  some ((-1), u0)) else (
  if x1 < 0 then (
  some ((-1), u0)) else (
  if (7) < x1 then (
  some ((-1), u0)) else (
  if x2 < 0 then (
  some ((-1), u0)) else (
  if x2 < (43046721) then (
  if (u0.1 150 36) = (40) then (
  some ((-2), u0)) else (
  xm_chk (xm_in (u0.1 150 36) 40) (xm_let (w_I u0 173 (Int32.toNatClampNeg (u0.1 150 36)) x0) fun u8 =>
  xm_chk (xm_in (u8.1 150 36) 40) (xm_let (w_I u8 174 (Int32.toNatClampNeg (u8.1 150 36)) x1) fun u9 =>
  xm_chk (xm_in (u9.1 150 36) 40) (xm_let (w_I u9 175 (Int32.toNatClampNeg (u9.1 150 36)) x2) fun u10 =>
  xm_let (w_I u10 150 36 ((u10.1 150 36) + (1))) fun u11 =>
  some (((u11.1 150 36) - (1)), u11)))))) else (
  some ((-1), u0)))))))
theorem en_X12_call (m : Nat) (x0 : Int32) (x1 : Int32) (x2 : Int32) (u0 : xm_Y) : xs_ (fun x : Int32 => some (.int x)) sg_0 mt_X12_call 0 [some (.ref 150), some (.int x0), some (.int x1), some (.int x2)] [] u0 0 0 (fn_X12_call m x0 x1 x2 u0) := by
  refine xs_top ?_
  rw [fn_X12_call]
  refine xs_iload_n (n := 1) dX12_call_0 rfl rfl ?_
  refine xs_if_lt (n := 4) (tgt := 31) dX12_call_1 rfl rfl (fun hc1 => ?_) (fun hc1 => ?_)
  · refine xs_iconst (n := 32) (v := (-1)) dX12_call_31 rfl rfl ?_
    exact xs_iret dX12_call_32 rfl rfl
  · refine xs_iload_n (n := 5) dX12_call_4 rfl rfl ?_
    refine xs_bipush (n := 7) (v := (7)) dX12_call_5 rfl rfl ?_
    refine xs_icmp_gt (n := 10) (tgt := 31) dX12_call_7 rfl rfl (fun hc2 => ?_) (fun hc2 => ?_)
    · refine xs_iconst (n := 32) (v := (-1)) dX12_call_31 rfl rfl ?_
      exact xs_iret dX12_call_32 rfl rfl
    · refine xs_iload_n (n := 11) dX12_call_10 rfl rfl ?_
      refine xs_if_lt (n := 14) (tgt := 31) dX12_call_11 rfl rfl (fun hc3 => ?_) (fun hc3 => ?_)
      · refine xs_iconst (n := 32) (v := (-1)) dX12_call_31 rfl rfl ?_
        exact xs_iret dX12_call_32 rfl rfl
      · refine xs_iload_n (n := 15) dX12_call_14 rfl rfl ?_
        refine xs_bipush (n := 17) (v := (7)) dX12_call_15 rfl rfl ?_
        refine xs_icmp_gt (n := 20) (tgt := 31) dX12_call_17 rfl rfl (fun hc4 => ?_) (fun hc4 => ?_)
        · refine xs_iconst (n := 32) (v := (-1)) dX12_call_31 rfl rfl ?_
          exact xs_iret dX12_call_32 rfl rfl
        · refine xs_iload_n (n := 21) dX12_call_20 rfl rfl ?_
          refine xs_if_lt (n := 24) (tgt := 31) dX12_call_21 rfl rfl (fun hc5 => ?_) (fun hc5 => ?_)
          · refine xs_iconst (n := 32) (v := (-1)) dX12_call_31 rfl rfl ?_
            exact xs_iret dX12_call_32 rfl rfl
          · refine xs_iload_n (n := 25) dX12_call_24 rfl rfl ?_
            refine xs_ldc_w (n := 28) (v := (43046721)) dX12_call_25 rfl tw_1293 ?_
            refine xs_icmp_lt (n := 31) (tgt := 33) dX12_call_28 rfl rfl (fun hc6 => ?_) (fun hc6 => ?_)
            · refine xs_aload_n (n := 34) dX12_call_33 rfl rfl ?_
              refine ys_geti (n := 37) dX12_call_34 rfl fl_X12_348 (Or.inl rfl) sh_150 ?_
              refine xs_bipush (n := 39) (v := (40)) dX12_call_37 rfl rfl ?_
              refine xs_icmp_ne (n := 42) (tgt := 45) dX12_call_39 rfl rfl (fun hc7 => ?_) (fun hc7 => ?_)
              · refine xs_bipush (n := 44) (v := (-2)) dX12_call_42 rfl rfl ?_
                exact xs_iret dX12_call_44 rfl rfl
              · refine xs_aload_n (n := 46) dX12_call_45 rfl rfl ?_
                refine ys_getr (n := 49) dX12_call_46 rfl fl_X12_86 sh_150 rfl ?_
                refine xs_aload_n (n := 50) dX12_call_49 rfl rfl ?_
                refine ys_geti (n := 53) dX12_call_50 rfl fl_X12_348 (Or.inl rfl) sh_150 ?_
                refine xs_iload_n (n := 54) dX12_call_53 rfl rfl ?_
                refine ys_iastore (n := 55) dX12_call_54 rfl sh_173 (fun u8 => ?_)
                refine xs_aload_n (n := 56) dX12_call_55 rfl rfl ?_
                refine ys_getr (n := 59) dX12_call_56 rfl fl_X12_89 sh_150 rfl ?_
                refine xs_aload_n (n := 60) dX12_call_59 rfl rfl ?_
                refine ys_geti (n := 63) dX12_call_60 rfl fl_X12_348 (Or.inl rfl) sh_150 ?_
                refine xs_iload_n (n := 64) dX12_call_63 rfl rfl ?_
                refine ys_iastore (n := 65) dX12_call_64 rfl sh_174 (fun u9 => ?_)
                refine xs_aload_n (n := 66) dX12_call_65 rfl rfl ?_
                refine ys_getr (n := 69) dX12_call_66 rfl fl_X12_92 sh_150 rfl ?_
                refine xs_aload_n (n := 70) dX12_call_69 rfl rfl ?_
                refine ys_geti (n := 73) dX12_call_70 rfl fl_X12_348 (Or.inl rfl) sh_150 ?_
                refine xs_iload_n (n := 74) dX12_call_73 rfl rfl ?_
                refine ys_iastore (n := 75) dX12_call_74 rfl sh_175 (fun u10 => ?_)
                refine xs_aload_n (n := 76) dX12_call_75 rfl rfl ?_
                refine xs_dup (n := 77) dX12_call_76 rfl rfl ?_
                refine ys_geti (n := 80) dX12_call_77 rfl fl_X12_348 (Or.inl rfl) sh_150 ?_
                refine xs_iconst (n := 81) (v := (1)) dX12_call_80 rfl rfl ?_
                refine xs_iadd (n := 82) dX12_call_81 rfl ?_
                refine ys_puti (n := 85) dX12_call_82 rfl fl_X12_348 rfl sh_150 (fun u11 => ?_)
                refine xs_aload_n (n := 86) dX12_call_85 rfl rfl ?_
                refine ys_geti (n := 89) dX12_call_86 rfl fl_X12_348 (Or.inl rfl) sh_150 ?_
                refine xs_iconst (n := 90) (v := (1)) dX12_call_89 rfl rfl ?_
                refine xs_isub (n := 91) dX12_call_90 rfl ?_
                exact xs_iret dX12_call_91 rfl rfl
            · refine xs_iconst (n := 32) (v := (-1)) dX12_call_31 rfl rfl ?_
              exact xs_iret dX12_call_32 rfl rfl
def fn_X12_clear (m : Nat) (u0 : xm_Y) : Option (Int32 × xm_Y) :=
  xm_let (α := Int32) ((u0.1 150 36)) fun v1 =>
  xm_let (w_I u0 150 36 (0)) fun u2 =>
  some (v1, u2)
theorem en_X12_clear (m : Nat) (u0 : xm_Y) : xs_ (fun x : Int32 => some (.int x)) sg_0 mt_X12_clear 0 [some (.ref 150), none] [] u0 0 0 (fn_X12_clear m u0) := by
  refine xs_top ?_
  rw [fn_X12_clear]
  refine xs_aload_n (n := 1) dX12_clear_0 rfl rfl ?_
  refine ys_geti (n := 4) dX12_clear_1 rfl fl_X12_348 (Or.inl rfl) sh_150 ?_
  refine xs_leti (fun v1 => ?_)
  refine xs_istore_n (n := 5) (lv' := [some (.ref 150), some (.int v1)]) dX12_clear_4 rfl (Nat.le_of_ble_eq_true rfl) rfl ?_
  refine xs_aload_n (n := 6) dX12_clear_5 rfl rfl ?_
  refine xs_iconst (n := 7) (v := (0)) dX12_clear_6 rfl rfl ?_
  refine ys_puti (n := 10) dX12_clear_7 rfl fl_X12_348 rfl sh_150 (fun u2 => ?_)
  refine xs_iload_n (n := 11) dX12_clear_10 rfl rfl ?_
  exact xs_iret dX12_clear_11 rfl rfl
def lp_X12_spread_5 (m : Nat) (a1 : Nat) : Nat → Int32 → Int32 → xm_Y → Option (Int32 × Int32 × xm_Y)
  | 0, _, _, _ => none
  | n + 1, l2, l3, u0 =>
  if l3 < 0 then (
  some (l2, l3, u0)) else (
  xm_chk (¬ (3) = 0) (
  xm_chk (xm_in l3 16) (xm_let (w_I u0 a1 (Int32.toNatClampNeg l3) (l2 - l2 / (3) * (3))) fun u2 =>
  xm_chk (¬ (3) = 0) (
  xm_let (α := Int32) ((l2 / (3))) fun v3 =>
  xm_let (α := Int32) (l3 + (-1)) fun v4 =>
  lp_X12_spread_5 m a1 n v3 v4 u2))))
def fn_X12_spread (m : Nat) (x0 : Int32) (w : Nat) (u0 : xm_Y) : Option (Unit × xm_Y) :=
  ((lp_X12_spread_5 m w m x0 (15) u0).bind fun q5 =>
  some ((), q5.2.2))
theorem el_X12_spread_5 (m : Nat) (a1 : Nat) (ha1 : xsh_ a1 13 16) (K : Int32 × Int32 × xm_Y → Option (Unit × xm_Y)) (kE : ∀ q : Int32 × Int32 × xm_Y, xs_ (fun _ : Unit => none) sg_0 mt_X12_spread 25 [none, none, none, none] [] q.2.2 0 0 (K q)) : ∀ (n : Nat) (l2 : Int32) (l3 : Int32) (u0 : xm_Y), xs_ (fun _ : Unit => none) sg_0 mt_X12_spread 5 [none, some (.ref a1), some (.int l2), some (.int l3)] [] u0 0 0 ((lp_X12_spread_5 m a1 n l2 l3 u0).bind K) := by
  intro n
  induction n with
  | zero =>
    intro l2 l3 u0
    exact xs_none
  | succ n ih =>
    intro l2 l3 u0
    rw [lp_X12_spread_5]
    refine xs_iload_n (n := 6) dX12_spread_5 rfl rfl ?_
    refine xs_if_lt (n := 9) (tgt := 25) dX12_spread_6 rfl rfl (fun hc1 => ?_) (fun hc1 => ?_)
    · exact xs_gf (kE (l2, l3, u0)) trivial
    · refine xs_aload_n (n := 10) dX12_spread_9 rfl rfl ?_
      refine xs_iload_n (n := 11) dX12_spread_10 rfl rfl ?_
      refine xs_iload_n (n := 12) dX12_spread_11 rfl rfl ?_
      refine xs_iconst (n := 13) (v := (3)) dX12_spread_12 rfl rfl ?_
      refine xs_irem (n := 14) dX12_spread_13 rfl (fun _ => ?_)
      refine ys_iastore (n := 15) dX12_spread_14 rfl ha1 (fun u2 => ?_)
      refine xs_iload_n (n := 16) dX12_spread_15 rfl rfl ?_
      refine xs_iconst (n := 17) (v := (3)) dX12_spread_16 rfl rfl ?_
      refine xs_idiv (n := 18) dX12_spread_17 rfl (fun _ => ?_)
      refine xs_leti (fun v3 => ?_)
      refine xs_istore_n (n := 19) (lv' := [none, some (.ref a1), some (.int v3), some (.int l3)]) dX12_spread_18 rfl (Nat.le_of_ble_eq_true rfl) rfl ?_
      refine xs_iincl (n := 22) (dv := (-1)) (fun v4 => [none, some (.ref a1), some (.int v3), some (.int v4)]) dX12_spread_19 rfl rfl rfl (Nat.le_of_ble_eq_true rfl) (fun _ => rfl) (fun v4 => ?_)
      refine xs_goto (n := 5) dX12_spread_22 rfl ?_
      exact xs_gf (ih v3 v4 u2) (And.intro rfl (And.intro rfl (And.intro rfl trivial)))
theorem en_X12_spread (m : Nat) (x0 : Int32) (w : Nat) (hw_ : xsh_ w 13 16) (u0 : xm_Y) : xs_ (fun _ : Unit => none) sg_0 mt_X12_spread 0 [some (.int x0), some (.ref w), none, none] [] u0 0 0 (fn_X12_spread m x0 w u0) := by
  refine xs_top ?_
  rw [fn_X12_spread]
  refine xs_iload_n (n := 1) dX12_spread_0 rfl rfl ?_
  refine xs_istore_n (n := 2) (lv' := [some (.int x0), some (.ref w), some (.int x0), none]) dX12_spread_1 rfl (Nat.le_of_ble_eq_true rfl) rfl ?_
  refine xs_bipush (n := 4) (v := (15)) dX12_spread_2 rfl rfl ?_
  refine xs_istore_n (n := 5) (lv' := [some (.int x0), some (.ref w), some (.int x0), some (.int (15))]) dX12_spread_4 rfl (Nat.le_of_ble_eq_true rfl) rfl ?_
  refine xs_reg ?_
  refine xs_fg (lv' := [none, some (.ref w), some (.int x0), some (.int (15))]) (And.intro rfl (And.intro rfl (And.intro rfl trivial))) ?_
  refine el_X12_spread_5 m w hw_ _ (fun q5 => ?_) m x0 (15) u0
  exact xs_vret dX12_spread_25 rfl rfl
def lp_X12_together_42 (m : Nat) (c4 : Int32) (c5 : Int32) (u0 : xm_Y) : Nat → Int32 → Int32 → Option (Int32 × Int32)
  | 0, _, _ => none
  | n + 1, l6, l7 =>
  if (4) ≤ l7 then (
  some (l6, l7)) else (
  xm_chk (xm_in (((4) * c4) + l7) 16) (
  xm_let (α := Int32) ((u0.1 179 (Int32.toNatClampNeg (((4) * c4) + l7)))) fun v6 =>
  xm_chk (xm_in (((4) * l7) + c5) 16) (
  xm_let (α := Int32) ((u0.1 180 (Int32.toNatClampNeg (((4) * l7) + c5)))) fun v7 =>
  ((if v6 = 0 then (
  some ((0))) else (
  if v7 = 0 then (
  some ((0))) else (
  if v6 = (2) then (
  some ((2))) else (
  if v7 = (2) then (
  some ((2))) else (
  some ((1)))))) : Option (Int32)).bind fun q8 =>
  ((if q8 ≤ l6 then (
  some (l6)) else (
  some (q8)) : Option (Int32)).bind fun q14 =>
  xm_let (α := Int32) (l7 + (1)) fun v17 =>
  lp_X12_together_42 m c4 c5 u0 n q14 v17)))))
def lp_X12_together_30 (m : Nat) (c4 : Int32) (u0 : xm_Y) : Nat → Int32 → Int32 → Option (Int32 × Int32)
  | 0, _, _ => none
  | n + 1, l3, l5 =>
  if (4) ≤ l5 then (
  some (l3, l5)) else (
  ((lp_X12_together_42 m c4 l5 u0 m (0) (0)).bind fun q18 =>
  xm_let (α := Int32) ((((3) * l3) + q18.1)) fun v19 =>
  xm_let (α := Int32) (l5 + (1)) fun v20 =>
  lp_X12_together_30 m c4 u0 n v19 v20))
def lp_X12_together_21 (m : Nat) (u0 : xm_Y) : Nat → Int32 → Int32 → Option (Int32 × Int32)
  | 0, _, _ => none
  | n + 1, l3, l4 =>
  if (4) ≤ l4 then (
  some (l3, l4)) else (
  ((lp_X12_together_30 m l4 u0 m l3 (0)).bind fun q21 =>
  xm_let (α := Int32) (l4 + (1)) fun v22 =>
  lp_X12_together_21 m u0 n q21.1 v22))
def fn_X12_together (m : Nat) (x0 : Int32) (x1 : Int32) (u0 : xm_Y) : Option (Int32 × xm_Y) :=
  ((fn_X12_spread m x0 179 u0).bind fun q1 =>
  ((fn_X12_spread m x1 180 q1.2).bind fun q2 =>
  ((lp_X12_together_21 m q2.2 m (0) (0)).bind fun q23 =>
  some (q23.1, q2.2))))
theorem el_X12_together_42 (m : Nat) (c4 : Int32) (c5 : Int32) (c3 : Int32) (u0 : xm_Y) (K : Int32 × Int32 → Option (Int32 × xm_Y)) (kE : ∀ q : Int32 × Int32, xs_ (fun x : Int32 => some (.int x)) sg_0 mt_X12_together 131 [some (.ref 150), none, none, some (.int c3), some (.int c4), some (.int c5), some (.int q.1), none, none, none, none] [] u0 0 0 (K q)) : ∀ (n : Nat) (l6 : Int32) (l7 : Int32), xs_ (fun x : Int32 => some (.int x)) sg_0 mt_X12_together 42 [some (.ref 150), none, none, some (.int c3), some (.int c4), some (.int c5), some (.int l6), some (.int l7), none, none, none] [] u0 0 0 ((lp_X12_together_42 m c4 c5 u0 n l6 l7).bind K) := by
  intro n
  induction n with
  | zero =>
    intro l6 l7
    exact xs_none
  | succ n ih =>
    intro l6 l7
    rw [lp_X12_together_42]
    refine xs_iload (n := 44) dX12_together_42 rfl rfl ?_
    refine xs_iconst (n := 45) (v := (4)) dX12_together_44 rfl rfl ?_
    refine xs_icmp_ge (n := 48) (tgt := 131) dX12_together_45 rfl rfl (fun hc5 => ?_) (fun hc5 => ?_)
    · exact xs_gf (kE (l6, l7)) (And.intro rfl (And.intro rfl (And.intro rfl (And.intro rfl (And.intro rfl trivial)))))
    · refine xs_aload_n (n := 49) dX12_together_48 rfl rfl ?_
      refine ys_getr (n := 52) dX12_together_49 rfl fl_X12_116 sh_150 rfl ?_
      refine xs_iconst (n := 53) (v := (4)) dX12_together_52 rfl rfl ?_
      refine xs_iload (n := 55) dX12_together_53 rfl rfl ?_
      refine xs_imul (n := 56) dX12_together_55 rfl ?_
      refine xs_iload (n := 58) dX12_together_56 rfl rfl ?_
      refine xs_iadd (n := 59) dX12_together_58 rfl ?_
      refine ys_iaload (n := 60) dX12_together_59 rfl sh_179 ?_
      refine xs_leti (fun v6 => ?_)
      refine xs_istore (n := 62) (lv' := [some (.ref 150), none, none, some (.int c3), some (.int c4), some (.int c5), some (.int l6), some (.int l7), some (.int v6), none, none]) dX12_together_60 rfl (Nat.le_of_ble_eq_true rfl) rfl ?_
      refine xs_aload_n (n := 63) dX12_together_62 rfl rfl ?_
      refine ys_getr (n := 66) dX12_together_63 rfl fl_X12_119 sh_150 rfl ?_
      refine xs_iconst (n := 67) (v := (4)) dX12_together_66 rfl rfl ?_
      refine xs_iload (n := 69) dX12_together_67 rfl rfl ?_
      refine xs_imul (n := 70) dX12_together_69 rfl ?_
      refine xs_iload (n := 72) dX12_together_70 rfl rfl ?_
      refine xs_iadd (n := 73) dX12_together_72 rfl ?_
      refine ys_iaload (n := 74) dX12_together_73 rfl sh_180 ?_
      refine xs_leti (fun v7 => ?_)
      refine xs_istore (n := 76) (lv' := [some (.ref 150), none, none, some (.int c3), some (.int c4), some (.int c5), some (.int l6), some (.int l7), some (.int v6), some (.int v7), none]) dX12_together_74 rfl (Nat.le_of_ble_eq_true rfl) rfl ?_
      refine xs_iload (n := 78) dX12_together_76 rfl rfl ?_
      refine xs_join 107 (fun q8 => [some (.ref 150), none, none, some (.int c3), some (.int c4), some (.int c5), some (.int l6), some (.int l7), none, none, none]) (fun q8 => [.int q8]) (fun q8 => u0) (fun q8 => ?_) (fun kj9 => ?_)
      · refine xs_istore (n := 109) (lv' := [some (.ref 150), none, none, some (.int c3), some (.int c4), some (.int c5), some (.int l6), some (.int l7), none, none, some (.int q8)]) dX12_together_107 rfl (Nat.le_of_ble_eq_true rfl) rfl ?_
        refine xs_iload (n := 111) dX12_together_109 rfl rfl ?_
        refine xs_iload (n := 113) dX12_together_111 rfl rfl ?_
        refine xs_join 123 (fun q14 => [some (.ref 150), none, none, some (.int c3), some (.int c4), some (.int c5), none, some (.int l7), none, none, none]) (fun q14 => [.int q14]) (fun q14 => u0) (fun q14 => ?_) (fun kj15 => ?_)
        · refine xs_istore (n := 125) (lv' := [some (.ref 150), none, none, some (.int c3), some (.int c4), some (.int c5), some (.int q14), some (.int l7), none, none, none]) dX12_together_123 rfl (Nat.le_of_ble_eq_true rfl) rfl ?_
          refine xs_iincl (n := 128) (dv := (1)) (fun v17 => [some (.ref 150), none, none, some (.int c3), some (.int c4), some (.int c5), some (.int q14), some (.int v17), none, none, none]) dX12_together_125 rfl rfl rfl (Nat.le_of_ble_eq_true rfl) (fun _ => rfl) (fun v17 => ?_)
          refine xs_goto (n := 42) dX12_together_128 rfl ?_
          exact xs_gf (ih q14 v17) (And.intro rfl (And.intro rfl (And.intro rfl (And.intro rfl (And.intro rfl (And.intro rfl trivial))))))
        · refine xs_icmp_le (n := 116) (tgt := 121) dX12_together_113 rfl rfl (fun hc16 => ?_) (fun hc16 => ?_)
          · refine xs_iload (n := 123) dX12_together_121 rfl rfl ?_
            exact xs_gf (kj15 (l6)) (And.intro rfl (And.intro rfl (And.intro rfl (And.intro rfl (And.intro rfl trivial)))))
          · refine xs_iload (n := 118) dX12_together_116 rfl rfl ?_
            refine xs_goto (n := 123) dX12_together_118 rfl ?_
            exact xs_gf (kj15 (q8)) (And.intro rfl (And.intro rfl (And.intro rfl (And.intro rfl (And.intro rfl trivial)))))
      · refine xs_if_eq (n := 81) (tgt := 86) dX12_together_78 rfl rfl (fun hc10 => ?_) (fun hc10 => ?_)
        · refine xs_iconst (n := 87) (v := (0)) dX12_together_86 rfl rfl ?_
          refine xs_goto (n := 107) dX12_together_87 rfl ?_
          exact xs_gf (kj9 ((0))) (And.intro rfl (And.intro rfl (And.intro rfl (And.intro rfl (And.intro rfl (And.intro rfl trivial))))))
        · refine xs_iload (n := 83) dX12_together_81 rfl rfl ?_
          refine xs_if_ne (n := 86) (tgt := 90) dX12_together_83 rfl rfl (fun hc11 => ?_) (fun hc11 => ?_)
          · refine xs_iconst (n := 87) (v := (0)) dX12_together_86 rfl rfl ?_
            refine xs_goto (n := 107) dX12_together_87 rfl ?_
            exact xs_gf (kj9 ((0))) (And.intro rfl (And.intro rfl (And.intro rfl (And.intro rfl (And.intro rfl (And.intro rfl trivial))))))
          · refine xs_iload (n := 92) dX12_together_90 rfl rfl ?_
            refine xs_iconst (n := 93) (v := (2)) dX12_together_92 rfl rfl ?_
            refine xs_icmp_eq (n := 96) (tgt := 102) dX12_together_93 rfl rfl (fun hc12 => ?_) (fun hc12 => ?_)
            · refine xs_iconst (n := 103) (v := (2)) dX12_together_102 rfl rfl ?_
              refine xs_goto (n := 107) dX12_together_103 rfl ?_
              exact xs_gf (kj9 ((2))) (And.intro rfl (And.intro rfl (And.intro rfl (And.intro rfl (And.intro rfl (And.intro rfl trivial))))))
            · refine xs_iload (n := 98) dX12_together_96 rfl rfl ?_
              refine xs_iconst (n := 99) (v := (2)) dX12_together_98 rfl rfl ?_
              refine xs_icmp_ne (n := 102) (tgt := 106) dX12_together_99 rfl rfl (fun hc13 => ?_) (fun hc13 => ?_)
              · refine xs_iconst (n := 103) (v := (2)) dX12_together_102 rfl rfl ?_
                refine xs_goto (n := 107) dX12_together_103 rfl ?_
                exact xs_gf (kj9 ((2))) (And.intro rfl (And.intro rfl (And.intro rfl (And.intro rfl (And.intro rfl (And.intro rfl trivial))))))
              · refine xs_iconst (n := 107) (v := (1)) dX12_together_106 rfl rfl ?_
                exact xs_gf (kj9 ((1))) (And.intro rfl (And.intro rfl (And.intro rfl (And.intro rfl (And.intro rfl (And.intro rfl trivial))))))
theorem el_X12_together_30 (m : Nat) (c4 : Int32) (u0 : xm_Y) (K : Int32 × Int32 → Option (Int32 × xm_Y)) (kE : ∀ q : Int32 × Int32, xs_ (fun x : Int32 => some (.int x)) sg_0 mt_X12_together 144 [some (.ref 150), none, none, some (.int q.1), some (.int c4), none, none, none, none, none, none] [] u0 0 0 (K q)) : ∀ (n : Nat) (l3 : Int32) (l5 : Int32), xs_ (fun x : Int32 => some (.int x)) sg_0 mt_X12_together 30 [some (.ref 150), none, none, some (.int l3), some (.int c4), some (.int l5), none, none, none, none, none] [] u0 0 0 ((lp_X12_together_30 m c4 u0 n l3 l5).bind K) := by
  intro n
  induction n with
  | zero =>
    intro l3 l5
    exact xs_none
  | succ n ih =>
    intro l3 l5
    rw [lp_X12_together_30]
    refine xs_iload (n := 32) dX12_together_30 rfl rfl ?_
    refine xs_iconst (n := 33) (v := (4)) dX12_together_32 rfl rfl ?_
    refine xs_icmp_ge (n := 36) (tgt := 144) dX12_together_33 rfl rfl (fun hc4 => ?_) (fun hc4 => ?_)
    · exact xs_gf (kE (l3, l5)) (And.intro rfl (And.intro rfl (And.intro rfl trivial)))
    · refine xs_iconst (n := 37) (v := (0)) dX12_together_36 rfl rfl ?_
      refine xs_istore (n := 39) (lv' := [some (.ref 150), none, none, some (.int l3), some (.int c4), some (.int l5), some (.int (0)), none, none, none, none]) dX12_together_37 rfl (Nat.le_of_ble_eq_true rfl) rfl ?_
      refine xs_iconst (n := 40) (v := (0)) dX12_together_39 rfl rfl ?_
      refine xs_istore (n := 42) (lv' := [some (.ref 150), none, none, some (.int l3), some (.int c4), some (.int l5), some (.int (0)), some (.int (0)), none, none, none]) dX12_together_40 rfl (Nat.le_of_ble_eq_true rfl) rfl ?_
      refine xs_reg ?_
      refine xs_fg (lv' := [some (.ref 150), none, none, some (.int l3), some (.int c4), some (.int l5), some (.int (0)), some (.int (0)), none, none, none]) (And.intro rfl (And.intro rfl (And.intro rfl (And.intro rfl (And.intro rfl (And.intro rfl trivial)))))) ?_
      refine el_X12_together_42 m c4 l5 l3 u0 _ (fun q18 => ?_) m (0) (0)
      refine xs_iconst (n := 132) (v := (3)) dX12_together_131 rfl rfl ?_
      refine xs_iload_n (n := 133) dX12_together_132 rfl rfl ?_
      refine xs_imul (n := 134) dX12_together_133 rfl ?_
      refine xs_iload (n := 136) dX12_together_134 rfl rfl ?_
      refine xs_iadd (n := 137) dX12_together_136 rfl ?_
      refine xs_leti (fun v19 => ?_)
      refine xs_istore_n (n := 138) (lv' := [some (.ref 150), none, none, some (.int v19), some (.int c4), some (.int l5), some (.int q18.1), none, none, none, none]) dX12_together_137 rfl (Nat.le_of_ble_eq_true rfl) rfl ?_
      refine xs_iincl (n := 141) (dv := (1)) (fun v20 => [some (.ref 150), none, none, some (.int v19), some (.int c4), some (.int v20), some (.int q18.1), none, none, none, none]) dX12_together_138 rfl rfl rfl (Nat.le_of_ble_eq_true rfl) (fun _ => rfl) (fun v20 => ?_)
      refine xs_goto (n := 30) dX12_together_141 rfl ?_
      exact xs_gf (ih v19 v20) (And.intro rfl (And.intro rfl (And.intro rfl (And.intro rfl trivial))))
theorem el_X12_together_21 (m : Nat) (u0 : xm_Y) (K : Int32 × Int32 → Option (Int32 × xm_Y)) (kE : ∀ q : Int32 × Int32, xs_ (fun x : Int32 => some (.int x)) sg_0 mt_X12_together 150 [none, none, none, some (.int q.1), none, none, none, none, none, none, none] [] u0 0 0 (K q)) : ∀ (n : Nat) (l3 : Int32) (l4 : Int32), xs_ (fun x : Int32 => some (.int x)) sg_0 mt_X12_together 21 [some (.ref 150), none, none, some (.int l3), some (.int l4), none, none, none, none, none, none] [] u0 0 0 ((lp_X12_together_21 m u0 n l3 l4).bind K) := by
  intro n
  induction n with
  | zero =>
    intro l3 l4
    exact xs_none
  | succ n ih =>
    intro l3 l4
    rw [lp_X12_together_21]
    refine xs_iload (n := 23) dX12_together_21 rfl rfl ?_
    refine xs_iconst (n := 24) (v := (4)) dX12_together_23 rfl rfl ?_
    refine xs_icmp_ge (n := 27) (tgt := 150) dX12_together_24 rfl rfl (fun hc3 => ?_) (fun hc3 => ?_)
    · exact xs_gf (kE (l3, l4)) (And.intro rfl trivial)
    · refine xs_iconst (n := 28) (v := (0)) dX12_together_27 rfl rfl ?_
      refine xs_istore (n := 30) (lv' := [some (.ref 150), none, none, some (.int l3), some (.int l4), some (.int (0)), none, none, none, none, none]) dX12_together_28 rfl (Nat.le_of_ble_eq_true rfl) rfl ?_
      refine xs_reg ?_
      refine xs_fg (lv' := [some (.ref 150), none, none, some (.int l3), some (.int l4), some (.int (0)), none, none, none, none, none]) (And.intro rfl (And.intro rfl (And.intro rfl (And.intro rfl trivial)))) ?_
      refine el_X12_together_30 m l4 u0 _ (fun q21 => ?_) m l3 (0)
      refine xs_iincl (n := 147) (dv := (1)) (fun v22 => [some (.ref 150), none, none, some (.int q21.1), some (.int v22), none, none, none, none, none, none]) dX12_together_144 rfl rfl rfl (Nat.le_of_ble_eq_true rfl) (fun _ => rfl) (fun v22 => ?_)
      refine xs_goto (n := 21) dX12_together_147 rfl ?_
      exact xs_gf (ih q21.1 v22) (And.intro rfl (And.intro rfl (And.intro rfl trivial)))
theorem en_X12_together (m : Nat) (x0 : Int32) (x1 : Int32) (u0 : xm_Y) : xs_ (fun x : Int32 => some (.int x)) sg_0 mt_X12_together 0 [some (.ref 150), some (.int x0), some (.int x1), none, none, none, none, none, none, none, none] [] u0 0 0 (fn_X12_together m x0 x1 u0) := by
  refine xs_top ?_
  rw [fn_X12_together]
  refine xs_iload_n (n := 1) dX12_together_0 rfl rfl ?_
  refine xs_aload_n (n := 2) dX12_together_1 rfl rfl ?_
  refine ys_getr (n := 5) dX12_together_2 rfl fl_X12_116 sh_150 rfl ?_
  refine ys_callsv (n := 8) (N := mt_X12_spread) dX12_together_5 rfl ok_X12_spread tw_1314 st_X12_spread ⟨Nat.le_of_ble_eq_true rfl, Nat.le_of_ble_eq_true rfl⟩ [.int x0, .ref 179] [] rfl rfl (Nat.le_of_ble_eq_true rfl) rfl (Nat.le_of_ble_eq_true rfl) (en_X12_spread m x0 179 sh_179 u0) (fun q1 => ?_)
  refine xs_iload_n (n := 9) dX12_together_8 rfl rfl ?_
  refine xs_aload_n (n := 10) dX12_together_9 rfl rfl ?_
  refine ys_getr (n := 13) dX12_together_10 rfl fl_X12_119 sh_150 rfl ?_
  refine ys_callsv (n := 16) (N := mt_X12_spread) dX12_together_13 rfl ok_X12_spread tw_1314 st_X12_spread ⟨Nat.le_of_ble_eq_true rfl, Nat.le_of_ble_eq_true rfl⟩ [.int x1, .ref 180] [] rfl rfl (Nat.le_of_ble_eq_true rfl) rfl (Nat.le_of_ble_eq_true rfl) (en_X12_spread m x1 180 sh_180 q1.2) (fun q2 => ?_)
  refine xs_iconst (n := 17) (v := (0)) dX12_together_16 rfl rfl ?_
  refine xs_istore_n (n := 18) (lv' := [some (.ref 150), some (.int x0), some (.int x1), some (.int (0)), none, none, none, none, none, none, none]) dX12_together_17 rfl (Nat.le_of_ble_eq_true rfl) rfl ?_
  refine xs_iconst (n := 19) (v := (0)) dX12_together_18 rfl rfl ?_
  refine xs_istore (n := 21) (lv' := [some (.ref 150), some (.int x0), some (.int x1), some (.int (0)), some (.int (0)), none, none, none, none, none, none]) dX12_together_19 rfl (Nat.le_of_ble_eq_true rfl) rfl ?_
  refine xs_reg ?_
  refine xs_fg (lv' := [some (.ref 150), none, none, some (.int (0)), some (.int (0)), none, none, none, none, none, none]) (And.intro rfl (And.intro rfl (And.intro rfl trivial))) ?_
  refine el_X12_together_21 m q2.2 _ (fun q23 => ?_) m (0) (0)
  refine xs_iload_n (n := 151) dX12_together_150 rfl rfl ?_
  exact xs_iret dX12_together_151 rfl rfl
