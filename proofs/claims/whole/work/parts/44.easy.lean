theorem i64_le {x : Int32} : (Int32.toInt64 x).toInt = x.toInt := Int32.toInt_toInt64 x
theorem lit_nonneg : (0 : Int32).toInt = 0 := rfl
theorem nlt0 {x : Int32} (h : ¬ x < 0) : 0 ≤ x.toInt := by
  rw [Int32.lt_iff_toInt_lt] at h
  have z : (0 : Int32).toInt = 0 := rfl
  omega
section XT_
variable {PL : xm_Y → Nat → Prop} {FL : xm_Y → xm_Y → Prop} {m : Nat}
theorem tf_found (x y : Int32) : tf_ PL FL (fn_X11_found m x y) (fn_X12_found m x y) := by
  intro c d iv
  obtain ⟨n, nb, gc, h1, h2, h3, h4, h5, h6, h7, h8, h9, h10⟩ := id iv
  obtain ⟨⟨f, f1, f2, f3, f4⟩, -⟩ := h7
  have key : ∀ r, fn_X5_weightOf m x y c = some (r, c) → (fn_X12_found m x y d) = some (r, d) → ∃ (r : Int32) (c' d' : xm_Y), fn_X11_found m x y c = some (r, c') ∧ md_ c c' ∧ fn_X12_found m x y d = some (r, d') ∧ cl_ d d' ∧ iv_ PL FL c' d' := fun r e1 e2 => ⟨r, c, d, by rw [fn_X11_found, e1]; rfl, md_.rf c, e2, cl_.rf d, iv⟩
  by_cases hx0 : x < 0
  · exact key (-1000) (by rw [fn_X5_weightOf, if_pos hx0]) (by rw [fn_X12_found, if_pos hx0]; rfl)
  · by_cases hx1 : nI f ≤ x
    · exact key (-1000) (by rw [fn_X5_weightOf, if_neg hx0, f2, if_pos hx1]) (by rw [fn_X12_found, if_neg hx0, f3, if_pos hx1]; rfl)
    · by_cases hy0 : y < 0
      · exact key (-1000) (by rw [fn_X5_weightOf, if_neg hx0, f2, if_neg hx1, if_pos hy0]) (by rw [fn_X12_found, if_neg hx0, f3, if_neg hx1, if_pos hy0]; rfl)
      · by_cases hy1 : nI 3 ≤ y
        · have hy2 : (3 : Int32) ≤ y := hy1
          have hy3 : ¬ y < (3 : Int32) := Int32.not_lt.mpr hy2
          exact key (-1000) (by rw [fn_X5_weightOf, if_neg hx0, f2, if_neg hx1, if_neg hy0, if_neg hy3]) (by rw [fn_X12_found, if_neg hx0, f3, if_neg hx1, if_neg hy0, if_pos hy2]; rfl)
        · have hy2 : ¬ (3 : Int32) ≤ y := hy1
          have hy3 : y < (3 : Int32) := Int32.not_le.mp hy2
          obtain ⟨a1, a2, a3, a4⟩ := hb_in hx0 hx1 (by omega)
          obtain ⟨b1, b2, b3, b4⟩ := hb_in hy0 hy1 (by omega)
          have e : (3 : Int32) * x + y = nI (3 * x.toNatClampNeg + y.toNatClampNeg) := by
            rw [a2, b2, nI_cl (by omega), nI_cl (by omega)]
            show nI 3 * _ + _ = _
            rw [nI_mu, nI_ad]
          have hin : xm_in ((3 : Int32) * x + y) 15 := by rw [e]; exact nI_xi (by omega) (by omega)
          have hcl : ((3 : Int32) * x + y).toNatClampNeg = 3 * x.toNatClampNeg + y.toNatClampNeg := by rw [e]; exact nI_cl (by omega)
          refine key (d.1 161 (3 * x.toNatClampNeg + y.toNatClampNeg)) ?_ ?_
          · rw [fn_X5_weightOf, if_neg hx0, f2, if_neg hx1, if_neg hy0, if_pos hy3, ck_t hin, hcl, f4 _ (by omega)]
          · rw [fn_X12_found, if_neg hx0, f3, if_neg hx1, if_neg hy0, if_neg hy2, ck_t hin, hcl]; rfl
theorem tf_set (pf : pf_ PL FL) (x y : Int32) : tf_ PL FL (fn_X11_set m x y) (fn_X12_set m x y) := by
  intro c d iv
  obtain ⟨n, nb, gc, h1, h2, h3, h4, h5, h6, h7, h8, h9, h10⟩ := id iv
  obtain ⟨a1, a2, a3, a4, a5, a6, a7⟩ := id h1
  have none_ : fn_X11_set m x y c = some (-1, c) → fn_X12_set m x y d = some (-1, d) → ∃ (r : Int32) (c' d' : xm_Y), fn_X11_set m x y c = some (r, c') ∧ md_ c c' ∧ fn_X12_set m x y d = some (r, d') ∧ cl_ d d' ∧ iv_ PL FL c' d' := fun e1 e2 => ⟨-1, c, d, e1, md_.rf c, e2, cl_.rf d, iv⟩
  by_cases hx0 : x < 0
  · exact none_ (by rw [fn_X11_set, ev_X7_hasNumber, if_pos hx0]; rfl) (by rw [fn_X12_set, if_pos hx0])
  · by_cases hx1 : nI n ≤ x
    · exact none_ (by rw [fn_X11_set, ev_X7_hasNumber, if_neg hx0, a1, if_pos hx1]; rfl) (by rw [fn_X12_set, if_neg hx0, a2, if_pos hx1])
    · by_cases hy0 : y < -1000000
      · refine none_ ?_ (by rw [fn_X12_set, if_neg hx0, a2, if_neg hx1, if_pos hy0])
        rw [fn_X11_set, ev_X7_hasNumber, if_neg hx0, a1, if_neg hx1]
        simp only [Option.bind_some, ev_X11_isGiven, if_pos hy0]
        rfl
      · by_cases hy1 : y ≤ 1000000
        · have hy2 : ¬ 1000000 < y := Int32.not_lt.mpr hy1
          obtain ⟨b1, b2, b3, b4⟩ := hb_in hx0 hx1 (by omega)
          have hin : xm_in x 3 := ⟨b3, by omega⟩
          have hv1 : -1000000 ≤ y.toInt := by
            have := Int32.not_lt.mp hy0
            exact Int32.le_iff_toInt_le.mp this
          have hv2 : y.toInt ≤ 1000000 := Int32.le_iff_toInt_le.mp hy1
          refine ⟨0, w_J c 123 x.toNatClampNeg y.toInt64, w_J d 154 x.toNatClampNeg y.toInt64, ?_, (md_.rf c).wJ (by decide), ?_, (cl_.rf d).wJ (by decide), n, nb, gc, h1, ?_, ?_, h4, h5, h6, h7, ?_, h9, h10⟩
          · rw [fn_X11_set, ev_X7_hasNumber, if_neg hx0, a1, if_neg hx1]
            simp only [Option.bind_some, ev_X11_isGiven, if_neg hy0, if_neg hy2]
            rw [if_neg (by decide), if_neg (by decide), ck_t hin]; rfl
          · rw [fn_X12_set, if_neg hx0, a2, if_neg hx1, if_neg hy0, if_pos hy1, ck_t hin]; rfl
          · exact iv_2c (c := c) (d := d) (fun k hk => (wJ_lo (by decide) k hk).1) rfl rfl rfl a4 a7 h2
          · intro i hi
            show (if i = x.toNatClampNeg then y.toInt64 else c.2 123 i) = (if i = x.toNatClampNeg then y.toInt64 else d.2 154 i) ∧ -1000000000000 ≤ (if i = x.toNatClampNeg then y.toInt64 else d.2 154 i).toInt ∧ (if i = x.toNatClampNeg then y.toInt64 else d.2 154 i).toInt ≤ 1000000000000 ∧ (n ≤ i → (if i = x.toNatClampNeg then y.toInt64 else d.2 154 i) = 0)
            by_cases hix : i = x.toNatClampNeg
            · simp only [if_pos hix, i64_le]
              exact ⟨trivial, by omega, by omega, fun hn => absurd hn (by omega)⟩
            · simp only [if_neg hix]
              exact h3 i hi
          · exact iv_8c (c := c) (d := d) pf (wJ_lo (by decide)) rfl rfl rfl rfl rfl rfl rfl rfl rfl rfl rfl rfl h8
        · have hy2 : 1000000 < y := Int32.not_le.mp hy1
          refine none_ ?_ (by rw [fn_X12_set, if_neg hx0, a2, if_neg hx1, if_neg hy0, if_neg hy1])
          rw [fn_X11_set, ev_X7_hasNumber, if_neg hx0, a1, if_neg hx1]
          simp only [Option.bind_some, ev_X11_isGiven, if_neg hy0, if_pos hy2]
          rfl
end XT_
