theorem idx2 {x y : Int32} {n : Nat} (hn : n ≤ 3) (hx0 : ¬ x < 0) (hx1 : ¬ nI n ≤ x) (hy : y = 0 ∨ y = 1) : ∃ k, k < 2 * n ∧ (2 : Int32) * x + y = nI k ∧ xm_in ((2 : Int32) * x + y) 6 ∧ ((2 : Int32) * x + y).toNatClampNeg = k := by
  obtain ⟨a1, a2, a3, a4⟩ := hb_in hx0 hx1 (by omega)
  rcases hy with rfl | rfl
  · have e : (2 : Int32) * x + 0 = nI (2 * x.toNatClampNeg + 0) := by
      rw [a2, nI_cl (by omega)]
      show nI 2 * _ + nI 0 = _
      rw [nI_mu, nI_ad]
    refine ⟨2 * x.toNatClampNeg + 0, by omega, e, ?_, ?_⟩
    · rw [e]; exact nI_xi (by omega) (by omega)
    · rw [e]; exact nI_cl (by omega)
  · have e : (2 : Int32) * x + 1 = nI (2 * x.toNatClampNeg + 1) := by
      rw [a2, nI_cl (by omega)]
      show nI 2 * _ + nI 1 = _
      rw [nI_mu, nI_ad]
    refine ⟨2 * x.toNatClampNeg + 1, by omega, e, ?_, ?_⟩
    · rw [e]; exact nI_xi (by omega) (by omega)
    · rw [e]; exact nI_cl (by omega)
theorem side_i {y : Int32} (h0 : ¬ y < 0) (h1 : ¬ 1 < y) : y = 0 ∨ y = 1 := by
  have a := nlt0 h0
  rw [Int32.lt_iff_toInt_lt] at h1
  have z : (1 : Int32).toInt = 1 := rfl
  rw [z] at h1
  have h : y.toInt = 0 ∨ y.toInt = 1 := by omega
  rcases h with h | h
  · left; apply Int32.toInt_inj.mp; rw [h]; rfl
  · right; apply Int32.toInt_inj.mp; rw [h]; rfl
theorem side_n {y : Int32} (h : y < 0 ∨ 1 < y) : ¬ y = 0 ∧ ¬ y = 1 := by
  constructor
  · rintro rfl; rcases h with h | h <;> revert h <;> decide
  · rintro rfl; rcases h with h | h <;> revert h <;> decide
section XT_
variable {PL : xm_Y → Nat → Prop} {FL : xm_Y → xm_Y → Prop} {m : Nat}
theorem tf_box (x y : Int32) : tf_ PL FL (fn_X11_box m x y) (fn_X12_box m x y) := by
  intro c d iv
  obtain ⟨n, nb, gc, h1, h2, h3, h4, h5, h6, h7, h8, h9, h10⟩ := id iv
  obtain ⟨a1, a2, a3, a4, a5, a6, a7⟩ := id h1
  have key : ∀ r, fn_X11_box m x y c = some (r, c) → fn_X12_box m x y d = some (r, d) → ∃ (r : Int64) (c' d' : xm_Y), fn_X11_box m x y c = some (r, c') ∧ md_ c c' ∧ fn_X12_box m x y d = some (r, d') ∧ cl_ d d' ∧ iv_ PL FL c' d' := fun r e1 e2 => ⟨r, c, d, e1, md_.rf c, e2, cl_.rf d, iv⟩
  by_cases hx0 : x < 0
  · exact key (-3000000000000) (by rw [fn_X11_box, ev_X7_hasNumber, if_pos hx0]; rfl) (by rw [fn_X12_box, if_pos hx0]; rfl)
  · by_cases hx1 : nI n ≤ x
    · exact key (-3000000000000) (by rw [fn_X11_box, ev_X7_hasNumber, if_neg hx0, a1, if_pos hx1]; rfl) (by rw [fn_X12_box, if_neg hx0, a2, if_pos hx1]; rfl)
    · by_cases hy : y < 0 ∨ 1 < y
      · obtain ⟨s0, s1⟩ := side_n hy
        refine key (-3000000000000) ?_ ?_
        · rw [fn_X11_box, ev_X7_hasNumber, if_neg hx0, a1, if_neg hx1]
          simp only [Option.bind_some, ev_X11_isSide, if_neg s0, if_neg s1]
          rfl
        · rw [fn_X12_box, if_neg hx0, a2, if_neg hx1]
          by_cases hy0 : y < 0
          · rw [if_pos hy0]; rfl
          · rw [if_neg hy0, if_pos (hy.resolve_left hy0)]; rfl
      · have hy0 : ¬ y < 0 := fun q => hy (Or.inl q)
        have hy1 : ¬ 1 < y := fun q => hy (Or.inr q)
        have hs := side_i hy0 hy1
        obtain ⟨k, k1, k2, k3, k4⟩ := idx2 a4 hx0 hx1 hs
        have hsd : (if y = 0 then (1 : Int32) else if y = 1 then 1 else 0) = 1 := by
          rcases hs with rfl | rfl <;> rfl
        have hc : fn_X11_box m x y c = some (c.2 128 k, c) := by
          rw [fn_X11_box, ev_X7_hasNumber, if_neg hx0, a1, if_neg hx1]
          simp only [Option.bind_some, ev_X11_isSide, hsd, fn_X2_end]
          rw [if_neg (by decide), if_neg (by decide), ck_t k3, k4]
          rfl
        have hd : fn_X12_box m x y d = some (if d.1 156 k = 0 then d.2 155 k else -3000000000000, d) := by
          rw [fn_X12_box, if_neg hx0, a2, if_neg hx1, if_neg hy0, if_neg hy1, ck_t k3, k4]
          by_cases hz : d.1 156 k = 0
          · rw [if_pos hz, if_pos hz, ck_t k3]; rfl
          · rw [if_neg hz, if_neg hz]; rfl
        rcases (h5 k (by omega)).1 k1 with ⟨q1, q2⟩ | ⟨q1, q2, -⟩
        · refine key (-3000000000000) (by rw [hc, q2]) ?_
          rw [hd, q1]; rfl
        · refine key (d.2 155 k) (by rw [hc, q2]) ?_
          rw [hd, q1]; rfl
theorem tf_begin (pf : pf_ PL FL) (x y v : Int32) : tf_ PL FL (fn_X11_begin m x y v) (fn_X12_begin m x y v) := by
  intro c d iv
  obtain ⟨n, nb, gc, h1, h2, h3, h4, h5, h6, h7, h8, h9, h10⟩ := id iv
  obtain ⟨a1, a2, a3, a4, a5, a6, a7⟩ := id h1
  have none_ : fn_X11_begin m x y v c = some (-1, c) → fn_X12_begin m x y v d = some (-1, d) → ∃ (r : Int32) (c' d' : xm_Y), fn_X11_begin m x y v c = some (r, c') ∧ md_ c c' ∧ fn_X12_begin m x y v d = some (r, d') ∧ cl_ d d' ∧ iv_ PL FL c' d' := fun e1 e2 => ⟨-1, c, d, e1, md_.rf c, e2, cl_.rf d, iv⟩
  by_cases hx0 : x < 0
  · exact none_ (by rw [fn_X11_begin, ev_X7_hasNumber, if_pos hx0]; rfl) (by rw [fn_X12_begin, if_pos hx0])
  · by_cases hx1 : nI n ≤ x
    · exact none_ (by rw [fn_X11_begin, ev_X7_hasNumber, if_neg hx0, a1, if_pos hx1]; rfl) (by rw [fn_X12_begin, if_neg hx0, a2, if_pos hx1])
    · by_cases hy : y < 0 ∨ 1 < y
      · obtain ⟨s0, s1⟩ := side_n hy
        refine none_ ?_ ?_
        · rw [fn_X11_begin, ev_X7_hasNumber, if_neg hx0, a1, if_neg hx1]
          simp only [Option.bind_some, ev_X11_isSide, if_neg s0, if_neg s1]
          rfl
        · rw [fn_X12_begin, if_neg hx0, a2, if_neg hx1]
          by_cases hy0 : y < 0
          · rw [if_pos hy0]
          · rw [if_neg hy0, if_pos (hy.resolve_left hy0)]
      · have hy0 : ¬ y < 0 := fun q => hy (Or.inl q)
        have hy1 : ¬ 1 < y := fun q => hy (Or.inr q)
        have hs := side_i hy0 hy1
        obtain ⟨k, k1, k2, k3, k4⟩ := idx2 a4 hx0 hx1 hs
        have hsd : (if y = 0 then (1 : Int32) else if y = 1 then 1 else 0) = 1 := by
          rcases hs with rfl | rfl <;> rfl
        have put_ : ∀ (z : Int64) (u : xm_Y), fn_X2_put m 129 x y z u = some ((), w_J u 130 k z) := fun z u => by
          rw [fn_X2_put, ck_t k3, k4]; rfl
        have hpre : ∀ (cv : Int64) (dv : Int64) (o : Int32), ((o = 1 ∧ cv = -3000000000000) ∨ (o = 0 ∧ cv = dv ∧ -1000000 ≤ dv.toInt ∧ dv.toInt ≤ 1000000)) → iv_ PL FL (w_J c 130 k cv) (w_I (w_J d 157 k dv) 158 k o) := by
          intro cv dv o ho
          refine ⟨n, nb, gc, h1, iv_2c (c := c) (d := d) (fun k hk => (wJ_lo (by decide) k hk).1) rfl rfl rfl a4 a7 h2, h3, ?_, h5, h6, h7, iv_8c (c := c) (d := d) pf (wJ_lo (by decide)) rfl rfl rfl rfl rfl rfl rfl rfl rfl rfl rfl rfl h8, h9, h10⟩
          intro j hj
          show ((if j = k then o else d.1 158 j) = 1 ∧ (if j = k then cv else c.2 130 j) = -3000000000000 ∧ j < 2 * n) ∨ ((if j = k then o else d.1 158 j) = 0 ∧ (if j = k then cv else c.2 130 j) = (if j = k then dv else d.2 157 j) ∧ -1000000 ≤ (if j = k then dv else d.2 157 j).toInt ∧ (if j = k then dv else d.2 157 j).toInt ≤ 1000000 ∧ (2 * n ≤ j → (if j = k then dv else d.2 157 j) = 0))
          by_cases hjk : j = k
          · simp only [if_pos hjk]
            rcases ho with ⟨o1, o2⟩ | ⟨o1, o2, o3, o4⟩
            · exact Or.inl ⟨o1, o2, by omega⟩
            · exact Or.inr ⟨o1, o2, o3, o4, fun q => absurd q (by omega)⟩
          · simp only [if_neg hjk]
            exact h4 j hj
        by_cases hv : v = -2000000
        · subst hv
          refine ⟨0, w_J c 130 k (-3000000000000), w_I (w_J d 157 k (-2000000 : Int32).toInt64) 158 k 1, ?_, (md_.rf c).wJ (by decide), ?_, ((cl_.rf d).wJ (by decide)).wI (by decide), hpre _ _ _ (Or.inl ⟨rfl, rfl⟩)⟩
          · rw [fn_X11_begin, ev_X7_hasNumber, if_neg hx0, a1, if_neg hx1]
            simp only [Option.bind_some, ev_X11_isSide, hsd, ev_X11_isGiven, put_]
            rfl
          · rw [fn_X12_begin, if_neg hx0, a2, if_neg hx1, if_neg hy0, if_neg hy1, if_pos rfl, ck_t k3, k4]
            simp only [xm_let, ck_t k3]
            rfl
        · by_cases hv0 : v < -1000000
          · refine none_ ?_ ?_
            · rw [fn_X11_begin, ev_X7_hasNumber, if_neg hx0, a1, if_neg hx1]
              simp only [Option.bind_some, ev_X11_isSide, hsd, ev_X11_isGiven, if_pos hv0, if_neg hv]
              rfl
            · rw [fn_X12_begin, if_neg hx0, a2, if_neg hx1, if_neg hy0, if_neg hy1, if_neg hv, if_pos hv0]
          · by_cases hv1 : v ≤ 1000000
            · have hv2 : ¬ 1000000 < v := Int32.not_lt.mpr hv1
              have w1 : -1000000 ≤ v.toInt := Int32.le_iff_toInt_le.mp (Int32.not_lt.mp hv0)
              have w2 : v.toInt ≤ 1000000 := Int32.le_iff_toInt_le.mp hv1
              refine ⟨0, w_J c 130 k v.toInt64, w_I (w_J d 157 k v.toInt64) 158 k 0, ?_, (md_.rf c).wJ (by decide), ?_, ((cl_.rf d).wJ (by decide)).wI (by decide), hpre _ _ _ (Or.inr ⟨rfl, rfl, by rw [i64_le]; exact w1, by rw [i64_le]; exact w2⟩)⟩
              · rw [fn_X11_begin, ev_X7_hasNumber, if_neg hx0, a1, if_neg hx1]
                simp only [Option.bind_some, ev_X11_isSide, hsd, ev_X11_isGiven, if_neg hv0, if_neg hv2, if_neg hv, put_]
                rfl
              · rw [fn_X12_begin, if_neg hx0, a2, if_neg hx1, if_neg hy0, if_neg hy1, if_neg hv, if_neg hv0, if_pos hv1, ck_t k3, k4]
                simp only [xm_let, ck_t k3, if_neg hv]
                rfl
            · have hv2 : 1000000 < v := Int32.not_le.mp hv1
              refine none_ ?_ ?_
              · rw [fn_X11_begin, ev_X7_hasNumber, if_neg hx0, a1, if_neg hx1]
                simp only [Option.bind_some, ev_X11_isSide, hsd, ev_X11_isGiven, if_neg hv0, if_pos hv2, if_neg hv]
                rfl
              · rw [fn_X12_begin, if_neg hx0, a2, if_neg hx1, if_neg hy0, if_neg hy1, if_neg hv, if_neg hv0, if_neg hv1]
end XT_
