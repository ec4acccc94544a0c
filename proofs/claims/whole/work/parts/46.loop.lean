/-- the masks of a TELLS, digit by digit -/
def mk_d (l1 l2 : Int32) (j : Nat) : Int32 := (fun v => (fun q => if v ≤ 1 then q else q ||| ((1 : Int32) <<< ((nI j + 16) &&& 31))) (if v ≤ 0 then l1 else l1 ||| ((1 : Int32) <<< (nI j &&& 31)))) (l2 - l2 / 3 * 3)
def mk_ : Nat → Int32 → Int32 → Int32
  | 0, l1, _ => l1
  | j + 1, l1, l2 => mk_ j (mk_d l1 l2 j) (l2 / 3)
theorem nI_dn (j : Nat) : nI (j + 1) + (-1 : Int32) = nI j := by
  rw [nI_succ]
  show nI j + 1 + -1 = nI j
  rw [Int32.add_assoc]
  have : (1 : Int32) + -1 = 0 := by decide
  rw [this, Int32.add_zero]
theorem ev_masks (m : Nat) (u : xm_Y) : ∀ (j n : Nat) (l1 l2 : Int32), j < 100 → j + 1 ≤ n → ∃ a b, lp_X3_masksOf_7 m u n l1 l2 (nI j + (-1 : Int32)) = some (mk_ j l1 l2, a, b) := by
  intro j
  induction j with
  | zero =>
    intro n l1 l2 _ hn
    obtain ⟨k, rfl⟩ := Nat.exists_eq_add_of_le' hn
    exact ⟨l2, _, rfl⟩
  | succ j ih =>
    intro n l1 l2 hj hn
    obtain ⟨k, rfl⟩ := Nat.exists_eq_add_of_le' (show 1 ≤ n by omega)
    obtain ⟨a, b, e⟩ := ih k (mk_d l1 l2 j) (l2 / 3) (by omega) (by omega)
    refine ⟨a, b, ?_⟩
    rw [nI_dn, lp_X3_masksOf_7, if_neg (by
      rw [Int32.lt_iff_toInt_lt, nI_u (by omega)]
      show ¬ (j : Int) < 0
      omega)]
    rw [ck_t (by decide)]
    simp only [xm_let]
    rw [ck_t (by decide)]
    show _ = some (mk_ j (mk_d l1 l2 j) (l2 / 3), a, b)
    rw [← e]
    unfold mk_d
    generalize l2 - l2 / 3 * 3 = v
    by_cases h0 : v ≤ 0
    · simp only [if_pos h0, Option.bind_some]
      by_cases h1 : v ≤ 1
      · simp only [if_pos h1, Option.bind_some]
      · simp only [if_neg h1, Option.bind_some]
    · simp only [if_neg h0, Option.bind_some]
      by_cases h1 : v ≤ 1
      · simp only [if_pos h1, Option.bind_some]
      · simp only [if_neg h1, Option.bind_some]
theorem ev_masksOf {m : Nat} (hm : 100 ≤ m) (t : Int32) (u : xm_Y) : fn_X3_masksOf m t u = some (mk_ 16 0 t, u) := by
  obtain ⟨a, b, e⟩ := ev_masks m u 16 m 0 t (by omega) (by omega)
  rw [fn_X3_masksOf, show (15 : Int32) = nI 16 + (-1 : Int32) from by decide, e]
  rfl
section XT_
variable {PL : xm_Y → Nat → Prop} {FL : xm_Y → xm_Y → Prop} {m : Nat}
theorem fn_i8 {f : Int32} (h0 : ¬ f < 0) (h1 : ¬ 7 < f) : 0 ≤ f.toInt ∧ f.toInt < 8 ∧ ¬ 8 ≤ f := by
  have a := nlt0 h0
  have b := Int32.le_iff_toInt_le.mp (Int32.not_lt.mp h1)
  have z : (7 : Int32).toInt = 7 := rfl
  rw [z] at b
  refine ⟨a, by omega, fun q => ?_⟩
  have := Int32.le_iff_toInt_le.mp q
  have z : (8 : Int32).toInt = 8 := rfl
  omega
theorem fn_n8 {f : Int32} (h1 : 7 < f) : 8 ≤ f := by
  have b := Int32.lt_iff_toInt_lt.mp h1
  have z : (7 : Int32).toInt = 7 := rfl
  rw [Int32.le_iff_toInt_le]
  have z8 : (8 : Int32).toInt = 8 := rfl
  omega
theorem nI_ne40 {q : Nat} (h : q < 40) : ¬ nI q = (40 : Int32) := fun e => by
  have := congrArg Int32.toInt e
  rw [nI_u (by omega)] at this
  have z : (40 : Int32).toInt = 40 := rfl
  omega
theorem nI_lt40 {q : Nat} (h : q < 40) : nI q < (40 : Int32) := by
  rw [Int32.lt_iff_toInt_lt, nI_u (by omega)]
  show (q : Int) < 40
  omega
theorem nI_sp (q : Nat) : nI q + 1 - 1 = nI q := by
  rw [Int32.sub_eq_add_neg, Int32.add_assoc]
  have : (1 : Int32) + -1 = 0 := by decide
  rw [this, Int32.add_zero]
theorem tf_call (pf : pf_ PL FL) (hm : 100 ≤ m) (f g t : Int32) : tf_ PL FL (fn_X11_call m f g t) (fn_X12_call m f g t) := by
  intro c d iv
  obtain ⟨n, nb, gc, h1, h2, h3, h4, h5, h6, h7, h8, h9, h10⟩ := id iv
  obtain ⟨q, q1, q2, q3, q4⟩ := id h9
  have none_ : fn_X11_call m f g t c = some (-1, c) → fn_X12_call m f g t d = some (-1, d) → ∃ (r : Int32) (c' d' : xm_Y), fn_X11_call m f g t c = some (r, c') ∧ md_ c c' ∧ fn_X12_call m f g t d = some (r, d') ∧ cl_ d d' ∧ iv_ PL FL c' d' := fun e1 e2 => ⟨-1, c, d, e1, md_.rf c, e2, cl_.rf d, iv⟩
  by_cases hf0 : f < 0
  · exact none_ (by rw [fn_X11_call, ev_X11_isFunction, if_pos hf0]; rfl) (by rw [fn_X12_call, if_pos hf0])
  · by_cases hf1 : 7 < f
    · exact none_ (by rw [fn_X11_call, ev_X11_isFunction, if_neg hf0, if_pos (fn_n8 hf1)]; rfl) (by rw [fn_X12_call, if_neg hf0, if_pos hf1])
    · obtain ⟨f1, f2, f3⟩ := fn_i8 hf0 hf1
      by_cases hg0 : g < 0
      · refine none_ ?_ (by rw [fn_X12_call, if_neg hf0, if_neg hf1, if_pos hg0])
        rw [fn_X11_call, ev_X11_isFunction, if_neg hf0, if_neg f3]
        simp only [Option.bind_some, ev_X11_isFunction, if_pos hg0]; rfl
      · by_cases hg1 : 7 < g
        · refine none_ ?_ (by rw [fn_X12_call, if_neg hf0, if_neg hf1, if_neg hg0, if_pos hg1])
          rw [fn_X11_call, ev_X11_isFunction, if_neg hf0, if_neg f3]
          simp only [Option.bind_some, ev_X11_isFunction, if_neg hg0, if_pos (fn_n8 hg1)]; rfl
        · obtain ⟨g1, g2, g3⟩ := fn_i8 hg0 hg1
          have start_ : fn_X11_call m f g t c = (if t < 0 then some ((-1 : Int32), c) else if t < 43046721 then (((if (c.1 146 1) < (40 : Int32) then ((fn_X3_add m f g t c).bind fun q10 => some (q10.1, q10.2)) else some ((-2 : Int32), c)) : Option (Int32 × xm_Y)).bind fun q7 => some (q7.1, q7.2)) else some ((-1 : Int32), c)) := by
            rw [fn_X11_call, ev_X11_isFunction, if_neg hf0, if_neg f3]
            simp only [Option.bind_some, ev_X11_isFunction, if_neg hg0, if_neg g3]
            rw [if_neg (by decide), if_neg (by decide)]
          by_cases ht0 : t < 0
          · exact none_ (by rw [start_, if_pos ht0]) (by rw [fn_X12_call, if_neg hf0, if_neg hf1, if_neg hg0, if_neg hg1, if_pos ht0])
          · by_cases ht1 : t < 43046721
            · by_cases hq : q < 40
              · have hin : xm_in (nI q) 40 := nI_xi hq (by omega)
                have hcl : (nI q).toNatClampNeg = q := nI_cl (by omega)
                have t1 := nlt0 ht0
                have t2 : t.toInt < 43046721 := Int32.lt_iff_toInt_lt.mp ht1
                refine ⟨nI q, w_I (w_J c 147 q ((((Int32.toInt64 (mk_ 16 0 t)) &&& 4294967295) ||| ((Int32.toInt64 f) <<< (Int32.toInt64 32 &&& 63))) ||| ((Int32.toInt64 g) <<< (Int32.toInt64 35 &&& 63)))) 146 1 (nI q + 1), w_I (w_I (w_I (w_I d 173 q f) 174 q g) 175 q t) 150 36 (nI q + 1), ?_, ((md_.rf c).wJ (by decide)).wI (by decide), ?_, ((((cl_.rf d).wI (by decide)).wI (by decide)).wI (by decide)).wI (by decide), n, nb, gc, h1, ?_, h3, h4, h5, h6, h7, ?_, ?_, h10⟩
                · rw [start_, if_neg ht0, if_pos ht1, q2, if_pos (nI_lt40 hq), fn_X3_add, q2, if_pos (nI_lt40 hq), ev_masksOf hm]
                  simp only [Option.bind_some, fn_X3_packed]
                  rw [ck_t hin, hcl]
                  simp only [xm_let]
                  show some ((c.1 146 1 + 1) - 1, w_I _ 146 1 (c.1 146 1 + 1)) = _
                  rw [q2, nI_sp]
                · rw [fn_X12_call, if_neg hf0, if_neg hf1, if_neg hg0, if_neg hg1, if_neg ht0, if_pos ht1, q3, if_neg (nI_ne40 hq), ck_t hin, hcl]
                  simp only [xm_let]
                  have e1 : (w_I d 173 q f).1 150 36 = nI q := q3
                  have e2 : (w_I (w_I d 173 q f) 174 q g).1 150 36 = nI q := q3
                  rw [e1, ck_t hin, hcl, e2, ck_t hin, hcl]
                  show some ((d.1 150 36 + 1) - 1, w_I _ 150 36 (d.1 150 36 + 1)) = _
                  rw [q3, nI_sp]
                · exact iv_2c (c := c) (d := d) (fun k hk => ((wI_lo (by decide) k hk).1.trans (wJ_lo (by decide) k hk).1)) rfl rfl rfl h1.2.2.2.1 h1.2.2.2.2.2.2 h2
                · exact iv_8c (c := c) (d := d) pf (fun k hk => ⟨(wI_lo (by decide) k hk).1.trans (wJ_lo (by decide) k hk).1, (wI_lo (by decide) k hk).2.trans (wJ_lo (by decide) k hk).2⟩) rfl rfl rfl rfl rfl rfl rfl rfl rfl rfl rfl rfl h8
                · refine ⟨q + 1, by omega, (nI_succ q).symm, (nI_succ q).symm, fun k hk => ?_⟩
                  show iv_call (if k = q then _ else c.2 147 k) (if k = q then f else d.1 173 k) (if k = q then g else d.1 174 k) (if k = q then t else d.1 175 k)
                  by_cases hkq : k = q
                  · simp only [if_pos hkq]
                    exact ⟨⟨f1, f2⟩, ⟨g1, g2⟩, ⟨t1, t2⟩, mk_ 16 0 t, fun m' u hm' => ev_masksOf hm' t u, rfl⟩
                  · simp only [if_neg hkq]
                    exact q4 k (by omega)
              · have hq40 : q = 40 := by omega
                subst hq40
                refine ⟨-2, c, d, ?_, md_.rf c, ?_, cl_.rf d, iv⟩
                · rw [start_, if_neg ht0, if_pos ht1, q2, if_neg (by decide)]; rfl
                · rw [fn_X12_call, if_neg hf0, if_neg hf1, if_neg hg0, if_neg hg1, if_neg ht0, if_pos ht1, q3, if_pos (by decide)]
            · exact none_ (by rw [start_, if_neg ht0, if_neg ht1]) (by rw [fn_X12_call, if_neg hf0, if_neg hf1, if_neg hg0, if_neg hg1, if_neg ht0, if_neg ht1])
theorem iv_open2 {c d : xm_Y} {n nb : Nat} {gc : Nat → Nat} (h : iw_ c d n nb gc) (h156 : ∀ e, e < 6 → d.1 156 e = 1) (h21 : d.1 150 21 = 0) : iv_ PL FL (op_c c n) d := by
  obtain ⟨n', nb', gc', g1, g2, g3, g4, g5, g6, g7, g8, g9, g10⟩ := iv_open (PL := PL) (FL := FL) h
  have hn : n' = n := by
    have e := g1.1.symm.trans (show (op_c c n).1 1 1 = nI n from h.1.1)
    have := congrArg Int32.toInt e
    rw [nI_u (by have := g1.2.2.2.1; omega), nI_u (by have := h.1.2.2.2.1; omega)] at this
    omega
  subst hn
  have e15 : ∀ k, k ≠ 156 → k ≠ 150 → (op_d d).1 k = d.1 k := fun k h1 h2 => op_d1f h1 h2
  have e156 : ∀ k, k < 6 → (op_d d).1 156 k = d.1 156 k := fun k hk => (op_d3 hk).trans (h156 k hk).symm
  refine ⟨n', nb', gc', g1, ?_, g3, ?_, ?_, g6, ?_, ⟨?_, g8.2⟩, ?_, g10⟩
  · exact g2
  · exact g4
  · intro k hk
    obtain ⟨p1, p2⟩ := g5 k hk
    rw [e156 k hk] at p1 p2
    exact ⟨p1, p2⟩
  · exact g7
  · exact Or.inl ⟨rfl, h21⟩
  · exact g9
end XT_
