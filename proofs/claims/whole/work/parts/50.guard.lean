/-- only bodies were written: what else stands -/
theorem iw_fr {c d c' d' : xm_Y} {n nb : Nat} {gc gc' : Nat → Nat} (hc : ∀ k, k < 3 ∨ 123 ≤ k → c'.1 k = c.1 k ∧ c'.2 k = c.2 k) (hd : ∀ k, k ≠ 151 → k ≠ 152 → k ≠ 153 → d'.1 k = d.1 k ∧ d'.2 k = d.2 k) (h2 : iv_2 c' d' n nb gc') (h : iw_ c d n nb gc) : iw_ c' d' n nb gc' := by
  obtain ⟨h1, -, h3, h4, h6, h7, h9, h10⟩ := h
  have d0 := hd 150 (by decide) (by decide) (by decide)
  refine ⟨?_, h2, ?_, ?_, ?_, ?_, ?_, ?_⟩
  · unfold iv_1; rw [(hc 1 (by omega)).1, d0.1]; exact h1
  · unfold iv_3; rw [(hc 123 (by omega)).2, (hd 154 (by decide) (by decide) (by decide)).2]; exact h3
  · unfold iv_4; rw [(hc 130 (by omega)).2, (hd 157 (by decide) (by decide) (by decide)).2, (hd 158 (by decide) (by decide) (by decide)).1]; exact h4
  · unfold iv_6; rw [(hc 124 (by omega)).1, d0.1]; exact h6
  · unfold iv_7; rw [(hc 139 (by omega)).1, (hc 142 (by omega)).1, (hc 143 (by omega)).1, d0.1, (hd 161 (by decide) (by decide) (by decide)).1, (hd 163 (by decide) (by decide) (by decide)).1]; exact h7
  · unfold iv_9; rw [(hc 146 (by omega)).1, (hc 147 (by omega)).2, d0.1, (hd 173 (by decide) (by decide) (by decide)).1, (hd 174 (by decide) (by decide) (by decide)).1, (hd 175 (by decide) (by decide) (by decide)).1]; exact h9
  · unfold iv_10; rw [(hc 146 (by omega)).1, d0.1]; exact h10
theorem row_c {w w' : Nat → Int32} {k0 k0' : Int32} {D D' : Nat → Int32} {A n : Nat} (hw : w' = w) (hk : k0' = k0) (hD : ∀ k, A ≤ k → k < A + 4 → D' k = D k) (h : iv_row w k0 D A n) : iv_row w' k0' D' A n := by
  subst hw hk
  obtain ⟨r1, r2, r3, r4⟩ := h
  refine ⟨fun k hk => ?_, ?_, r3, r4⟩
  · rw [hD _ (by omega) (by omega)]; exact r1 k hk
  · rw [hD _ (by omega) (by omega)]; exact r2
theorem cod_ {x : Int32} (h0 : ¬ x < 0) (h1 : ¬ 68921 ≤ x) : 0 ≤ x.toInt ∧ x.toInt < 68921 := by
  rw [Int32.lt_iff_toInt_lt] at h0
  rw [Int32.le_iff_toInt_le] at h1
  have z : (0 : Int32).toInt = 0 := rfl
  have z1 : (68921 : Int32).toInt = 68921 := rfl
  rw [z] at h0
  rw [z1] at h1
  omega
theorem con_ {x : Int32} (h0 : ¬ x < -1000) (h1 : ¬ 1000 < x) : -1000 ≤ x.toInt ∧ x.toInt ≤ 1000 := by
  rw [Int32.lt_iff_toInt_lt] at h0 h1
  have z : (-1000 : Int32).toInt = -1000 := rfl
  have z1 : (1000 : Int32).toInt = 1000 := rfl
  rw [z] at h0
  rw [z1] at h1
  omega
section XT_
variable {PL : xm_Y → Nat → Prop} {FL : xm_Y → xm_Y → Prop} {m : Nat}
theorem tf_rule (hm : 100 ≤ m) (x y w v : Int32) : tf_ PL FL (fn_X11_rule m x y w v) (fn_X12_rule m x y w v) := by
  intro c d iv
  obtain ⟨n, nb, gc, h1, h2, h3, h4, h5, h6, h7, h8, h9, h10⟩ := id iv
  obtain ⟨a1, a2, a3, a4, a5, a6, a7⟩ := id h1
  have no : ∀ (hc : fn_X11_rule m x y w v c = some (-1, c)) (hd : fn_X12_rule m x y w v d = some (-1, d)), ∃ (r : Int32) (c' d' : xm_Y), fn_X11_rule m x y w v c = some (r, c') ∧ md_ c c' ∧ fn_X12_rule m x y w v d = some (r, d') ∧ cl_ d d' ∧ iv_ PL FL c' d' := fun hc hd => ⟨-1, c, d, hc, md_.rf c, hd, cl_.rf d, iv⟩
  have ec : fn_X11_rule m x y w v c = ((fn_X7_has m x c).bind fun q1 => if q1.1 = 0 then some ((-1 : Int32), q1.2) else ((fn_X7_hasNumber m y q1.2).bind fun q3 => if q3.1 = 0 then some ((-1 : Int32), q3.2) else ((fn_X11_isCode m w q3.2).bind fun q5 => if q5.1 = 0 then some ((-1 : Int32), q5.2) else ((fn_X11_isConstant m v q5.2).bind fun q7 => if q7.1 = 0 then some ((-1 : Int32), q7.2) else xm_chk (xm_in x 5) (xm_chk (xm_in y 3) ((fn_X0_put m (21 + 24 * (Int32.toNatClampNeg x) + 2 * (Int32.toNatClampNeg y)) w (q7.2.1 1 1) v q7.2).bind fun q11 => ((fn_X11_openTheBox m q11.2).bind fun q12 => some ((0 : Int32), q12.2)))))))) := rfl
  have ed : fn_X12_rule m x y w v d = ((fn_X12_isBody m x d).bind fun q1 => if q1.1 = 0 then some ((-1 : Int32), q1.2) else if y < 0 then some ((-1 : Int32), q1.2) else if (q1.2.1 150 0) ≤ y then some ((-1 : Int32), q1.2) else ((fn_X12_areWeights m w v q1.2).bind fun q5 => if q5.1 = 0 then some ((-1 : Int32), q5.2) else ((fn_X12_lay m 153 60 ((((3 : Int32) * x) + y) * (4 : Int32)) w v q5.2).bind fun q7 => ((fn_X12_openAll m q7.2).bind fun q8 => some ((0 : Int32), q8.2))))) := rfl
  rw [ev_X7_has] at ec
  rw [ev_X12_isBody] at ed
  simp only [Option.bind_some] at ec ed
  rw [a5] at ec
  rw [a6] at ed
  by_cases x0 : x < 0
  · simp only [if_pos x0] at ec ed
    exact no ec ed
  by_cases x1 : nI nb ≤ x
  · simp only [if_neg x0, if_pos x1] at ec ed
    exact no ec ed
  have k01 : ¬ ((1 : Int32) = 0) := by decide
  simp only [if_neg x0, if_neg x1, if_neg k01] at ec ed
  rw [ev_X7_hasNumber] at ec
  simp only [Option.bind_some] at ec
  rw [a1] at ec
  rw [a2] at ed
  by_cases y0 : y < 0
  · simp only [if_pos y0] at ec ed
    exact no ec ed
  by_cases y1 : nI n ≤ y
  · simp only [if_neg y0, if_pos y1] at ec ed
    exact no ec ed
  simp only [if_neg y0, if_neg y1, if_neg k01] at ec ed
  rw [ev_X11_isCode] at ec
  rw [ev_X12_areWeights] at ed
  simp only [Option.bind_some] at ec ed
  by_cases w0 : w < 0
  · simp only [if_pos w0] at ec ed
    exact no ec ed
  by_cases w1 : 68921 ≤ w
  · simp only [if_neg w0, if_pos w1] at ec ed
    exact no ec ed
  simp only [if_neg w0, if_neg w1, if_neg k01] at ec ed
  rw [ev_X11_isConstant] at ec
  simp only [Option.bind_some] at ec
  by_cases v0 : v < -1000
  · simp only [if_pos v0] at ec ed
    exact no ec ed
  by_cases v1 : 1000 < v
  · simp only [if_neg v0, if_pos v1] at ec ed
    exact no ec ed
  simp only [if_neg v0, if_neg v1, if_neg k01] at ec ed
  obtain ⟨hb, eb, -, -⟩ := hb_in x0 x1 (by omega)
  obtain ⟨hi, ei, -, -⟩ := hb_in y0 y1 (by omega)
  generalize x.toNatClampNeg = b at hb eb ec
  generalize y.toNatClampNeg = i at hi ei ec
  subst eb ei
  have hA : ((3 : Int32) * nI b + nI i) * 4 = nI ((3 * b + i) * 4) := by
    rw [show (3 : Int32) = nI 3 from rfl, show (4 : Int32) = nI 4 from rfl, nI_mu, nI_ad, nI_mu]
  obtain ⟨k, rfl⟩ := Nat.exists_eq_add_of_le' (show 10 ≤ m by omega)
  rw [ck_t (nI_xi (by omega) (by omega)), ck_t (nI_xi (by omega) (by omega)), a1, ev_put k _ n a3 a4] at ec
  rw [hA, ev_lay k 153 60 _ n a3 a4 (by decide) (by omega) (by decide) _ _ _ a2] at ed
  simp only [Option.bind_some] at ec ed
  obtain ⟨cw0, cw1⟩ := cod_ w0 w1
  obtain ⟨cv0, cv1⟩ := con_ v0 v1
  have on1 := pu_on c (21 + 24 * b + 2 * i) n w v
  have on2 := la_on d 153 ((3 * b + i) * 4) n w v
  have rn := row_new (u := d) (c := c) (a := 21 + 24 * b + 2 * i) (W := 153) (A := (3 * b + i) * 4) a3 a4 cw0 cw1 cv0 cv1
  have ln : ∀ q, q < (3 * b + i) * 4 ∨ (3 * b + i) * 4 + 4 ≤ q → (la_ d 153 ((3 * b + i) * 4) n w v).1 153 q = d.1 153 q := fun q hq => la_ne hq
  generalize pu_ c (21 + 24 * b + 2 * i) n w v = c' at ec on1 rn
  generalize la_ d 153 ((3 * b + i) * 4) n w v = d' at ed on2 rn ln
  rw [ev_openTheBox (by omega) a3 a4 _ (by rw [(on1 1 (by omega)).1]; exact a1)] at ec
  rw [ev_X12_openAll' (by omega)] at ed
  refine ⟨0, _, _, ec, md_.tr (fun q hq => on1 q (by omega)) (op_md _ n), ed, cl_.tr (fun q hq => on2 q (by omega)) (op_cl _), iv_open (iw_fr (gc' := gc) (fun q hq => on1 q (by omega)) (fun q q1 q2 q3 => on2 q q3) ?_ ⟨h1, h2, h3, h4, h6, h7, h9, h10⟩)⟩
  · intro b' hb'
    obtain ⟨g1, g2, g3, g4, g5, g6⟩ := h2 b' hb'
    rw [(on1 (3 + 24 * b') (by omega)).1, (on2 151 (by decide)).1, (on2 152 (by decide)).1]
    refine ⟨g1, g2, g3, fun g hg => ?_, fun j hj => ?_, fun j hj hj3 => ?_⟩
    · rw [(on1 _ (by omega)).1, (on1 _ (by omega)).1]; exact g4 g hg
    · by_cases hbi : b' = b ∧ j = i
      · obtain ⟨rfl, rfl⟩ := hbi
        exact rn
      · exact row_c (by rw [(on1 _ (by omega)).1]) (by rw [(on1 _ (by omega)).1]) (fun q q1 q2 => ln q (by omega)) (g5 j hj)
    · rw [(on1 _ (by omega)).1, (on1 _ (by omega)).1]; exact g6 j hj hj3
theorem tf_guard (hm : 100 ≤ m) (x w v : Int32) : tf_ PL FL (fn_X11_guard m x w v) (fn_X12_guard m x w v) := by
  intro c d iv
  obtain ⟨n, nb, gc, h1, h2, h3, h4, h5, h6, h7, h8, h9, h10⟩ := id iv
  obtain ⟨a1, a2, a3, a4, a5, a6, a7⟩ := id h1
  have no : ∀ (r : Int32) (hc : fn_X11_guard m x w v c = some (r, c)) (hd : fn_X12_guard m x w v d = some (r, d)), ∃ (r : Int32) (c' d' : xm_Y), fn_X11_guard m x w v c = some (r, c') ∧ md_ c c' ∧ fn_X12_guard m x w v d = some (r, d') ∧ cl_ d d' ∧ iv_ PL FL c' d' := fun r hc hd => ⟨r, c, d, hc, md_.rf c, hd, cl_.rf d, iv⟩
  have ec : fn_X11_guard m x w v c = ((fn_X7_has m x c).bind fun q1 => if q1.1 = 0 then some ((-1 : Int32), q1.2) else ((fn_X11_isCode m w q1.2).bind fun q3 => if q3.1 = 0 then some ((-1 : Int32), q3.2) else ((fn_X11_isConstant m v q3.2).bind fun q5 => if q5.1 = 0 then some ((-1 : Int32), q5.2) else xm_chk (xm_in x 5) (if (q5.2.1 (3 + 24 * (Int32.toNatClampNeg x)) 4) < (6 : Int32) then ((fn_X1_addGuard m (Int32.toNatClampNeg x) w (q5.2.1 1 1) v q5.2).bind fun q9 => ((fn_X11_openTheBox m q9.2).bind fun q10 => some ((q10.2.1 (3 + 24 * (Int32.toNatClampNeg x)) 4), q10.2))) else some ((-2 : Int32), q5.2))))) := rfl
  have ed : fn_X12_guard m x w v d = ((fn_X12_isBody m x d).bind fun q1 => if q1.1 = 0 then some ((-1 : Int32), q1.2) else ((fn_X12_areWeights m w v q1.2).bind fun q3 => if q3.1 = 0 then some ((-1 : Int32), q3.2) else xm_chk (xm_in x 5) (if (q3.2.1 151 (Int32.toNatClampNeg x)) = (6 : Int32) then some ((-2 : Int32), q3.2) else xm_chk (xm_in x 5) ((fn_X12_lay m 152 120 ((((6 : Int32) * x) + (q3.2.1 151 (Int32.toNatClampNeg x))) * (4 : Int32)) w v q3.2).bind fun q6 => xm_chk (xm_in x 5) (xm_chk (xm_in x 5) ((fn_X12_openAll m (w_I q6.2 151 (Int32.toNatClampNeg x) ((q6.2.1 151 (Int32.toNatClampNeg x)) + (1 : Int32)))).bind fun q8 => xm_chk (xm_in x 5) (some ((q8.2.1 151 (Int32.toNatClampNeg x)), q8.2)))))))) := rfl
  rw [ev_X7_has] at ec
  rw [ev_X12_isBody] at ed
  simp only [Option.bind_some] at ec ed
  rw [a5] at ec
  rw [a6] at ed
  by_cases x0 : x < 0
  · simp only [if_pos x0] at ec ed
    exact no _ ec ed
  by_cases x1 : nI nb ≤ x
  · simp only [if_neg x0, if_pos x1] at ec ed
    exact no _ ec ed
  have k01 : ¬ ((1 : Int32) = 0) := by decide
  simp only [if_neg x0, if_neg x1, if_neg k01] at ec ed
  rw [ev_X11_isCode] at ec
  rw [ev_X12_areWeights] at ed
  simp only [Option.bind_some] at ec ed
  by_cases w0 : w < 0
  · simp only [if_pos w0] at ec ed
    exact no _ ec ed
  by_cases w1 : 68921 ≤ w
  · simp only [if_neg w0, if_pos w1] at ec ed
    exact no _ ec ed
  simp only [if_neg w0, if_neg w1, if_neg k01] at ec ed
  rw [ev_X11_isConstant] at ec
  simp only [Option.bind_some] at ec
  by_cases v0 : v < -1000
  · simp only [if_pos v0] at ec ed
    exact no _ ec ed
  by_cases v1 : 1000 < v
  · simp only [if_neg v0, if_pos v1] at ec ed
    exact no _ ec ed
  simp only [if_neg v0, if_neg v1, if_neg k01] at ec ed
  obtain ⟨hb, eb, -, -⟩ := hb_in x0 x1 (by omega)
  generalize x.toNatClampNeg = b at hb eb ec ed
  subst eb
  have xin : xm_in (nI b) 5 := nI_xi (by omega) (by omega)
  obtain ⟨g1, g2, g3, g4, g5, g6⟩ := h2 b hb
  simp only [ck_t xin] at ec ed
  rw [g1] at ec
  rw [g2] at ed
  by_cases g7 : gc b < 6
  · have lt6 : nI (gc b) < (6 : Int32) := by
      rw [Int32.lt_iff_toInt_lt, nI_u (by omega)]
      show (gc b : Int) < 6
      omega
    have ne6 : ¬ nI (gc b) = (6 : Int32) := fun q => by rw [q] at lt6; exact absurd lt6 (by decide)
    have nle : ¬ (6 : Int32) ≤ nI (gc b) := by
      rw [Int32.le_iff_toInt_le, nI_u (by omega)]
      show ¬ (6 : Int) ≤ (gc b : Int)
      omega
    have hA : ((6 : Int32) * nI b + nI (gc b)) * 4 = nI ((6 * b + gc b) * 4) := by
      rw [show (6 : Int32) = nI 6 from rfl, show (4 : Int32) = nI 4 from rfl, nI_mu, nI_ad, nI_mu]
    obtain ⟨k, rfl⟩ := Nat.exists_eq_add_of_le' (show 10 ≤ m by omega)
    rw [if_pos lt6, a1, fn_X1_addGuard, g1, if_neg nle, ck_t (nI_xi g7 (by omega)), nI_cl (by omega), ev_put k _ n a3 a4] at ec
    rw [if_neg ne6, hA, ev_lay k 152 120 _ n a3 a4 (by decide) (by omega) (by decide) _ _ _ a2] at ed
    simp only [Option.bind_some, xm_let] at ec ed
    obtain ⟨cw0, cw1⟩ := cod_ w0 w1
    obtain ⟨cv0, cv1⟩ := con_ v0 v1
    have on1 := pu_on c (9 + 24 * b + 2 * gc b) n w v
    have on2 := la_on d 152 ((6 * b + gc b) * 4) n w v
    have rn := row_new (u := d) (c := c) (a := 9 + 24 * b + 2 * gc b) (W := 152) (A := (6 * b + gc b) * 4) a3 a4 cw0 cw1 cv0 cv1
    have ln : ∀ q, q < (6 * b + gc b) * 4 ∨ (6 * b + gc b) * 4 + 4 ≤ q → (la_ d 152 ((6 * b + gc b) * 4) n w v).1 152 q = d.1 152 q := fun q hq => la_ne hq
    generalize pu_ c (9 + 24 * b + 2 * gc b) n w v = c' at ec on1 rn
    generalize la_ d 152 ((6 * b + gc b) * 4) n w v = d' at ed on2 rn ln
    have e1 : c'.1 (3 + 24 * b) 4 = nI (gc b) := by rw [(on1 _ (by omega)).1]; exact g1
    have e2 : d'.1 151 b = nI (gc b) := by rw [(on2 _ (by omega)).1]; exact g2
    rw [e1, ← nI_succ] at ec
    rw [e2, ← nI_succ] at ed
    rw [ev_openTheBox (by omega) a3 a4 _ (by rw [rI_ne (by omega), (on1 1 (by omega)).1]; exact a1)] at ec
    rw [ev_X12_openAll' (by omega)] at ed
    simp only [Option.bind_some] at ec ed
    rw [op_c1 (by omega) (by omega), rI_eq] at ec
    rw [op_d1 (by omega) (by omega), rI_eq] at ed
    have on3 : ∀ q, q ≠ 3 + 24 * b → (w_I c' (3 + 24 * b) 4 (nI (gc b + 1))).1 q = c'.1 q := fun q hq => rI_nc hq
    refine ⟨_, _, _, ec, md_.tr (md_.wI (fun q hq => on1 q (by omega)) (by omega)) (op_md _ n), ed, cl_.tr (cl_.wI (fun q hq => on2 q (by omega)) (by omega)) (op_cl _), iv_open (iw_fr (gc' := fun b' => if b' = b then gc b + 1 else gc b') (fun q hq => ⟨(on3 q (by omega)).trans (on1 q (by omega)).1, (on1 q (by omega)).2⟩) (fun q q1 q2 q3 => ⟨(rI_nc q1).trans (on2 q q2).1, (on2 q q2).2⟩) ?_ ⟨h1, h2, h3, h4, h6, h7, h9, h10⟩)⟩
    intro b' hb'
    have o152 : ∀ z : Int32, (w_I d' 151 b z).1 152 = d'.1 152 := fun z => rI_nc (by decide)
    have o153 : ∀ z : Int32, (w_I d' 151 b z).1 153 = d'.1 153 := fun z => rI_nc (by decide)
    rw [o152, o153, (on2 153 (by decide)).1]
    obtain ⟨g1', g2', g3', g4', g5', g6'⟩ := h2 b' hb'
    dsimp only
    by_cases hbb : b' = b
    · subst hbb
      rw [if_pos rfl, rI_eq, rI_eq]
      refine ⟨rfl, rfl, by omega, fun g hg => ?_, fun j hj => ?_, fun j hj hj3 => ?_⟩
      · rw [on3 _ (by omega), on3 _ (by omega)]
        by_cases hgg : g = gc b'
        · subst hgg
          exact rn
        · exact row_c (by rw [(on1 _ (by omega)).1]) (by rw [(on1 _ (by omega)).1]) (fun q q1 q2 => ln q (by omega)) (g4' g (by omega))
      · rw [on3 _ (by omega), on3 _ (by omega), (on1 _ (by omega)).1, (on1 _ (by omega)).1]; exact g5' j hj
      · rw [on3 _ (by omega), on3 _ (by omega), (on1 _ (by omega)).1, (on1 _ (by omega)).1]; exact g6' j hj hj3
    · rw [if_neg hbb, rI_ne (by omega), rI_ne (by omega), (on1 _ (by omega)).1, (on2 151 (by decide)).1]
      refine ⟨g1', g2', g3', fun g hg => ?_, fun j hj => ?_, fun j hj hj3 => ?_⟩
      · rw [on3 _ (by omega), on3 _ (by omega)]
        exact row_c (by rw [(on1 _ (by omega)).1]) (by rw [(on1 _ (by omega)).1]) (fun q q1 q2 => ln q (by omega)) (g4' g hg)
      · rw [on3 _ (by omega), on3 _ (by omega), (on1 _ (by omega)).1, (on1 _ (by omega)).1]; exact g5' j hj
      · rw [on3 _ (by omega), on3 _ (by omega), (on1 _ (by omega)).1, (on1 _ (by omega)).1]; exact g6' j hj hj3
  · have h6' : gc b = 6 := by omega
    rw [h6', if_neg (by decide)] at ec
    rw [h6', if_pos (by decide)] at ed
    exact no _ ec ed
end XT_
