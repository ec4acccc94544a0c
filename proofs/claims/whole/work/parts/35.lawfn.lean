theorem sw_28 {x : Int32} (h0 : ¬ x = (0 : Int32)) (h1 : ¬ x = (1 : Int32)) (h2 : ¬ x = (2 : Int32)) (h3 : ¬ x = (3 : Int32)) (h4 : ¬ x = (4 : Int32)) (h5 : ¬ x = (5 : Int32)) (h6 : ¬ x = (6 : Int32)) (h7 : ¬ x = (7 : Int32)) (h8 : ¬ x = (8 : Int32)) (h9 : ¬ x = (9 : Int32)) (h10 : ¬ x = (10 : Int32)) (h11 : ¬ x = (11 : Int32)) (h12 : ¬ x = (12 : Int32)) (h13 : ¬ x = (13 : Int32)) (h14 : ¬ x = (14 : Int32)) (h15 : ¬ x = (15 : Int32)) (h16 : ¬ x = (16 : Int32)) (h17 : ¬ x = (17 : Int32)) (h18 : ¬ x = (18 : Int32)) (h19 : ¬ x = (19 : Int32)) (h20 : ¬ x = (20 : Int32)) (h21 : ¬ x = (21 : Int32)) (h22 : ¬ x = (22 : Int32)) (h23 : ¬ x = (23 : Int32)) (h24 : ¬ x = (24 : Int32)) (h25 : ¬ x = (25 : Int32)) (h26 : ¬ x = (26 : Int32)) (h27 : ¬ x = (27 : Int32)) : x.toInt < 0 ∨ 27 < x.toInt := by
  have g0 : x.toInt ≠ 0 := fun q => h0 (Int32.toInt_inj.mp (by rw [q]; rfl))
  have g1 : x.toInt ≠ 1 := fun q => h1 (Int32.toInt_inj.mp (by rw [q]; rfl))
  have g2 : x.toInt ≠ 2 := fun q => h2 (Int32.toInt_inj.mp (by rw [q]; rfl))
  have g3 : x.toInt ≠ 3 := fun q => h3 (Int32.toInt_inj.mp (by rw [q]; rfl))
  have g4 : x.toInt ≠ 4 := fun q => h4 (Int32.toInt_inj.mp (by rw [q]; rfl))
  have g5 : x.toInt ≠ 5 := fun q => h5 (Int32.toInt_inj.mp (by rw [q]; rfl))
  have g6 : x.toInt ≠ 6 := fun q => h6 (Int32.toInt_inj.mp (by rw [q]; rfl))
  have g7 : x.toInt ≠ 7 := fun q => h7 (Int32.toInt_inj.mp (by rw [q]; rfl))
  have g8 : x.toInt ≠ 8 := fun q => h8 (Int32.toInt_inj.mp (by rw [q]; rfl))
  have g9 : x.toInt ≠ 9 := fun q => h9 (Int32.toInt_inj.mp (by rw [q]; rfl))
  have g10 : x.toInt ≠ 10 := fun q => h10 (Int32.toInt_inj.mp (by rw [q]; rfl))
  have g11 : x.toInt ≠ 11 := fun q => h11 (Int32.toInt_inj.mp (by rw [q]; rfl))
  have g12 : x.toInt ≠ 12 := fun q => h12 (Int32.toInt_inj.mp (by rw [q]; rfl))
  have g13 : x.toInt ≠ 13 := fun q => h13 (Int32.toInt_inj.mp (by rw [q]; rfl))
  have g14 : x.toInt ≠ 14 := fun q => h14 (Int32.toInt_inj.mp (by rw [q]; rfl))
  have g15 : x.toInt ≠ 15 := fun q => h15 (Int32.toInt_inj.mp (by rw [q]; rfl))
  have g16 : x.toInt ≠ 16 := fun q => h16 (Int32.toInt_inj.mp (by rw [q]; rfl))
  have g17 : x.toInt ≠ 17 := fun q => h17 (Int32.toInt_inj.mp (by rw [q]; rfl))
  have g18 : x.toInt ≠ 18 := fun q => h18 (Int32.toInt_inj.mp (by rw [q]; rfl))
  have g19 : x.toInt ≠ 19 := fun q => h19 (Int32.toInt_inj.mp (by rw [q]; rfl))
  have g20 : x.toInt ≠ 20 := fun q => h20 (Int32.toInt_inj.mp (by rw [q]; rfl))
  have g21 : x.toInt ≠ 21 := fun q => h21 (Int32.toInt_inj.mp (by rw [q]; rfl))
  have g22 : x.toInt ≠ 22 := fun q => h22 (Int32.toInt_inj.mp (by rw [q]; rfl))
  have g23 : x.toInt ≠ 23 := fun q => h23 (Int32.toInt_inj.mp (by rw [q]; rfl))
  have g24 : x.toInt ≠ 24 := fun q => h24 (Int32.toInt_inj.mp (by rw [q]; rfl))
  have g25 : x.toInt ≠ 25 := fun q => h25 (Int32.toInt_inj.mp (by rw [q]; rfl))
  have g26 : x.toInt ≠ 26 := fun q => h26 (Int32.toInt_inj.mp (by rw [q]; rfl))
  have g27 : x.toInt ≠ 27 := fun q => h27 (Int32.toInt_inj.mp (by rw [q]; rfl))
  omega
def lw_lp (m L : Nat) (xs : Nat → Int32) : Nat → Int32 → xm_Y → Option ((Int32 × xm_Y) ⊕ (Int32 × xm_Y))
  | 0, _, _ => none
  | n + 1, l3, u0 =>
  if (Int32.ofNat L - (5 : Int32)) < l3 then (
  some (.inr (l3, u0))) else (
  xm_chk (xm_in l3 L) (
  if (xs (Int32.toNatClampNeg l3) &&& (31 : Int32)) = (0 : Int32) then (
  xm_chk (xm_in (l3 + (1 : Int32)) L) (
  ((fn_X11_loop m (xs (Int32.toNatClampNeg (l3 + (1 : Int32)))) u0).bind fun q1 =>
  xm_chk (xm_in (l3 + (1 : Int32)) L) (
  ((fn_X12_loop m (xs (Int32.toNatClampNeg (l3 + (1 : Int32)))) q1.2).bind fun q2 =>
  if q1.1 = q2.1 then (
  xm_let (α := Int32) (l3 + (5 : Int32)) fun v4 =>
  lw_lp m L xs n v4 q2.2) else (
  some (.inl ((0 : Int32), q2.2)))))))) else (
  if (xs (Int32.toNatClampNeg l3) &&& (31 : Int32)) = (1 : Int32) then (
  ((fn_X11_body m u0).bind fun q5 =>
  ((fn_X12_body m q5.2).bind fun q6 =>
  if q5.1 = q6.1 then (
  xm_let (α := Int32) (l3 + (5 : Int32)) fun v8 =>
  lw_lp m L xs n v8 q6.2) else (
  some (.inl ((0 : Int32), q6.2)))))) else (
  if (xs (Int32.toNatClampNeg l3) &&& (31 : Int32)) = (2 : Int32) then (
  xm_chk (xm_in (l3 + (1 : Int32)) L) (
  xm_chk (xm_in (l3 + (2 : Int32)) L) (
  xm_chk (xm_in (l3 + (3 : Int32)) L) (
  ((fn_X11_guard m (xs (Int32.toNatClampNeg (l3 + (1 : Int32)))) (xs (Int32.toNatClampNeg (l3 + (2 : Int32)))) (xs (Int32.toNatClampNeg (l3 + (3 : Int32)))) u0).bind fun q9 =>
  xm_chk (xm_in (l3 + (1 : Int32)) L) (
  xm_chk (xm_in (l3 + (2 : Int32)) L) (
  xm_chk (xm_in (l3 + (3 : Int32)) L) (
  ((fn_X12_guard m (xs (Int32.toNatClampNeg (l3 + (1 : Int32)))) (xs (Int32.toNatClampNeg (l3 + (2 : Int32)))) (xs (Int32.toNatClampNeg (l3 + (3 : Int32)))) q9.2).bind fun q10 =>
  if q9.1 = q10.1 then (
  xm_let (α := Int32) (l3 + (5 : Int32)) fun v12 =>
  lw_lp m L xs n v12 q10.2) else (
  some (.inl ((0 : Int32), q10.2)))))))))))) else (
  if (xs (Int32.toNatClampNeg l3) &&& (31 : Int32)) = (3 : Int32) then (
  xm_chk (xm_in (l3 + (1 : Int32)) L) (
  xm_chk (xm_in (l3 + (2 : Int32)) L) (
  xm_chk (xm_in (l3 + (3 : Int32)) L) (
  xm_chk (xm_in (l3 + (4 : Int32)) L) (
  ((fn_X11_rule m (xs (Int32.toNatClampNeg (l3 + (1 : Int32)))) (xs (Int32.toNatClampNeg (l3 + (2 : Int32)))) (xs (Int32.toNatClampNeg (l3 + (3 : Int32)))) (xs (Int32.toNatClampNeg (l3 + (4 : Int32)))) u0).bind fun q13 =>
  xm_chk (xm_in (l3 + (1 : Int32)) L) (
  xm_chk (xm_in (l3 + (2 : Int32)) L) (
  xm_chk (xm_in (l3 + (3 : Int32)) L) (
  xm_chk (xm_in (l3 + (4 : Int32)) L) (
  ((fn_X12_rule m (xs (Int32.toNatClampNeg (l3 + (1 : Int32)))) (xs (Int32.toNatClampNeg (l3 + (2 : Int32)))) (xs (Int32.toNatClampNeg (l3 + (3 : Int32)))) (xs (Int32.toNatClampNeg (l3 + (4 : Int32)))) q13.2).bind fun q14 =>
  if q13.1 = q14.1 then (
  xm_let (α := Int32) (l3 + (5 : Int32)) fun v16 =>
  lw_lp m L xs n v16 q14.2) else (
  some (.inl ((0 : Int32), q14.2)))))))))))))) else (
  if (xs (Int32.toNatClampNeg l3) &&& (31 : Int32)) = (4 : Int32) then (
  xm_chk (xm_in (l3 + (1 : Int32)) L) (
  ((fn_X11_many m (xs (Int32.toNatClampNeg (l3 + (1 : Int32)))) u0).bind fun q17 =>
  xm_chk (xm_in (l3 + (1 : Int32)) L) (
  ((fn_X12_many m (xs (Int32.toNatClampNeg (l3 + (1 : Int32)))) q17.2).bind fun q18 =>
  if q17.1 = q18.1 then (
  xm_let (α := Int32) (l3 + (5 : Int32)) fun v20 =>
  lw_lp m L xs n v20 q18.2) else (
  some (.inl ((0 : Int32), q18.2)))))))) else (
  if (xs (Int32.toNatClampNeg l3) &&& (31 : Int32)) = (5 : Int32) then (
  xm_chk (xm_in (l3 + (1 : Int32)) L) (
  xm_chk (xm_in (l3 + (2 : Int32)) L) (
  ((fn_X11_set m (xs (Int32.toNatClampNeg (l3 + (1 : Int32)))) (xs (Int32.toNatClampNeg (l3 + (2 : Int32)))) u0).bind fun q21 =>
  xm_chk (xm_in (l3 + (1 : Int32)) L) (
  xm_chk (xm_in (l3 + (2 : Int32)) L) (
  ((fn_X12_set m (xs (Int32.toNatClampNeg (l3 + (1 : Int32)))) (xs (Int32.toNatClampNeg (l3 + (2 : Int32)))) q21.2).bind fun q22 =>
  if q21.1 = q22.1 then (
  xm_let (α := Int32) (l3 + (5 : Int32)) fun v24 =>
  lw_lp m L xs n v24 q22.2) else (
  some (.inl ((0 : Int32), q22.2)))))))))) else (
  if (xs (Int32.toNatClampNeg l3) &&& (31 : Int32)) = (6 : Int32) then (
  xm_chk (xm_in (l3 + (1 : Int32)) L) (
  ((fn_X11_at m (xs (Int32.toNatClampNeg (l3 + (1 : Int32)))) u0).bind fun q25 =>
  xm_chk (xm_in (l3 + (1 : Int32)) L) (
  ((fn_X12_at m (xs (Int32.toNatClampNeg (l3 + (1 : Int32)))) q25.2).bind fun q26 =>
  if q25.1 = q26.1 then (
  xm_let (α := Int32) (l3 + (5 : Int32)) fun v28 =>
  lw_lp m L xs n v28 q26.2) else (
  some (.inl ((0 : Int32), q26.2)))))))) else (
  if (xs (Int32.toNatClampNeg l3) &&& (31 : Int32)) = (7 : Int32) then (
  xm_chk (xm_in (l3 + (1 : Int32)) L) (
  ((fn_X11_run m (xs (Int32.toNatClampNeg (l3 + (1 : Int32)))) u0).bind fun q29 =>
  xm_chk (xm_in (l3 + (1 : Int32)) L) (
  ((fn_X12_run m (xs (Int32.toNatClampNeg (l3 + (1 : Int32)))) q29.2).bind fun q30 =>
  if q29.1 = q30.1 then (
  xm_let (α := Int32) (l3 + (5 : Int32)) fun v32 =>
  lw_lp m L xs n v32 q30.2) else (
  some (.inl ((0 : Int32), q30.2)))))))) else (
  if (xs (Int32.toNatClampNeg l3) &&& (31 : Int32)) = (8 : Int32) then (
  ((fn_X11_turn m u0).bind fun q33 =>
  ((fn_X12_turn m q33.2).bind fun q34 =>
  if q33.1 = q34.1 then (
  xm_let (α := Int32) (l3 + (5 : Int32)) fun v36 =>
  lw_lp m L xs n v36 q34.2) else (
  some (.inl ((0 : Int32), q34.2)))))) else (
  if (xs (Int32.toNatClampNeg l3) &&& (31 : Int32)) = (9 : Int32) then (
  xm_chk (xm_in (l3 + (1 : Int32)) L) (
  ((fn_X11_ring m (xs (Int32.toNatClampNeg (l3 + (1 : Int32)))) u0).bind fun q37 =>
  xm_chk (xm_in (l3 + (1 : Int32)) L) (
  ((fn_X12_ring m (xs (Int32.toNatClampNeg (l3 + (1 : Int32)))) q37.2).bind fun q38 =>
  if q37.1 = q38.1 then (
  xm_let (α := Int32) (l3 + (5 : Int32)) fun v40 =>
  lw_lp m L xs n v40 q38.2) else (
  some (.inl ((0 : Int32), q38.2)))))))) else (
  if (xs (Int32.toNatClampNeg l3) &&& (31 : Int32)) = (10 : Int32) then (
  ((fn_X11_ahead m u0).bind fun q41 =>
  ((fn_X12_ahead m q41.2).bind fun q42 =>
  if q41.1 = q42.1 then (
  xm_let (α := Int32) (l3 + (5 : Int32)) fun v44 =>
  lw_lp m L xs n v44 q42.2) else (
  some (.inl ((0 : Int32), q42.2)))))) else (
  if (xs (Int32.toNatClampNeg l3) &&& (31 : Int32)) = (11 : Int32) then (
  xm_chk (xm_in (l3 + (1 : Int32)) L) (
  xm_chk (xm_in (l3 + (2 : Int32)) L) (
  xm_chk (xm_in (l3 + (3 : Int32)) L) (
  ((fn_X11_ranks m (xs (Int32.toNatClampNeg (l3 + (1 : Int32)))) (xs (Int32.toNatClampNeg (l3 + (2 : Int32)))) (xs (Int32.toNatClampNeg (l3 + (3 : Int32)))) u0).bind fun q45 =>
  xm_chk (xm_in (l3 + (1 : Int32)) L) (
  xm_chk (xm_in (l3 + (2 : Int32)) L) (
  xm_chk (xm_in (l3 + (3 : Int32)) L) (
  ((fn_X12_ranks m (xs (Int32.toNatClampNeg (l3 + (1 : Int32)))) (xs (Int32.toNatClampNeg (l3 + (2 : Int32)))) (xs (Int32.toNatClampNeg (l3 + (3 : Int32)))) q45.2).bind fun q46 =>
  if q45.1 = q46.1 then (
  xm_let (α := Int32) (l3 + (5 : Int32)) fun v48 =>
  lw_lp m L xs n v48 q46.2) else (
  some (.inl ((0 : Int32), q46.2)))))))))))) else (
  if (xs (Int32.toNatClampNeg l3) &&& (31 : Int32)) = (12 : Int32) then (
  xm_chk (xm_in (l3 + (1 : Int32)) L) (
  xm_chk (xm_in (l3 + (2 : Int32)) L) (
  xm_chk (xm_in (l3 + (3 : Int32)) L) (
  xm_chk (xm_in (l3 + (4 : Int32)) L) (
  ((fn_X11_tells m (xs (Int32.toNatClampNeg (l3 + (1 : Int32)))) (xs (Int32.toNatClampNeg (l3 + (2 : Int32)))) (xs (Int32.toNatClampNeg (l3 + (3 : Int32)))) (xs (Int32.toNatClampNeg (l3 + (4 : Int32)))) u0).bind fun q49 =>
  xm_chk (xm_in (l3 + (1 : Int32)) L) (
  xm_chk (xm_in (l3 + (2 : Int32)) L) (
  xm_chk (xm_in (l3 + (3 : Int32)) L) (
  xm_chk (xm_in (l3 + (4 : Int32)) L) (
  ((fn_X12_tells m (xs (Int32.toNatClampNeg (l3 + (1 : Int32)))) (xs (Int32.toNatClampNeg (l3 + (2 : Int32)))) (xs (Int32.toNatClampNeg (l3 + (3 : Int32)))) (xs (Int32.toNatClampNeg (l3 + (4 : Int32)))) q49.2).bind fun q50 =>
  if q49.1 = q50.1 then (
  xm_let (α := Int32) (l3 + (5 : Int32)) fun v52 =>
  lw_lp m L xs n v52 q50.2) else (
  some (.inl ((0 : Int32), q50.2)))))))))))))) else (
  if (xs (Int32.toNatClampNeg l3) &&& (31 : Int32)) = (13 : Int32) then (
  xm_chk (xm_in (l3 + (1 : Int32)) L) (
  xm_chk (xm_in (l3 + (2 : Int32)) L) (
  xm_chk (xm_in (l3 + (3 : Int32)) L) (
  ((fn_X11_floor m (xs (Int32.toNatClampNeg (l3 + (1 : Int32)))) (xs (Int32.toNatClampNeg (l3 + (2 : Int32)))) (xs (Int32.toNatClampNeg (l3 + (3 : Int32)))) u0).bind fun q53 =>
  xm_chk (xm_in (l3 + (1 : Int32)) L) (
  xm_chk (xm_in (l3 + (2 : Int32)) L) (
  xm_chk (xm_in (l3 + (3 : Int32)) L) (
  ((fn_X12_floor m (xs (Int32.toNatClampNeg (l3 + (1 : Int32)))) (xs (Int32.toNatClampNeg (l3 + (2 : Int32)))) (xs (Int32.toNatClampNeg (l3 + (3 : Int32)))) q53.2).bind fun q54 =>
  if q53.1 = q54.1 then (
  xm_let (α := Int32) (l3 + (5 : Int32)) fun v56 =>
  lw_lp m L xs n v56 q54.2) else (
  some (.inl ((0 : Int32), q54.2)))))))))))) else (
  if (xs (Int32.toNatClampNeg l3) &&& (31 : Int32)) = (14 : Int32) then (
  xm_chk (xm_in (l3 + (1 : Int32)) L) (
  ((fn_X11_rank m (xs (Int32.toNatClampNeg (l3 + (1 : Int32)))) u0).bind fun q57 =>
  xm_chk (xm_in (l3 + (1 : Int32)) L) (
  ((fn_X12_rank m (xs (Int32.toNatClampNeg (l3 + (1 : Int32)))) q57.2).bind fun q58 =>
  if q57.1 = q58.1 then (
  xm_let (α := Int32) (l3 + (5 : Int32)) fun v60 =>
  lw_lp m L xs n v60 q58.2) else (
  some (.inl ((0 : Int32), q58.2)))))))) else (
  if (xs (Int32.toNatClampNeg l3) &&& (31 : Int32)) = (15 : Int32) then (
  xm_chk (xm_in (l3 + (1 : Int32)) L) (
  ((fn_X11_rows m (xs (Int32.toNatClampNeg (l3 + (1 : Int32)))) u0).bind fun q61 =>
  xm_chk (xm_in (l3 + (1 : Int32)) L) (
  ((fn_X12_rows m (xs (Int32.toNatClampNeg (l3 + (1 : Int32)))) q61.2).bind fun q62 =>
  if q61.1 = q62.1 then (
  xm_let (α := Int32) (l3 + (5 : Int32)) fun v64 =>
  lw_lp m L xs n v64 q62.2) else (
  some (.inl ((0 : Int32), q62.2)))))))) else (
  if (xs (Int32.toNatClampNeg l3) &&& (31 : Int32)) = (16 : Int32) then (
  xm_chk (xm_in (l3 + (1 : Int32)) L) (
  xm_chk (xm_in (l3 + (2 : Int32)) L) (
  ((fn_X11_found m (xs (Int32.toNatClampNeg (l3 + (1 : Int32)))) (xs (Int32.toNatClampNeg (l3 + (2 : Int32)))) u0).bind fun q65 =>
  xm_chk (xm_in (l3 + (1 : Int32)) L) (
  xm_chk (xm_in (l3 + (2 : Int32)) L) (
  ((fn_X12_found m (xs (Int32.toNatClampNeg (l3 + (1 : Int32)))) (xs (Int32.toNatClampNeg (l3 + (2 : Int32)))) q65.2).bind fun q66 =>
  if q65.1 = q66.1 then (
  xm_let (α := Int32) (l3 + (5 : Int32)) fun v68 =>
  lw_lp m L xs n v68 q66.2) else (
  some (.inl ((0 : Int32), q66.2)))))))))) else (
  if (xs (Int32.toNatClampNeg l3) &&& (31 : Int32)) = (17 : Int32) then (
  xm_chk (xm_in (l3 + (1 : Int32)) L) (
  ((fn_X11_by m (xs (Int32.toNatClampNeg (l3 + (1 : Int32)))) u0).bind fun q69 =>
  xm_chk (xm_in (l3 + (1 : Int32)) L) (
  ((fn_X12_by m (xs (Int32.toNatClampNeg (l3 + (1 : Int32)))) q69.2).bind fun q70 =>
  if q69.1 = q70.1 then (
  xm_let (α := Int32) (l3 + (5 : Int32)) fun v72 =>
  lw_lp m L xs n v72 q70.2) else (
  some (.inl ((0 : Int32), q70.2)))))))) else (
  if (xs (Int32.toNatClampNeg l3) &&& (31 : Int32)) = (18 : Int32) then (
  ((fn_X11_bound m u0).bind fun q73 =>
  ((fn_X12_bound m q73.2).bind fun q74 =>
  if q73.1 = q74.1 then (
  xm_let (α := Int32) (l3 + (5 : Int32)) fun v76 =>
  lw_lp m L xs n v76 q74.2) else (
  some (.inl ((0 : Int32), q74.2)))))) else (
  if (xs (Int32.toNatClampNeg l3) &&& (31 : Int32)) = (19 : Int32) then (
  xm_chk (xm_in (l3 + (1 : Int32)) L) (
  xm_chk (xm_in (l3 + (2 : Int32)) L) (
  xm_chk (xm_in (l3 + (3 : Int32)) L) (
  ((fn_X11_begin m (xs (Int32.toNatClampNeg (l3 + (1 : Int32)))) (xs (Int32.toNatClampNeg (l3 + (2 : Int32)))) (xs (Int32.toNatClampNeg (l3 + (3 : Int32)))) u0).bind fun q77 =>
  xm_chk (xm_in (l3 + (1 : Int32)) L) (
  xm_chk (xm_in (l3 + (2 : Int32)) L) (
  xm_chk (xm_in (l3 + (3 : Int32)) L) (
  ((fn_X12_begin m (xs (Int32.toNatClampNeg (l3 + (1 : Int32)))) (xs (Int32.toNatClampNeg (l3 + (2 : Int32)))) (xs (Int32.toNatClampNeg (l3 + (3 : Int32)))) q77.2).bind fun q78 =>
  if q77.1 = q78.1 then (
  xm_let (α := Int32) (l3 + (5 : Int32)) fun v80 =>
  lw_lp m L xs n v80 q78.2) else (
  some (.inl ((0 : Int32), q78.2)))))))))))) else (
  if (xs (Int32.toNatClampNeg l3) &&& (31 : Int32)) = (20 : Int32) then (
  xm_chk (xm_in (l3 + (1 : Int32)) L) (
  ((fn_X11_round m (xs (Int32.toNatClampNeg (l3 + (1 : Int32)))) u0).bind fun q81 =>
  xm_chk (xm_in (l3 + (1 : Int32)) L) (
  ((fn_X12_round m (xs (Int32.toNatClampNeg (l3 + (1 : Int32)))) q81.2).bind fun q82 =>
  if q81.1 = q82.1 then (
  xm_let (α := Int32) (l3 + (5 : Int32)) fun v84 =>
  lw_lp m L xs n v84 q82.2) else (
  some (.inl ((0 : Int32), q82.2)))))))) else (
  if (xs (Int32.toNatClampNeg l3) &&& (31 : Int32)) = (21 : Int32) then (
  xm_chk (xm_in (l3 + (1 : Int32)) L) (
  xm_chk (xm_in (l3 + (2 : Int32)) L) (
  ((fn_X11_box m (xs (Int32.toNatClampNeg (l3 + (1 : Int32)))) (xs (Int32.toNatClampNeg (l3 + (2 : Int32)))) u0).bind fun q85 =>
  xm_chk (xm_in (l3 + (1 : Int32)) L) (
  xm_chk (xm_in (l3 + (2 : Int32)) L) (
  ((fn_X12_box m (xs (Int32.toNatClampNeg (l3 + (1 : Int32)))) (xs (Int32.toNatClampNeg (l3 + (2 : Int32)))) q85.2).bind fun q86 =>
  if q85.1 = q86.1 then (
  xm_let (α := Int32) (l3 + (5 : Int32)) fun v88 =>
  lw_lp m L xs n v88 q86.2) else (
  some (.inl ((0 : Int32), q86.2)))))))))) else (
  if (xs (Int32.toNatClampNeg l3) &&& (31 : Int32)) = (22 : Int32) then (
  ((fn_X11_open m u0).bind fun q89 =>
  ((fn_X12_open m q89.2).bind fun q90 =>
  if q89.1 = q90.1 then (
  xm_let (α := Int32) (l3 + (5 : Int32)) fun v92 =>
  lw_lp m L xs n v92 q90.2) else (
  some (.inl ((0 : Int32), q90.2)))))) else (
  if (xs (Int32.toNatClampNeg l3) &&& (31 : Int32)) = (23 : Int32) then (
  xm_chk (xm_in (l3 + (1 : Int32)) L) (
  xm_chk (xm_in (l3 + (2 : Int32)) L) (
  xm_chk (xm_in (l3 + (3 : Int32)) L) (
  ((fn_X11_call m (xs (Int32.toNatClampNeg (l3 + (1 : Int32)))) (xs (Int32.toNatClampNeg (l3 + (2 : Int32)))) (xs (Int32.toNatClampNeg (l3 + (3 : Int32)))) u0).bind fun q93 =>
  xm_chk (xm_in (l3 + (1 : Int32)) L) (
  xm_chk (xm_in (l3 + (2 : Int32)) L) (
  xm_chk (xm_in (l3 + (3 : Int32)) L) (
  ((fn_X12_call m (xs (Int32.toNatClampNeg (l3 + (1 : Int32)))) (xs (Int32.toNatClampNeg (l3 + (2 : Int32)))) (xs (Int32.toNatClampNeg (l3 + (3 : Int32)))) q93.2).bind fun q94 =>
  if q93.1 = q94.1 then (
  xm_let (α := Int32) (l3 + (5 : Int32)) fun v96 =>
  lw_lp m L xs n v96 q94.2) else (
  some (.inl ((0 : Int32), q94.2)))))))))))) else (
  if (xs (Int32.toNatClampNeg l3) &&& (31 : Int32)) = (24 : Int32) then (
  ((fn_X11_clear m u0).bind fun q97 =>
  ((fn_X12_clear m q97.2).bind fun q98 =>
  if q97.1 = q98.1 then (
  xm_let (α := Int32) (l3 + (5 : Int32)) fun v100 =>
  lw_lp m L xs n v100 q98.2) else (
  some (.inl ((0 : Int32), q98.2)))))) else (
  if (xs (Int32.toNatClampNeg l3) &&& (31 : Int32)) = (25 : Int32) then (
  ((fn_X11_ending m u0).bind fun q101 =>
  ((fn_X12_ending m q101.2).bind fun q102 =>
  if q101.1 = q102.1 then (
  xm_let (α := Int32) (l3 + (5 : Int32)) fun v104 =>
  lw_lp m L xs n v104 q102.2) else (
  some (.inl ((0 : Int32), q102.2)))))) else (
  if (xs (Int32.toNatClampNeg l3) &&& (31 : Int32)) = (26 : Int32) then (
  ((fn_X11_made m u0).bind fun q105 =>
  ((fn_X12_made m q105.2).bind fun q106 =>
  if q105.1 = q106.1 then (
  xm_let (α := Int32) (l3 + (5 : Int32)) fun v108 =>
  lw_lp m L xs n v108 q106.2) else (
  some (.inl ((0 : Int32), q106.2)))))) else (
  if (xs (Int32.toNatClampNeg l3) &&& (31 : Int32)) = (27 : Int32) then (
  xm_chk (xm_in (l3 + (1 : Int32)) L) (
  ((fn_X11_witness m (xs (Int32.toNatClampNeg (l3 + (1 : Int32)))) u0).bind fun q109 =>
  xm_chk (xm_in (l3 + (1 : Int32)) L) (
  ((fn_X12_witness m (xs (Int32.toNatClampNeg (l3 + (1 : Int32)))) q109.2).bind fun q110 =>
  if q109.1 = q110.1 then (
  xm_let (α := Int32) (l3 + (5 : Int32)) fun v112 =>
  lw_lp m L xs n v112 q110.2) else (
  some (.inl ((0 : Int32), q110.2)))))))) else (
  xm_let (α := Int32) (l3 + (5 : Int32)) fun v113 =>
  lw_lp m L xs n v113 u0))))))))))))))))))))))))))))))
theorem lw_el (m L : Nat) (xs : Nat → Int32) (K : (Int32 × xm_Y) ⊕ (Int32 × xm_Y) → Option (Int32 × xm_Y)) (hK : ∀ r, K (.inl r) = some r) (kE : ∀ q : Int32 × xm_Y, xq_ L xs (fun x : Int32 => some (.int x)) sg_0 mt_L_law 924 [none, none, none, none] [] q.2 0 0 (K (.inr q))) : ∀ (n : Nat) (l3 : Int32) (u0 : xm_Y), xq_ L xs (fun x : Int32 => some (.int x)) sg_0 mt_L_law 18 [some (.float 0), some (.ref 0), some (.ref 150), some (.int l3)] [] u0 0 0 ((lw_lp m L xs n l3 u0).bind K) := by
  intro n
  induction n with
  | zero =>
    intro l3 u0
    exact xq_none
  | succ n ih =>
    intro l3 u0
    rw [lw_lp]
    refine xq_iload_n (n := 19) dL_law_18 rfl rfl ?_
    refine xq_sload_n (n := 20) dL_law_19 rfl rfl ?_
    refine xq_slen (n := 21) dL_law_20 rfl ?_
    refine xq_iconst (n := 22) (v := (5 : Int32)) dL_law_21 rfl rfl ?_
    refine xq_isub (n := 23) dL_law_22 rfl ?_
    refine xq_icmp_gt (n := 26) (tgt := 924) dL_law_23 rfl rfl (fun hg => ?_) (fun hg => ?_)
    · exact xq_gf (xq_end (kE (l3, u0))) trivial
    · refine xq_sload_n (n := 27) dL_law_26 rfl rfl ?_
      refine xq_iload_n (n := 28) dL_law_27 rfl rfl ?_
      refine xq_sld (n := 29) dL_law_28 rfl ?_
      refine xq_bipush (n := 31) (v := (31 : Int32)) dL_law_29 rfl rfl ?_
      refine xq_iand (n := 32) dL_law_31 rfl ?_
      refine xq_ite (fun hx0 => ?_) (fun hx0 => ?_)
      · refine xq_tsIn (c := (0 : Int32)) (off := 128) (tgt := 160) dL_law_32 hx0 (by decide) (by decide) rfl rfl ?_
        refine xq_aload_n (n := 161) dL_law_160 rfl rfl ?_
        refine xq_sload_n (n := 162) dL_law_161 rfl rfl ?_
        refine xq_iload_n (n := 163) dL_law_162 rfl rfl ?_
        refine xq_iconst (n := 164) (v := (1 : Int32)) dL_law_163 rfl rfl ?_
        refine xq_iadd (n := 165) dL_law_164 rfl ?_
        refine xq_sld (n := 166) dL_law_165 rfl ?_
        refine yq_callvi (n := 169) (N := mt_X11_loop) dL_law_166 rfl ok_X11_loop tw_315 im_X11_loop se_X11_loop ⟨Nat.le_of_ble_eq_true rfl, Nat.le_of_ble_eq_true rfl⟩ [.int (xs (Int32.toNatClampNeg (l3 + (1 : Int32))))] [] rfl rfl (Nat.le_of_ble_eq_true rfl) rfl (Nat.le_of_ble_eq_true rfl) (en_X11_loop m (xs (Int32.toNatClampNeg (l3 + (1 : Int32)))) u0) sh_0 (by decide) rfl (fun q1 => ?_)
        refine xq_aload_n (n := 170) dL_law_169 rfl rfl ?_
        refine xq_sload_n (n := 171) dL_law_170 rfl rfl ?_
        refine xq_iload_n (n := 172) dL_law_171 rfl rfl ?_
        refine xq_iconst (n := 173) (v := (1 : Int32)) dL_law_172 rfl rfl ?_
        refine xq_iadd (n := 174) dL_law_173 rfl ?_
        refine xq_sld (n := 175) dL_law_174 rfl ?_
        refine yq_callvi (n := 178) (N := mt_X12_loop) dL_law_175 rfl ok_X12_loop tw_1019 im_X12_loop se_X12_loop ⟨Nat.le_of_ble_eq_true rfl, Nat.le_of_ble_eq_true rfl⟩ [.int (xs (Int32.toNatClampNeg (l3 + (1 : Int32))))] [.int q1.1] rfl rfl (Nat.le_of_ble_eq_true rfl) rfl (Nat.le_of_ble_eq_true rfl) (en_X12_loop m (xs (Int32.toNatClampNeg (l3 + (1 : Int32)))) q1.2) sh_150 (by decide) rfl (fun q2 => ?_)
        refine xq_icmp_eq (n := 181) (tgt := 918) dL_law_178 rfl rfl (fun hc3 => ?_) (fun hc3 => ?_)
        · refine xq_iincl (n := 921) (dv := (5 : Int32)) (fun v4 => [some (.float 0), some (.ref 0), some (.ref 150), some (.int v4)]) dL_law_918 rfl rfl rfl (Nat.le_of_ble_eq_true rfl) (fun _ => rfl) (fun v4 => ?_)
          refine xq_goto (n := 18) dL_law_921 rfl ?_
          exact ih v4 q2.2
        · refine xq_iconst (n := 182) (v := (0 : Int32)) dL_law_181 rfl rfl ?_
          exact xq_zretc dL_law_182 rfl (Or.inl rfl) (hK _)
      refine xq_ite (fun hx1 => ?_) (fun hx1 => ?_)
      · refine xq_tsIn (c := (1 : Int32)) (off := 151) (tgt := 183) dL_law_32 hx1 (by decide) (by decide) rfl rfl ?_
        refine xq_aload_n (n := 184) dL_law_183 rfl rfl ?_
        refine yq_callvi (n := 187) (N := mt_X11_body) dL_law_184 rfl ok_X11_body tw_347 im_X11_body se_X11_body ⟨Nat.le_of_ble_eq_true rfl, Nat.le_of_ble_eq_true rfl⟩ [] [] rfl rfl (Nat.le_of_ble_eq_true rfl) rfl (Nat.le_of_ble_eq_true rfl) (en_X11_body m u0) sh_0 (by decide) rfl (fun q5 => ?_)
        refine xq_aload_n (n := 188) dL_law_187 rfl rfl ?_
        refine yq_callvi (n := 191) (N := mt_X12_body) dL_law_188 rfl ok_X12_body tw_1023 im_X12_body se_X12_body ⟨Nat.le_of_ble_eq_true rfl, Nat.le_of_ble_eq_true rfl⟩ [] [.int q5.1] rfl rfl (Nat.le_of_ble_eq_true rfl) rfl (Nat.le_of_ble_eq_true rfl) (en_X12_body m q5.2) sh_150 (by decide) rfl (fun q6 => ?_)
        refine xq_icmp_eq (n := 194) (tgt := 918) dL_law_191 rfl rfl (fun hc7 => ?_) (fun hc7 => ?_)
        · refine xq_iincl (n := 921) (dv := (5 : Int32)) (fun v8 => [some (.float 0), some (.ref 0), some (.ref 150), some (.int v8)]) dL_law_918 rfl rfl rfl (Nat.le_of_ble_eq_true rfl) (fun _ => rfl) (fun v8 => ?_)
          refine xq_goto (n := 18) dL_law_921 rfl ?_
          exact ih v8 q6.2
        · refine xq_iconst (n := 195) (v := (0 : Int32)) dL_law_194 rfl rfl ?_
          exact xq_zretc dL_law_195 rfl (Or.inl rfl) (hK _)
      refine xq_ite (fun hx2 => ?_) (fun hx2 => ?_)
      · refine xq_tsIn (c := (2 : Int32)) (off := 164) (tgt := 196) dL_law_32 hx2 (by decide) (by decide) rfl rfl ?_
        refine xq_aload_n (n := 197) dL_law_196 rfl rfl ?_
        refine xq_sload_n (n := 198) dL_law_197 rfl rfl ?_
        refine xq_iload_n (n := 199) dL_law_198 rfl rfl ?_
        refine xq_iconst (n := 200) (v := (1 : Int32)) dL_law_199 rfl rfl ?_
        refine xq_iadd (n := 201) dL_law_200 rfl ?_
        refine xq_sld (n := 202) dL_law_201 rfl ?_
        refine xq_sload_n (n := 203) dL_law_202 rfl rfl ?_
        refine xq_iload_n (n := 204) dL_law_203 rfl rfl ?_
        refine xq_iconst (n := 205) (v := (2 : Int32)) dL_law_204 rfl rfl ?_
        refine xq_iadd (n := 206) dL_law_205 rfl ?_
        refine xq_sld (n := 207) dL_law_206 rfl ?_
        refine xq_sload_n (n := 208) dL_law_207 rfl rfl ?_
        refine xq_iload_n (n := 209) dL_law_208 rfl rfl ?_
        refine xq_iconst (n := 210) (v := (3 : Int32)) dL_law_209 rfl rfl ?_
        refine xq_iadd (n := 211) dL_law_210 rfl ?_
        refine xq_sld (n := 212) dL_law_211 rfl ?_
        refine yq_callvi (n := 215) (N := mt_X11_guard) dL_law_212 rfl ok_X11_guard tw_363 im_X11_guard se_X11_guard ⟨Nat.le_of_ble_eq_true rfl, Nat.le_of_ble_eq_true rfl⟩ [.int (xs (Int32.toNatClampNeg (l3 + (1 : Int32)))), .int (xs (Int32.toNatClampNeg (l3 + (2 : Int32)))), .int (xs (Int32.toNatClampNeg (l3 + (3 : Int32))))] [] rfl rfl (Nat.le_of_ble_eq_true rfl) rfl (Nat.le_of_ble_eq_true rfl) (en_X11_guard m (xs (Int32.toNatClampNeg (l3 + (1 : Int32)))) (xs (Int32.toNatClampNeg (l3 + (2 : Int32)))) (xs (Int32.toNatClampNeg (l3 + (3 : Int32)))) u0) sh_0 (by decide) rfl (fun q9 => ?_)
        refine xq_aload_n (n := 216) dL_law_215 rfl rfl ?_
        refine xq_sload_n (n := 217) dL_law_216 rfl rfl ?_
        refine xq_iload_n (n := 218) dL_law_217 rfl rfl ?_
        refine xq_iconst (n := 219) (v := (1 : Int32)) dL_law_218 rfl rfl ?_
        refine xq_iadd (n := 220) dL_law_219 rfl ?_
        refine xq_sld (n := 221) dL_law_220 rfl ?_
        refine xq_sload_n (n := 222) dL_law_221 rfl rfl ?_
        refine xq_iload_n (n := 223) dL_law_222 rfl rfl ?_
        refine xq_iconst (n := 224) (v := (2 : Int32)) dL_law_223 rfl rfl ?_
        refine xq_iadd (n := 225) dL_law_224 rfl ?_
        refine xq_sld (n := 226) dL_law_225 rfl ?_
        refine xq_sload_n (n := 227) dL_law_226 rfl rfl ?_
        refine xq_iload_n (n := 228) dL_law_227 rfl rfl ?_
        refine xq_iconst (n := 229) (v := (3 : Int32)) dL_law_228 rfl rfl ?_
        refine xq_iadd (n := 230) dL_law_229 rfl ?_
        refine xq_sld (n := 231) dL_law_230 rfl ?_
        refine yq_callvi (n := 234) (N := mt_X12_guard) dL_law_231 rfl ok_X12_guard tw_1027 im_X12_guard se_X12_guard ⟨Nat.le_of_ble_eq_true rfl, Nat.le_of_ble_eq_true rfl⟩ [.int (xs (Int32.toNatClampNeg (l3 + (1 : Int32)))), .int (xs (Int32.toNatClampNeg (l3 + (2 : Int32)))), .int (xs (Int32.toNatClampNeg (l3 + (3 : Int32))))] [.int q9.1] rfl rfl (Nat.le_of_ble_eq_true rfl) rfl (Nat.le_of_ble_eq_true rfl) (en_X12_guard m (xs (Int32.toNatClampNeg (l3 + (1 : Int32)))) (xs (Int32.toNatClampNeg (l3 + (2 : Int32)))) (xs (Int32.toNatClampNeg (l3 + (3 : Int32)))) q9.2) sh_150 (by decide) rfl (fun q10 => ?_)
        refine xq_icmp_eq (n := 237) (tgt := 918) dL_law_234 rfl rfl (fun hc11 => ?_) (fun hc11 => ?_)
        · refine xq_iincl (n := 921) (dv := (5 : Int32)) (fun v12 => [some (.float 0), some (.ref 0), some (.ref 150), some (.int v12)]) dL_law_918 rfl rfl rfl (Nat.le_of_ble_eq_true rfl) (fun _ => rfl) (fun v12 => ?_)
          refine xq_goto (n := 18) dL_law_921 rfl ?_
          exact ih v12 q10.2
        · refine xq_iconst (n := 238) (v := (0 : Int32)) dL_law_237 rfl rfl ?_
          exact xq_zretc dL_law_238 rfl (Or.inl rfl) (hK _)
      refine xq_ite (fun hx3 => ?_) (fun hx3 => ?_)
      · refine xq_tsIn (c := (3 : Int32)) (off := 207) (tgt := 239) dL_law_32 hx3 (by decide) (by decide) rfl rfl ?_
        refine xq_aload_n (n := 240) dL_law_239 rfl rfl ?_
        refine xq_sload_n (n := 241) dL_law_240 rfl rfl ?_
        refine xq_iload_n (n := 242) dL_law_241 rfl rfl ?_
        refine xq_iconst (n := 243) (v := (1 : Int32)) dL_law_242 rfl rfl ?_
        refine xq_iadd (n := 244) dL_law_243 rfl ?_
        refine xq_sld (n := 245) dL_law_244 rfl ?_
        refine xq_sload_n (n := 246) dL_law_245 rfl rfl ?_
        refine xq_iload_n (n := 247) dL_law_246 rfl rfl ?_
        refine xq_iconst (n := 248) (v := (2 : Int32)) dL_law_247 rfl rfl ?_
        refine xq_iadd (n := 249) dL_law_248 rfl ?_
        refine xq_sld (n := 250) dL_law_249 rfl ?_
        refine xq_sload_n (n := 251) dL_law_250 rfl rfl ?_
        refine xq_iload_n (n := 252) dL_law_251 rfl rfl ?_
        refine xq_iconst (n := 253) (v := (3 : Int32)) dL_law_252 rfl rfl ?_
        refine xq_iadd (n := 254) dL_law_253 rfl ?_
        refine xq_sld (n := 255) dL_law_254 rfl ?_
        refine xq_sload_n (n := 256) dL_law_255 rfl rfl ?_
        refine xq_iload_n (n := 257) dL_law_256 rfl rfl ?_
        refine xq_iconst (n := 258) (v := (4 : Int32)) dL_law_257 rfl rfl ?_
        refine xq_iadd (n := 259) dL_law_258 rfl ?_
        refine xq_sld (n := 260) dL_law_259 rfl ?_
        refine yq_callvi (n := 263) (N := mt_X11_rule) dL_law_260 rfl ok_X11_rule tw_386 im_X11_rule se_X11_rule ⟨Nat.le_of_ble_eq_true rfl, Nat.le_of_ble_eq_true rfl⟩ [.int (xs (Int32.toNatClampNeg (l3 + (1 : Int32)))), .int (xs (Int32.toNatClampNeg (l3 + (2 : Int32)))), .int (xs (Int32.toNatClampNeg (l3 + (3 : Int32)))), .int (xs (Int32.toNatClampNeg (l3 + (4 : Int32))))] [] rfl rfl (Nat.le_of_ble_eq_true rfl) rfl (Nat.le_of_ble_eq_true rfl) (en_X11_rule m (xs (Int32.toNatClampNeg (l3 + (1 : Int32)))) (xs (Int32.toNatClampNeg (l3 + (2 : Int32)))) (xs (Int32.toNatClampNeg (l3 + (3 : Int32)))) (xs (Int32.toNatClampNeg (l3 + (4 : Int32)))) u0) sh_0 (by decide) rfl (fun q13 => ?_)
        refine xq_aload_n (n := 264) dL_law_263 rfl rfl ?_
        refine xq_sload_n (n := 265) dL_law_264 rfl rfl ?_
        refine xq_iload_n (n := 266) dL_law_265 rfl rfl ?_
        refine xq_iconst (n := 267) (v := (1 : Int32)) dL_law_266 rfl rfl ?_
        refine xq_iadd (n := 268) dL_law_267 rfl ?_
        refine xq_sld (n := 269) dL_law_268 rfl ?_
        refine xq_sload_n (n := 270) dL_law_269 rfl rfl ?_
        refine xq_iload_n (n := 271) dL_law_270 rfl rfl ?_
        refine xq_iconst (n := 272) (v := (2 : Int32)) dL_law_271 rfl rfl ?_
        refine xq_iadd (n := 273) dL_law_272 rfl ?_
        refine xq_sld (n := 274) dL_law_273 rfl ?_
        refine xq_sload_n (n := 275) dL_law_274 rfl rfl ?_
        refine xq_iload_n (n := 276) dL_law_275 rfl rfl ?_
        refine xq_iconst (n := 277) (v := (3 : Int32)) dL_law_276 rfl rfl ?_
        refine xq_iadd (n := 278) dL_law_277 rfl ?_
        refine xq_sld (n := 279) dL_law_278 rfl ?_
        refine xq_sload_n (n := 280) dL_law_279 rfl rfl ?_
        refine xq_iload_n (n := 281) dL_law_280 rfl rfl ?_
        refine xq_iconst (n := 282) (v := (4 : Int32)) dL_law_281 rfl rfl ?_
        refine xq_iadd (n := 283) dL_law_282 rfl ?_
        refine xq_sld (n := 284) dL_law_283 rfl ?_
        refine yq_callvi (n := 287) (N := mt_X12_rule) dL_law_284 rfl ok_X12_rule tw_1043 im_X12_rule se_X12_rule ⟨Nat.le_of_ble_eq_true rfl, Nat.le_of_ble_eq_true rfl⟩ [.int (xs (Int32.toNatClampNeg (l3 + (1 : Int32)))), .int (xs (Int32.toNatClampNeg (l3 + (2 : Int32)))), .int (xs (Int32.toNatClampNeg (l3 + (3 : Int32)))), .int (xs (Int32.toNatClampNeg (l3 + (4 : Int32))))] [.int q13.1] rfl rfl (Nat.le_of_ble_eq_true rfl) rfl (Nat.le_of_ble_eq_true rfl) (en_X12_rule m (xs (Int32.toNatClampNeg (l3 + (1 : Int32)))) (xs (Int32.toNatClampNeg (l3 + (2 : Int32)))) (xs (Int32.toNatClampNeg (l3 + (3 : Int32)))) (xs (Int32.toNatClampNeg (l3 + (4 : Int32)))) q13.2) sh_150 (by decide) rfl (fun q14 => ?_)
        refine xq_icmp_eq (n := 290) (tgt := 918) dL_law_287 rfl rfl (fun hc15 => ?_) (fun hc15 => ?_)
        · refine xq_iincl (n := 921) (dv := (5 : Int32)) (fun v16 => [some (.float 0), some (.ref 0), some (.ref 150), some (.int v16)]) dL_law_918 rfl rfl rfl (Nat.le_of_ble_eq_true rfl) (fun _ => rfl) (fun v16 => ?_)
          refine xq_goto (n := 18) dL_law_921 rfl ?_
          exact ih v16 q14.2
        · refine xq_iconst (n := 291) (v := (0 : Int32)) dL_law_290 rfl rfl ?_
          exact xq_zretc dL_law_291 rfl (Or.inl rfl) (hK _)
      refine xq_ite (fun hx4 => ?_) (fun hx4 => ?_)
      · refine xq_tsIn (c := (4 : Int32)) (off := 260) (tgt := 292) dL_law_32 hx4 (by decide) (by decide) rfl rfl ?_
        refine xq_aload_n (n := 293) dL_law_292 rfl rfl ?_
        refine xq_sload_n (n := 294) dL_law_293 rfl rfl ?_
        refine xq_iload_n (n := 295) dL_law_294 rfl rfl ?_
        refine xq_iconst (n := 296) (v := (1 : Int32)) dL_law_295 rfl rfl ?_
        refine xq_iadd (n := 297) dL_law_296 rfl ?_
        refine xq_sld (n := 298) dL_law_297 rfl ?_
        refine yq_callvi (n := 301) (N := mt_X11_many) dL_law_298 rfl ok_X11_many tw_395 im_X11_many se_X11_many ⟨Nat.le_of_ble_eq_true rfl, Nat.le_of_ble_eq_true rfl⟩ [.int (xs (Int32.toNatClampNeg (l3 + (1 : Int32))))] [] rfl rfl (Nat.le_of_ble_eq_true rfl) rfl (Nat.le_of_ble_eq_true rfl) (en_X11_many m (xs (Int32.toNatClampNeg (l3 + (1 : Int32)))) u0) sh_0 (by decide) rfl (fun q17 => ?_)
        refine xq_aload_n (n := 302) dL_law_301 rfl rfl ?_
        refine xq_sload_n (n := 303) dL_law_302 rfl rfl ?_
        refine xq_iload_n (n := 304) dL_law_303 rfl rfl ?_
        refine xq_iconst (n := 305) (v := (1 : Int32)) dL_law_304 rfl rfl ?_
        refine xq_iadd (n := 306) dL_law_305 rfl ?_
        refine xq_sld (n := 307) dL_law_306 rfl ?_
        refine yq_callvi (n := 310) (N := mt_X12_many) dL_law_307 rfl ok_X12_many tw_1047 im_X12_many se_X12_many ⟨Nat.le_of_ble_eq_true rfl, Nat.le_of_ble_eq_true rfl⟩ [.int (xs (Int32.toNatClampNeg (l3 + (1 : Int32))))] [.int q17.1] rfl rfl (Nat.le_of_ble_eq_true rfl) rfl (Nat.le_of_ble_eq_true rfl) (en_X12_many m (xs (Int32.toNatClampNeg (l3 + (1 : Int32)))) q17.2) sh_150 (by decide) rfl (fun q18 => ?_)
        refine xq_icmp_eq (n := 313) (tgt := 918) dL_law_310 rfl rfl (fun hc19 => ?_) (fun hc19 => ?_)
        · refine xq_iincl (n := 921) (dv := (5 : Int32)) (fun v20 => [some (.float 0), some (.ref 0), some (.ref 150), some (.int v20)]) dL_law_918 rfl rfl rfl (Nat.le_of_ble_eq_true rfl) (fun _ => rfl) (fun v20 => ?_)
          refine xq_goto (n := 18) dL_law_921 rfl ?_
          exact ih v20 q18.2
        · refine xq_iconst (n := 314) (v := (0 : Int32)) dL_law_313 rfl rfl ?_
          exact xq_zretc dL_law_314 rfl (Or.inl rfl) (hK _)
      refine xq_ite (fun hx5 => ?_) (fun hx5 => ?_)
      · refine xq_tsIn (c := (5 : Int32)) (off := 283) (tgt := 315) dL_law_32 hx5 (by decide) (by decide) rfl rfl ?_
        refine xq_aload_n (n := 316) dL_law_315 rfl rfl ?_
        refine xq_sload_n (n := 317) dL_law_316 rfl rfl ?_
        refine xq_iload_n (n := 318) dL_law_317 rfl rfl ?_
        refine xq_iconst (n := 319) (v := (1 : Int32)) dL_law_318 rfl rfl ?_
        refine xq_iadd (n := 320) dL_law_319 rfl ?_
        refine xq_sld (n := 321) dL_law_320 rfl ?_
        refine xq_sload_n (n := 322) dL_law_321 rfl rfl ?_
        refine xq_iload_n (n := 323) dL_law_322 rfl rfl ?_
        refine xq_iconst (n := 324) (v := (2 : Int32)) dL_law_323 rfl rfl ?_
        refine xq_iadd (n := 325) dL_law_324 rfl ?_
        refine xq_sld (n := 326) dL_law_325 rfl ?_
        refine yq_callvi (n := 329) (N := mt_X11_set) dL_law_326 rfl ok_X11_set tw_399 im_X11_set se_X11_set ⟨Nat.le_of_ble_eq_true rfl, Nat.le_of_ble_eq_true rfl⟩ [.int (xs (Int32.toNatClampNeg (l3 + (1 : Int32)))), .int (xs (Int32.toNatClampNeg (l3 + (2 : Int32))))] [] rfl rfl (Nat.le_of_ble_eq_true rfl) rfl (Nat.le_of_ble_eq_true rfl) (en_X11_set m (xs (Int32.toNatClampNeg (l3 + (1 : Int32)))) (xs (Int32.toNatClampNeg (l3 + (2 : Int32)))) u0) sh_0 (by decide) rfl (fun q21 => ?_)
        refine xq_aload_n (n := 330) dL_law_329 rfl rfl ?_
        refine xq_sload_n (n := 331) dL_law_330 rfl rfl ?_
        refine xq_iload_n (n := 332) dL_law_331 rfl rfl ?_
        refine xq_iconst (n := 333) (v := (1 : Int32)) dL_law_332 rfl rfl ?_
        refine xq_iadd (n := 334) dL_law_333 rfl ?_
        refine xq_sld (n := 335) dL_law_334 rfl ?_
        refine xq_sload_n (n := 336) dL_law_335 rfl rfl ?_
        refine xq_iload_n (n := 337) dL_law_336 rfl rfl ?_
        refine xq_iconst (n := 338) (v := (2 : Int32)) dL_law_337 rfl rfl ?_
        refine xq_iadd (n := 339) dL_law_338 rfl ?_
        refine xq_sld (n := 340) dL_law_339 rfl ?_
        refine yq_callvi (n := 343) (N := mt_X12_set) dL_law_340 rfl ok_X12_set tw_1051 im_X12_set se_X12_set ⟨Nat.le_of_ble_eq_true rfl, Nat.le_of_ble_eq_true rfl⟩ [.int (xs (Int32.toNatClampNeg (l3 + (1 : Int32)))), .int (xs (Int32.toNatClampNeg (l3 + (2 : Int32))))] [.int q21.1] rfl rfl (Nat.le_of_ble_eq_true rfl) rfl (Nat.le_of_ble_eq_true rfl) (en_X12_set m (xs (Int32.toNatClampNeg (l3 + (1 : Int32)))) (xs (Int32.toNatClampNeg (l3 + (2 : Int32)))) q21.2) sh_150 (by decide) rfl (fun q22 => ?_)
        refine xq_icmp_eq (n := 346) (tgt := 918) dL_law_343 rfl rfl (fun hc23 => ?_) (fun hc23 => ?_)
        · refine xq_iincl (n := 921) (dv := (5 : Int32)) (fun v24 => [some (.float 0), some (.ref 0), some (.ref 150), some (.int v24)]) dL_law_918 rfl rfl rfl (Nat.le_of_ble_eq_true rfl) (fun _ => rfl) (fun v24 => ?_)
          refine xq_goto (n := 18) dL_law_921 rfl ?_
          exact ih v24 q22.2
        · refine xq_iconst (n := 347) (v := (0 : Int32)) dL_law_346 rfl rfl ?_
          exact xq_zretc dL_law_347 rfl (Or.inl rfl) (hK _)
      refine xq_ite (fun hx6 => ?_) (fun hx6 => ?_)
      · refine xq_tsIn (c := (6 : Int32)) (off := 316) (tgt := 348) dL_law_32 hx6 (by decide) (by decide) rfl rfl ?_
        refine xq_aload_n (n := 349) dL_law_348 rfl rfl ?_
        refine xq_sload_n (n := 350) dL_law_349 rfl rfl ?_
        refine xq_iload_n (n := 351) dL_law_350 rfl rfl ?_
        refine xq_iconst (n := 352) (v := (1 : Int32)) dL_law_351 rfl rfl ?_
        refine xq_iadd (n := 353) dL_law_352 rfl ?_
        refine xq_sld (n := 354) dL_law_353 rfl ?_
        refine yq_callvl (n := 357) (N := mt_X11_at) dL_law_354 rfl ok_X11_at tw_408 im_X11_at se_X11_at ⟨Nat.le_of_ble_eq_true rfl, Nat.le_of_ble_eq_true rfl⟩ [.int (xs (Int32.toNatClampNeg (l3 + (1 : Int32))))] [] rfl rfl (Nat.le_of_ble_eq_true rfl) rfl (Nat.le_of_ble_eq_true rfl) (en_X11_at m (xs (Int32.toNatClampNeg (l3 + (1 : Int32)))) u0) sh_0 (by decide) rfl (fun q25 => ?_)
        refine xq_aload_n (n := 358) dL_law_357 rfl rfl ?_
        refine xq_sload_n (n := 359) dL_law_358 rfl rfl ?_
        refine xq_iload_n (n := 360) dL_law_359 rfl rfl ?_
        refine xq_iconst (n := 361) (v := (1 : Int32)) dL_law_360 rfl rfl ?_
        refine xq_iadd (n := 362) dL_law_361 rfl ?_
        refine xq_sld (n := 363) dL_law_362 rfl ?_
        refine yq_callvl (n := 366) (N := mt_X12_at) dL_law_363 rfl ok_X12_at tw_1057 im_X12_at se_X12_at ⟨Nat.le_of_ble_eq_true rfl, Nat.le_of_ble_eq_true rfl⟩ [.int (xs (Int32.toNatClampNeg (l3 + (1 : Int32))))] [.long q25.1] rfl rfl (Nat.le_of_ble_eq_true rfl) rfl (Nat.le_of_ble_eq_true rfl) (en_X12_at m (xs (Int32.toNatClampNeg (l3 + (1 : Int32)))) q25.2) sh_150 (by decide) rfl (fun q26 => ?_)
        refine xq_lif_eq (n := 370) (pc1 := 367) (tgt := 918) dL_law_366 rfl dL_law_367 rfl rfl (fun hc27 => ?_) (fun hc27 => ?_)
        · refine xq_iincl (n := 921) (dv := (5 : Int32)) (fun v28 => [some (.float 0), some (.ref 0), some (.ref 150), some (.int v28)]) dL_law_918 rfl rfl rfl (Nat.le_of_ble_eq_true rfl) (fun _ => rfl) (fun v28 => ?_)
          refine xq_goto (n := 18) dL_law_921 rfl ?_
          exact ih v28 q26.2
        · refine xq_iconst (n := 371) (v := (0 : Int32)) dL_law_370 rfl rfl ?_
          exact xq_zretc dL_law_371 rfl (Or.inl rfl) (hK _)
      refine xq_ite (fun hx7 => ?_) (fun hx7 => ?_)
      · refine xq_tsIn (c := (7 : Int32)) (off := 340) (tgt := 372) dL_law_32 hx7 (by decide) (by decide) rfl rfl ?_
        refine xq_aload_n (n := 373) dL_law_372 rfl rfl ?_
        refine xq_sload_n (n := 374) dL_law_373 rfl rfl ?_
        refine xq_iload_n (n := 375) dL_law_374 rfl rfl ?_
        refine xq_iconst (n := 376) (v := (1 : Int32)) dL_law_375 rfl rfl ?_
        refine xq_iadd (n := 377) dL_law_376 rfl ?_
        refine xq_sld (n := 378) dL_law_377 rfl ?_
        refine yq_callvi (n := 381) (N := mt_X11_run) dL_law_378 rfl ok_X11_run tw_412 im_X11_run se_X11_run ⟨Nat.le_of_ble_eq_true rfl, Nat.le_of_ble_eq_true rfl⟩ [.int (xs (Int32.toNatClampNeg (l3 + (1 : Int32))))] [] rfl rfl (Nat.le_of_ble_eq_true rfl) rfl (Nat.le_of_ble_eq_true rfl) (en_X11_run m (xs (Int32.toNatClampNeg (l3 + (1 : Int32)))) u0) sh_0 (by decide) rfl (fun q29 => ?_)
        refine xq_aload_n (n := 382) dL_law_381 rfl rfl ?_
        refine xq_sload_n (n := 383) dL_law_382 rfl rfl ?_
        refine xq_iload_n (n := 384) dL_law_383 rfl rfl ?_
        refine xq_iconst (n := 385) (v := (1 : Int32)) dL_law_384 rfl rfl ?_
        refine xq_iadd (n := 386) dL_law_385 rfl ?_
        refine xq_sld (n := 387) dL_law_386 rfl ?_
        refine yq_callvi (n := 390) (N := mt_X12_run) dL_law_387 rfl ok_X12_run tw_1061 im_X12_run se_X12_run ⟨Nat.le_of_ble_eq_true rfl, Nat.le_of_ble_eq_true rfl⟩ [.int (xs (Int32.toNatClampNeg (l3 + (1 : Int32))))] [.int q29.1] rfl rfl (Nat.le_of_ble_eq_true rfl) rfl (Nat.le_of_ble_eq_true rfl) (en_X12_run m (xs (Int32.toNatClampNeg (l3 + (1 : Int32)))) q29.2) sh_150 (by decide) rfl (fun q30 => ?_)
        refine xq_icmp_eq (n := 393) (tgt := 918) dL_law_390 rfl rfl (fun hc31 => ?_) (fun hc31 => ?_)
        · refine xq_iincl (n := 921) (dv := (5 : Int32)) (fun v32 => [some (.float 0), some (.ref 0), some (.ref 150), some (.int v32)]) dL_law_918 rfl rfl rfl (Nat.le_of_ble_eq_true rfl) (fun _ => rfl) (fun v32 => ?_)
          refine xq_goto (n := 18) dL_law_921 rfl ?_
          exact ih v32 q30.2
        · refine xq_iconst (n := 394) (v := (0 : Int32)) dL_law_393 rfl rfl ?_
          exact xq_zretc dL_law_394 rfl (Or.inl rfl) (hK _)
      refine xq_ite (fun hx8 => ?_) (fun hx8 => ?_)
      · refine xq_tsIn (c := (8 : Int32)) (off := 363) (tgt := 395) dL_law_32 hx8 (by decide) (by decide) rfl rfl ?_
        refine xq_aload_n (n := 396) dL_law_395 rfl rfl ?_
        refine yq_callvi (n := 399) (N := mt_X11_turn) dL_law_396 rfl ok_X11_turn tw_443 im_X11_turn se_X11_turn ⟨Nat.le_of_ble_eq_true rfl, Nat.le_of_ble_eq_true rfl⟩ [] [] rfl rfl (Nat.le_of_ble_eq_true rfl) rfl (Nat.le_of_ble_eq_true rfl) (en_X11_turn m u0) sh_0 (by decide) rfl (fun q33 => ?_)
        refine xq_aload_n (n := 400) dL_law_399 rfl rfl ?_
        refine yq_callvi (n := 403) (N := mt_X12_turn) dL_law_400 rfl ok_X12_turn tw_1081 im_X12_turn se_X12_turn ⟨Nat.le_of_ble_eq_true rfl, Nat.le_of_ble_eq_true rfl⟩ [] [.int q33.1] rfl rfl (Nat.le_of_ble_eq_true rfl) rfl (Nat.le_of_ble_eq_true rfl) (en_X12_turn m q33.2) sh_150 (by decide) rfl (fun q34 => ?_)
        refine xq_icmp_eq (n := 406) (tgt := 918) dL_law_403 rfl rfl (fun hc35 => ?_) (fun hc35 => ?_)
        · refine xq_iincl (n := 921) (dv := (5 : Int32)) (fun v36 => [some (.float 0), some (.ref 0), some (.ref 150), some (.int v36)]) dL_law_918 rfl rfl rfl (Nat.le_of_ble_eq_true rfl) (fun _ => rfl) (fun v36 => ?_)
          refine xq_goto (n := 18) dL_law_921 rfl ?_
          exact ih v36 q34.2
        · refine xq_iconst (n := 407) (v := (0 : Int32)) dL_law_406 rfl rfl ?_
          exact xq_zretc dL_law_407 rfl (Or.inl rfl) (hK _)
      refine xq_ite (fun hx9 => ?_) (fun hx9 => ?_)
      · refine xq_tsIn (c := (9 : Int32)) (off := 376) (tgt := 408) dL_law_32 hx9 (by decide) (by decide) rfl rfl ?_
        refine xq_aload_n (n := 409) dL_law_408 rfl rfl ?_
        refine xq_sload_n (n := 410) dL_law_409 rfl rfl ?_
        refine xq_iload_n (n := 411) dL_law_410 rfl rfl ?_
        refine xq_iconst (n := 412) (v := (1 : Int32)) dL_law_411 rfl rfl ?_
        refine xq_iadd (n := 413) dL_law_412 rfl ?_
        refine xq_sld (n := 414) dL_law_413 rfl ?_
        refine yq_callvi (n := 417) (N := mt_X11_ring) dL_law_414 rfl ok_X11_ring tw_448 im_X11_ring se_X11_ring ⟨Nat.le_of_ble_eq_true rfl, Nat.le_of_ble_eq_true rfl⟩ [.int (xs (Int32.toNatClampNeg (l3 + (1 : Int32))))] [] rfl rfl (Nat.le_of_ble_eq_true rfl) rfl (Nat.le_of_ble_eq_true rfl) (en_X11_ring m (xs (Int32.toNatClampNeg (l3 + (1 : Int32)))) u0) sh_0 (by decide) rfl (fun q37 => ?_)
        refine xq_aload_n (n := 418) dL_law_417 rfl rfl ?_
        refine xq_sload_n (n := 419) dL_law_418 rfl rfl ?_
        refine xq_iload_n (n := 420) dL_law_419 rfl rfl ?_
        refine xq_iconst (n := 421) (v := (1 : Int32)) dL_law_420 rfl rfl ?_
        refine xq_iadd (n := 422) dL_law_421 rfl ?_
        refine xq_sld (n := 423) dL_law_422 rfl ?_
        refine yq_callvi (n := 426) (N := mt_X12_ring) dL_law_423 rfl ok_X12_ring tw_1085 im_X12_ring se_X12_ring ⟨Nat.le_of_ble_eq_true rfl, Nat.le_of_ble_eq_true rfl⟩ [.int (xs (Int32.toNatClampNeg (l3 + (1 : Int32))))] [.int q37.1] rfl rfl (Nat.le_of_ble_eq_true rfl) rfl (Nat.le_of_ble_eq_true rfl) (en_X12_ring m (xs (Int32.toNatClampNeg (l3 + (1 : Int32)))) q37.2) sh_150 (by decide) rfl (fun q38 => ?_)
        refine xq_icmp_eq (n := 429) (tgt := 918) dL_law_426 rfl rfl (fun hc39 => ?_) (fun hc39 => ?_)
        · refine xq_iincl (n := 921) (dv := (5 : Int32)) (fun v40 => [some (.float 0), some (.ref 0), some (.ref 150), some (.int v40)]) dL_law_918 rfl rfl rfl (Nat.le_of_ble_eq_true rfl) (fun _ => rfl) (fun v40 => ?_)
          refine xq_goto (n := 18) dL_law_921 rfl ?_
          exact ih v40 q38.2
        · refine xq_iconst (n := 430) (v := (0 : Int32)) dL_law_429 rfl rfl ?_
          exact xq_zretc dL_law_430 rfl (Or.inl rfl) (hK _)
      refine xq_ite (fun hx10 => ?_) (fun hx10 => ?_)
      · refine xq_tsIn (c := (10 : Int32)) (off := 399) (tgt := 431) dL_law_32 hx10 (by decide) (by decide) rfl rfl ?_
        refine xq_aload_n (n := 432) dL_law_431 rfl rfl ?_
        refine yq_callvi (n := 435) (N := mt_X11_ahead) dL_law_432 rfl ok_X11_ahead tw_475 im_X11_ahead se_X11_ahead ⟨Nat.le_of_ble_eq_true rfl, Nat.le_of_ble_eq_true rfl⟩ [] [] rfl rfl (Nat.le_of_ble_eq_true rfl) rfl (Nat.le_of_ble_eq_true rfl) (en_X11_ahead m u0) sh_0 (by decide) rfl (fun q41 => ?_)
        refine xq_aload_n (n := 436) dL_law_435 rfl rfl ?_
        refine yq_callvi (n := 439) (N := mt_X12_ahead) dL_law_436 rfl ok_X12_ahead tw_1096 im_X12_ahead se_X12_ahead ⟨Nat.le_of_ble_eq_true rfl, Nat.le_of_ble_eq_true rfl⟩ [] [.int q41.1] rfl rfl (Nat.le_of_ble_eq_true rfl) rfl (Nat.le_of_ble_eq_true rfl) (en_X12_ahead m q41.2) sh_150 (by decide) rfl (fun q42 => ?_)
        refine xq_icmp_eq (n := 442) (tgt := 918) dL_law_439 rfl rfl (fun hc43 => ?_) (fun hc43 => ?_)
        · refine xq_iincl (n := 921) (dv := (5 : Int32)) (fun v44 => [some (.float 0), some (.ref 0), some (.ref 150), some (.int v44)]) dL_law_918 rfl rfl rfl (Nat.le_of_ble_eq_true rfl) (fun _ => rfl) (fun v44 => ?_)
          refine xq_goto (n := 18) dL_law_921 rfl ?_
          exact ih v44 q42.2
        · refine xq_iconst (n := 443) (v := (0 : Int32)) dL_law_442 rfl rfl ?_
          exact xq_zretc dL_law_443 rfl (Or.inl rfl) (hK _)
      refine xq_ite (fun hx11 => ?_) (fun hx11 => ?_)
      · refine xq_tsIn (c := (11 : Int32)) (off := 412) (tgt := 444) dL_law_32 hx11 (by decide) (by decide) rfl rfl ?_
        refine xq_aload_n (n := 445) dL_law_444 rfl rfl ?_
        refine xq_sload_n (n := 446) dL_law_445 rfl rfl ?_
        refine xq_iload_n (n := 447) dL_law_446 rfl rfl ?_
        refine xq_iconst (n := 448) (v := (1 : Int32)) dL_law_447 rfl rfl ?_
        refine xq_iadd (n := 449) dL_law_448 rfl ?_
        refine xq_sld (n := 450) dL_law_449 rfl ?_
        refine xq_sload_n (n := 451) dL_law_450 rfl rfl ?_
        refine xq_iload_n (n := 452) dL_law_451 rfl rfl ?_
        refine xq_iconst (n := 453) (v := (2 : Int32)) dL_law_452 rfl rfl ?_
        refine xq_iadd (n := 454) dL_law_453 rfl ?_
        refine xq_sld (n := 455) dL_law_454 rfl ?_
        refine xq_sload_n (n := 456) dL_law_455 rfl rfl ?_
        refine xq_iload_n (n := 457) dL_law_456 rfl rfl ?_
        refine xq_iconst (n := 458) (v := (3 : Int32)) dL_law_457 rfl rfl ?_
        refine xq_iadd (n := 459) dL_law_458 rfl ?_
        refine xq_sld (n := 460) dL_law_459 rfl ?_
        refine yq_callvi (n := 463) (N := mt_X11_ranks) dL_law_460 rfl ok_X11_ranks tw_479 im_X11_ranks se_X11_ranks ⟨Nat.le_of_ble_eq_true rfl, Nat.le_of_ble_eq_true rfl⟩ [.int (xs (Int32.toNatClampNeg (l3 + (1 : Int32)))), .int (xs (Int32.toNatClampNeg (l3 + (2 : Int32)))), .int (xs (Int32.toNatClampNeg (l3 + (3 : Int32))))] [] rfl rfl (Nat.le_of_ble_eq_true rfl) rfl (Nat.le_of_ble_eq_true rfl) (en_X11_ranks m (xs (Int32.toNatClampNeg (l3 + (1 : Int32)))) (xs (Int32.toNatClampNeg (l3 + (2 : Int32)))) (xs (Int32.toNatClampNeg (l3 + (3 : Int32)))) u0) sh_0 (by decide) rfl (fun q45 => ?_)
        refine xq_aload_n (n := 464) dL_law_463 rfl rfl ?_
        refine xq_sload_n (n := 465) dL_law_464 rfl rfl ?_
        refine xq_iload_n (n := 466) dL_law_465 rfl rfl ?_
        refine xq_iconst (n := 467) (v := (1 : Int32)) dL_law_466 rfl rfl ?_
        refine xq_iadd (n := 468) dL_law_467 rfl ?_
        refine xq_sld (n := 469) dL_law_468 rfl ?_
        refine xq_sload_n (n := 470) dL_law_469 rfl rfl ?_
        refine xq_iload_n (n := 471) dL_law_470 rfl rfl ?_
        refine xq_iconst (n := 472) (v := (2 : Int32)) dL_law_471 rfl rfl ?_
        refine xq_iadd (n := 473) dL_law_472 rfl ?_
        refine xq_sld (n := 474) dL_law_473 rfl ?_
        refine xq_sload_n (n := 475) dL_law_474 rfl rfl ?_
        refine xq_iload_n (n := 476) dL_law_475 rfl rfl ?_
        refine xq_iconst (n := 477) (v := (3 : Int32)) dL_law_476 rfl rfl ?_
        refine xq_iadd (n := 478) dL_law_477 rfl ?_
        refine xq_sld (n := 479) dL_law_478 rfl ?_
        refine yq_callvi (n := 482) (N := mt_X12_ranks) dL_law_479 rfl ok_X12_ranks tw_1100 im_X12_ranks se_X12_ranks ⟨Nat.le_of_ble_eq_true rfl, Nat.le_of_ble_eq_true rfl⟩ [.int (xs (Int32.toNatClampNeg (l3 + (1 : Int32)))), .int (xs (Int32.toNatClampNeg (l3 + (2 : Int32)))), .int (xs (Int32.toNatClampNeg (l3 + (3 : Int32))))] [.int q45.1] rfl rfl (Nat.le_of_ble_eq_true rfl) rfl (Nat.le_of_ble_eq_true rfl) (en_X12_ranks m (xs (Int32.toNatClampNeg (l3 + (1 : Int32)))) (xs (Int32.toNatClampNeg (l3 + (2 : Int32)))) (xs (Int32.toNatClampNeg (l3 + (3 : Int32)))) q45.2) sh_150 (by decide) rfl (fun q46 => ?_)
        refine xq_icmp_eq (n := 485) (tgt := 918) dL_law_482 rfl rfl (fun hc47 => ?_) (fun hc47 => ?_)
        · refine xq_iincl (n := 921) (dv := (5 : Int32)) (fun v48 => [some (.float 0), some (.ref 0), some (.ref 150), some (.int v48)]) dL_law_918 rfl rfl rfl (Nat.le_of_ble_eq_true rfl) (fun _ => rfl) (fun v48 => ?_)
          refine xq_goto (n := 18) dL_law_921 rfl ?_
          exact ih v48 q46.2
        · refine xq_iconst (n := 486) (v := (0 : Int32)) dL_law_485 rfl rfl ?_
          exact xq_zretc dL_law_486 rfl (Or.inl rfl) (hK _)
      refine xq_ite (fun hx12 => ?_) (fun hx12 => ?_)
      · refine xq_tsIn (c := (12 : Int32)) (off := 455) (tgt := 487) dL_law_32 hx12 (by decide) (by decide) rfl rfl ?_
        refine xq_aload_n (n := 488) dL_law_487 rfl rfl ?_
        refine xq_sload_n (n := 489) dL_law_488 rfl rfl ?_
        refine xq_iload_n (n := 490) dL_law_489 rfl rfl ?_
        refine xq_iconst (n := 491) (v := (1 : Int32)) dL_law_490 rfl rfl ?_
        refine xq_iadd (n := 492) dL_law_491 rfl ?_
        refine xq_sld (n := 493) dL_law_492 rfl ?_
        refine xq_sload_n (n := 494) dL_law_493 rfl rfl ?_
        refine xq_iload_n (n := 495) dL_law_494 rfl rfl ?_
        refine xq_iconst (n := 496) (v := (2 : Int32)) dL_law_495 rfl rfl ?_
        refine xq_iadd (n := 497) dL_law_496 rfl ?_
        refine xq_sld (n := 498) dL_law_497 rfl ?_
        refine xq_sload_n (n := 499) dL_law_498 rfl rfl ?_
        refine xq_iload_n (n := 500) dL_law_499 rfl rfl ?_
        refine xq_iconst (n := 501) (v := (3 : Int32)) dL_law_500 rfl rfl ?_
        refine xq_iadd (n := 502) dL_law_501 rfl ?_
        refine xq_sld (n := 503) dL_law_502 rfl ?_
        refine xq_sload_n (n := 504) dL_law_503 rfl rfl ?_
        refine xq_iload_n (n := 505) dL_law_504 rfl rfl ?_
        refine xq_iconst (n := 506) (v := (4 : Int32)) dL_law_505 rfl rfl ?_
        refine xq_iadd (n := 507) dL_law_506 rfl ?_
        refine xq_sld (n := 508) dL_law_507 rfl ?_
        refine yq_callvi (n := 511) (N := mt_X11_tells) dL_law_508 rfl ok_X11_tells tw_588 im_X11_tells se_X11_tells ⟨Nat.le_of_ble_eq_true rfl, Nat.le_of_ble_eq_true rfl⟩ [.int (xs (Int32.toNatClampNeg (l3 + (1 : Int32)))), .int (xs (Int32.toNatClampNeg (l3 + (2 : Int32)))), .int (xs (Int32.toNatClampNeg (l3 + (3 : Int32)))), .int (xs (Int32.toNatClampNeg (l3 + (4 : Int32))))] [] rfl rfl (Nat.le_of_ble_eq_true rfl) rfl (Nat.le_of_ble_eq_true rfl) (en_X11_tells m (xs (Int32.toNatClampNeg (l3 + (1 : Int32)))) (xs (Int32.toNatClampNeg (l3 + (2 : Int32)))) (xs (Int32.toNatClampNeg (l3 + (3 : Int32)))) (xs (Int32.toNatClampNeg (l3 + (4 : Int32)))) u0) sh_0 (by decide) rfl (fun q49 => ?_)
        refine xq_aload_n (n := 512) dL_law_511 rfl rfl ?_
        refine xq_sload_n (n := 513) dL_law_512 rfl rfl ?_
        refine xq_iload_n (n := 514) dL_law_513 rfl rfl ?_
        refine xq_iconst (n := 515) (v := (1 : Int32)) dL_law_514 rfl rfl ?_
        refine xq_iadd (n := 516) dL_law_515 rfl ?_
        refine xq_sld (n := 517) dL_law_516 rfl ?_
        refine xq_sload_n (n := 518) dL_law_517 rfl rfl ?_
        refine xq_iload_n (n := 519) dL_law_518 rfl rfl ?_
        refine xq_iconst (n := 520) (v := (2 : Int32)) dL_law_519 rfl rfl ?_
        refine xq_iadd (n := 521) dL_law_520 rfl ?_
        refine xq_sld (n := 522) dL_law_521 rfl ?_
        refine xq_sload_n (n := 523) dL_law_522 rfl rfl ?_
        refine xq_iload_n (n := 524) dL_law_523 rfl rfl ?_
        refine xq_iconst (n := 525) (v := (3 : Int32)) dL_law_524 rfl rfl ?_
        refine xq_iadd (n := 526) dL_law_525 rfl ?_
        refine xq_sld (n := 527) dL_law_526 rfl ?_
        refine xq_sload_n (n := 528) dL_law_527 rfl rfl ?_
        refine xq_iload_n (n := 529) dL_law_528 rfl rfl ?_
        refine xq_iconst (n := 530) (v := (4 : Int32)) dL_law_529 rfl rfl ?_
        refine xq_iadd (n := 531) dL_law_530 rfl ?_
        refine xq_sld (n := 532) dL_law_531 rfl ?_
        refine yq_callvi (n := 535) (N := mt_X12_tells) dL_law_532 rfl ok_X12_tells tw_1194 im_X12_tells se_X12_tells ⟨Nat.le_of_ble_eq_true rfl, Nat.le_of_ble_eq_true rfl⟩ [.int (xs (Int32.toNatClampNeg (l3 + (1 : Int32)))), .int (xs (Int32.toNatClampNeg (l3 + (2 : Int32)))), .int (xs (Int32.toNatClampNeg (l3 + (3 : Int32)))), .int (xs (Int32.toNatClampNeg (l3 + (4 : Int32))))] [.int q49.1] rfl rfl (Nat.le_of_ble_eq_true rfl) rfl (Nat.le_of_ble_eq_true rfl) (en_X12_tells m (xs (Int32.toNatClampNeg (l3 + (1 : Int32)))) (xs (Int32.toNatClampNeg (l3 + (2 : Int32)))) (xs (Int32.toNatClampNeg (l3 + (3 : Int32)))) (xs (Int32.toNatClampNeg (l3 + (4 : Int32)))) q49.2) sh_150 (by decide) rfl (fun q50 => ?_)
        refine xq_icmp_eq (n := 538) (tgt := 918) dL_law_535 rfl rfl (fun hc51 => ?_) (fun hc51 => ?_)
        · refine xq_iincl (n := 921) (dv := (5 : Int32)) (fun v52 => [some (.float 0), some (.ref 0), some (.ref 150), some (.int v52)]) dL_law_918 rfl rfl rfl (Nat.le_of_ble_eq_true rfl) (fun _ => rfl) (fun v52 => ?_)
          refine xq_goto (n := 18) dL_law_921 rfl ?_
          exact ih v52 q50.2
        · refine xq_iconst (n := 539) (v := (0 : Int32)) dL_law_538 rfl rfl ?_
          exact xq_zretc dL_law_539 rfl (Or.inl rfl) (hK _)
      refine xq_ite (fun hx13 => ?_) (fun hx13 => ?_)
      · refine xq_tsIn (c := (13 : Int32)) (off := 508) (tgt := 540) dL_law_32 hx13 (by decide) (by decide) rfl rfl ?_
        refine xq_aload_n (n := 541) dL_law_540 rfl rfl ?_
        refine xq_sload_n (n := 542) dL_law_541 rfl rfl ?_
        refine xq_iload_n (n := 543) dL_law_542 rfl rfl ?_
        refine xq_iconst (n := 544) (v := (1 : Int32)) dL_law_543 rfl rfl ?_
        refine xq_iadd (n := 545) dL_law_544 rfl ?_
        refine xq_sld (n := 546) dL_law_545 rfl ?_
        refine xq_sload_n (n := 547) dL_law_546 rfl rfl ?_
        refine xq_iload_n (n := 548) dL_law_547 rfl rfl ?_
        refine xq_iconst (n := 549) (v := (2 : Int32)) dL_law_548 rfl rfl ?_
        refine xq_iadd (n := 550) dL_law_549 rfl ?_
        refine xq_sld (n := 551) dL_law_550 rfl ?_
        refine xq_sload_n (n := 552) dL_law_551 rfl rfl ?_
        refine xq_iload_n (n := 553) dL_law_552 rfl rfl ?_
        refine xq_iconst (n := 554) (v := (3 : Int32)) dL_law_553 rfl rfl ?_
        refine xq_iadd (n := 555) dL_law_554 rfl ?_
        refine xq_sld (n := 556) dL_law_555 rfl ?_
        refine yq_callvl (n := 559) (N := mt_X11_floor) dL_law_556 rfl ok_X11_floor tw_594 im_X11_floor se_X11_floor ⟨Nat.le_of_ble_eq_true rfl, Nat.le_of_ble_eq_true rfl⟩ [.int (xs (Int32.toNatClampNeg (l3 + (1 : Int32)))), .int (xs (Int32.toNatClampNeg (l3 + (2 : Int32)))), .int (xs (Int32.toNatClampNeg (l3 + (3 : Int32))))] [] rfl rfl (Nat.le_of_ble_eq_true rfl) rfl (Nat.le_of_ble_eq_true rfl) (en_X11_floor m (xs (Int32.toNatClampNeg (l3 + (1 : Int32)))) (xs (Int32.toNatClampNeg (l3 + (2 : Int32)))) (xs (Int32.toNatClampNeg (l3 + (3 : Int32)))) u0) sh_0 (by decide) rfl (fun q53 => ?_)
        refine xq_aload_n (n := 560) dL_law_559 rfl rfl ?_
        refine xq_sload_n (n := 561) dL_law_560 rfl rfl ?_
        refine xq_iload_n (n := 562) dL_law_561 rfl rfl ?_
        refine xq_iconst (n := 563) (v := (1 : Int32)) dL_law_562 rfl rfl ?_
        refine xq_iadd (n := 564) dL_law_563 rfl ?_
        refine xq_sld (n := 565) dL_law_564 rfl ?_
        refine xq_sload_n (n := 566) dL_law_565 rfl rfl ?_
        refine xq_iload_n (n := 567) dL_law_566 rfl rfl ?_
        refine xq_iconst (n := 568) (v := (2 : Int32)) dL_law_567 rfl rfl ?_
        refine xq_iadd (n := 569) dL_law_568 rfl ?_
        refine xq_sld (n := 570) dL_law_569 rfl ?_
        refine xq_sload_n (n := 571) dL_law_570 rfl rfl ?_
        refine xq_iload_n (n := 572) dL_law_571 rfl rfl ?_
        refine xq_iconst (n := 573) (v := (3 : Int32)) dL_law_572 rfl rfl ?_
        refine xq_iadd (n := 574) dL_law_573 rfl ?_
        refine xq_sld (n := 575) dL_law_574 rfl ?_
        refine yq_callvl (n := 578) (N := mt_X12_floor) dL_law_575 rfl ok_X12_floor tw_1198 im_X12_floor se_X12_floor ⟨Nat.le_of_ble_eq_true rfl, Nat.le_of_ble_eq_true rfl⟩ [.int (xs (Int32.toNatClampNeg (l3 + (1 : Int32)))), .int (xs (Int32.toNatClampNeg (l3 + (2 : Int32)))), .int (xs (Int32.toNatClampNeg (l3 + (3 : Int32))))] [.long q53.1] rfl rfl (Nat.le_of_ble_eq_true rfl) rfl (Nat.le_of_ble_eq_true rfl) (en_X12_floor m (xs (Int32.toNatClampNeg (l3 + (1 : Int32)))) (xs (Int32.toNatClampNeg (l3 + (2 : Int32)))) (xs (Int32.toNatClampNeg (l3 + (3 : Int32)))) q53.2) sh_150 (by decide) rfl (fun q54 => ?_)
        refine xq_lif_eq (n := 582) (pc1 := 579) (tgt := 918) dL_law_578 rfl dL_law_579 rfl rfl (fun hc55 => ?_) (fun hc55 => ?_)
        · refine xq_iincl (n := 921) (dv := (5 : Int32)) (fun v56 => [some (.float 0), some (.ref 0), some (.ref 150), some (.int v56)]) dL_law_918 rfl rfl rfl (Nat.le_of_ble_eq_true rfl) (fun _ => rfl) (fun v56 => ?_)
          refine xq_goto (n := 18) dL_law_921 rfl ?_
          exact ih v56 q54.2
        · refine xq_iconst (n := 583) (v := (0 : Int32)) dL_law_582 rfl rfl ?_
          exact xq_zretc dL_law_583 rfl (Or.inl rfl) (hK _)
      refine xq_ite (fun hx14 => ?_) (fun hx14 => ?_)
      · refine xq_tsIn (c := (14 : Int32)) (off := 552) (tgt := 584) dL_law_32 hx14 (by decide) (by decide) rfl rfl ?_
        refine xq_aload_n (n := 585) dL_law_584 rfl rfl ?_
        refine xq_sload_n (n := 586) dL_law_585 rfl rfl ?_
        refine xq_iload_n (n := 587) dL_law_586 rfl rfl ?_
        refine xq_iconst (n := 588) (v := (1 : Int32)) dL_law_587 rfl rfl ?_
        refine xq_iadd (n := 589) dL_law_588 rfl ?_
        refine xq_sld (n := 590) dL_law_589 rfl ?_
        refine yq_callvi (n := 593) (N := mt_X11_rank) dL_law_590 rfl ok_X11_rank tw_615 im_X11_rank se_X11_rank ⟨Nat.le_of_ble_eq_true rfl, Nat.le_of_ble_eq_true rfl⟩ [.int (xs (Int32.toNatClampNeg (l3 + (1 : Int32))))] [] rfl rfl (Nat.le_of_ble_eq_true rfl) rfl (Nat.le_of_ble_eq_true rfl) (en_X11_rank m (xs (Int32.toNatClampNeg (l3 + (1 : Int32)))) u0) sh_0 (by decide) rfl (fun q57 => ?_)
        refine xq_aload_n (n := 594) dL_law_593 rfl rfl ?_
        refine xq_sload_n (n := 595) dL_law_594 rfl rfl ?_
        refine xq_iload_n (n := 596) dL_law_595 rfl rfl ?_
        refine xq_iconst (n := 597) (v := (1 : Int32)) dL_law_596 rfl rfl ?_
        refine xq_iadd (n := 598) dL_law_597 rfl ?_
        refine xq_sld (n := 599) dL_law_598 rfl ?_
        refine yq_callvi (n := 602) (N := mt_X12_rank) dL_law_599 rfl ok_X12_rank tw_1207 im_X12_rank se_X12_rank ⟨Nat.le_of_ble_eq_true rfl, Nat.le_of_ble_eq_true rfl⟩ [.int (xs (Int32.toNatClampNeg (l3 + (1 : Int32))))] [.int q57.1] rfl rfl (Nat.le_of_ble_eq_true rfl) rfl (Nat.le_of_ble_eq_true rfl) (en_X12_rank m (xs (Int32.toNatClampNeg (l3 + (1 : Int32)))) q57.2) sh_150 (by decide) rfl (fun q58 => ?_)
        refine xq_icmp_eq (n := 605) (tgt := 918) dL_law_602 rfl rfl (fun hc59 => ?_) (fun hc59 => ?_)
        · refine xq_iincl (n := 921) (dv := (5 : Int32)) (fun v60 => [some (.float 0), some (.ref 0), some (.ref 150), some (.int v60)]) dL_law_918 rfl rfl rfl (Nat.le_of_ble_eq_true rfl) (fun _ => rfl) (fun v60 => ?_)
          refine xq_goto (n := 18) dL_law_921 rfl ?_
          exact ih v60 q58.2
        · refine xq_iconst (n := 606) (v := (0 : Int32)) dL_law_605 rfl rfl ?_
          exact xq_zretc dL_law_606 rfl (Or.inl rfl) (hK _)
      refine xq_ite (fun hx15 => ?_) (fun hx15 => ?_)
      · refine xq_tsIn (c := (15 : Int32)) (off := 575) (tgt := 607) dL_law_32 hx15 (by decide) (by decide) rfl rfl ?_
        refine xq_aload_n (n := 608) dL_law_607 rfl rfl ?_
        refine xq_sload_n (n := 609) dL_law_608 rfl rfl ?_
        refine xq_iload_n (n := 610) dL_law_609 rfl rfl ?_
        refine xq_iconst (n := 611) (v := (1 : Int32)) dL_law_610 rfl rfl ?_
        refine xq_iadd (n := 612) dL_law_611 rfl ?_
        refine xq_sld (n := 613) dL_law_612 rfl ?_
        refine yq_callvi (n := 616) (N := mt_X11_rows) dL_law_613 rfl ok_X11_rows tw_648 im_X11_rows se_X11_rows ⟨Nat.le_of_ble_eq_true rfl, Nat.le_of_ble_eq_true rfl⟩ [.int (xs (Int32.toNatClampNeg (l3 + (1 : Int32))))] [] rfl rfl (Nat.le_of_ble_eq_true rfl) rfl (Nat.le_of_ble_eq_true rfl) (en_X11_rows m (xs (Int32.toNatClampNeg (l3 + (1 : Int32)))) u0) sh_0 (by decide) rfl (fun q61 => ?_)
        refine xq_aload_n (n := 617) dL_law_616 rfl rfl ?_
        refine xq_sload_n (n := 618) dL_law_617 rfl rfl ?_
        refine xq_iload_n (n := 619) dL_law_618 rfl rfl ?_
        refine xq_iconst (n := 620) (v := (1 : Int32)) dL_law_619 rfl rfl ?_
        refine xq_iadd (n := 621) dL_law_620 rfl ?_
        refine xq_sld (n := 622) dL_law_621 rfl ?_
        refine yq_callvi (n := 625) (N := mt_X12_rows) dL_law_622 rfl ok_X12_rows tw_1227 im_X12_rows se_X12_rows ⟨Nat.le_of_ble_eq_true rfl, Nat.le_of_ble_eq_true rfl⟩ [.int (xs (Int32.toNatClampNeg (l3 + (1 : Int32))))] [.int q61.1] rfl rfl (Nat.le_of_ble_eq_true rfl) rfl (Nat.le_of_ble_eq_true rfl) (en_X12_rows m (xs (Int32.toNatClampNeg (l3 + (1 : Int32)))) q61.2) sh_150 (by decide) rfl (fun q62 => ?_)
        refine xq_icmp_eq (n := 628) (tgt := 918) dL_law_625 rfl rfl (fun hc63 => ?_) (fun hc63 => ?_)
        · refine xq_iincl (n := 921) (dv := (5 : Int32)) (fun v64 => [some (.float 0), some (.ref 0), some (.ref 150), some (.int v64)]) dL_law_918 rfl rfl rfl (Nat.le_of_ble_eq_true rfl) (fun _ => rfl) (fun v64 => ?_)
          refine xq_goto (n := 18) dL_law_921 rfl ?_
          exact ih v64 q62.2
        · refine xq_iconst (n := 629) (v := (0 : Int32)) dL_law_628 rfl rfl ?_
          exact xq_zretc dL_law_629 rfl (Or.inl rfl) (hK _)
      refine xq_ite (fun hx16 => ?_) (fun hx16 => ?_)
      · refine xq_tsIn (c := (16 : Int32)) (off := 598) (tgt := 630) dL_law_32 hx16 (by decide) (by decide) rfl rfl ?_
        refine xq_aload_n (n := 631) dL_law_630 rfl rfl ?_
        refine xq_sload_n (n := 632) dL_law_631 rfl rfl ?_
        refine xq_iload_n (n := 633) dL_law_632 rfl rfl ?_
        refine xq_iconst (n := 634) (v := (1 : Int32)) dL_law_633 rfl rfl ?_
        refine xq_iadd (n := 635) dL_law_634 rfl ?_
        refine xq_sld (n := 636) dL_law_635 rfl ?_
        refine xq_sload_n (n := 637) dL_law_636 rfl rfl ?_
        refine xq_iload_n (n := 638) dL_law_637 rfl rfl ?_
        refine xq_iconst (n := 639) (v := (2 : Int32)) dL_law_638 rfl rfl ?_
        refine xq_iadd (n := 640) dL_law_639 rfl ?_
        refine xq_sld (n := 641) dL_law_640 rfl ?_
        refine yq_callvi (n := 644) (N := mt_X11_found) dL_law_641 rfl ok_X11_found tw_670 im_X11_found se_X11_found ⟨Nat.le_of_ble_eq_true rfl, Nat.le_of_ble_eq_true rfl⟩ [.int (xs (Int32.toNatClampNeg (l3 + (1 : Int32)))), .int (xs (Int32.toNatClampNeg (l3 + (2 : Int32))))] [] rfl rfl (Nat.le_of_ble_eq_true rfl) rfl (Nat.le_of_ble_eq_true rfl) (en_X11_found m (xs (Int32.toNatClampNeg (l3 + (1 : Int32)))) (xs (Int32.toNatClampNeg (l3 + (2 : Int32)))) u0) sh_0 (by decide) rfl (fun q65 => ?_)
        refine xq_aload_n (n := 645) dL_law_644 rfl rfl ?_
        refine xq_sload_n (n := 646) dL_law_645 rfl rfl ?_
        refine xq_iload_n (n := 647) dL_law_646 rfl rfl ?_
        refine xq_iconst (n := 648) (v := (1 : Int32)) dL_law_647 rfl rfl ?_
        refine xq_iadd (n := 649) dL_law_648 rfl ?_
        refine xq_sld (n := 650) dL_law_649 rfl ?_
        refine xq_sload_n (n := 651) dL_law_650 rfl rfl ?_
        refine xq_iload_n (n := 652) dL_law_651 rfl rfl ?_
        refine xq_iconst (n := 653) (v := (2 : Int32)) dL_law_652 rfl rfl ?_
        refine xq_iadd (n := 654) dL_law_653 rfl ?_
        refine xq_sld (n := 655) dL_law_654 rfl ?_
        refine yq_callvi (n := 658) (N := mt_X12_found) dL_law_655 rfl ok_X12_found tw_1235 im_X12_found se_X12_found ⟨Nat.le_of_ble_eq_true rfl, Nat.le_of_ble_eq_true rfl⟩ [.int (xs (Int32.toNatClampNeg (l3 + (1 : Int32)))), .int (xs (Int32.toNatClampNeg (l3 + (2 : Int32))))] [.int q65.1] rfl rfl (Nat.le_of_ble_eq_true rfl) rfl (Nat.le_of_ble_eq_true rfl) (en_X12_found m (xs (Int32.toNatClampNeg (l3 + (1 : Int32)))) (xs (Int32.toNatClampNeg (l3 + (2 : Int32)))) q65.2) sh_150 (by decide) rfl (fun q66 => ?_)
        refine xq_icmp_eq (n := 661) (tgt := 918) dL_law_658 rfl rfl (fun hc67 => ?_) (fun hc67 => ?_)
        · refine xq_iincl (n := 921) (dv := (5 : Int32)) (fun v68 => [some (.float 0), some (.ref 0), some (.ref 150), some (.int v68)]) dL_law_918 rfl rfl rfl (Nat.le_of_ble_eq_true rfl) (fun _ => rfl) (fun v68 => ?_)
          refine xq_goto (n := 18) dL_law_921 rfl ?_
          exact ih v68 q66.2
        · refine xq_iconst (n := 662) (v := (0 : Int32)) dL_law_661 rfl rfl ?_
          exact xq_zretc dL_law_662 rfl (Or.inl rfl) (hK _)
      refine xq_ite (fun hx17 => ?_) (fun hx17 => ?_)
      · refine xq_tsIn (c := (17 : Int32)) (off := 631) (tgt := 663) dL_law_32 hx17 (by decide) (by decide) rfl rfl ?_
        refine xq_aload_n (n := 664) dL_law_663 rfl rfl ?_
        refine xq_sload_n (n := 665) dL_law_664 rfl rfl ?_
        refine xq_iload_n (n := 666) dL_law_665 rfl rfl ?_
        refine xq_iconst (n := 667) (v := (1 : Int32)) dL_law_666 rfl rfl ?_
        refine xq_iadd (n := 668) dL_law_667 rfl ?_
        refine xq_sld (n := 669) dL_law_668 rfl ?_
        refine yq_callvi (n := 672) (N := mt_X11_by) dL_law_669 rfl ok_X11_by tw_678 im_X11_by se_X11_by ⟨Nat.le_of_ble_eq_true rfl, Nat.le_of_ble_eq_true rfl⟩ [.int (xs (Int32.toNatClampNeg (l3 + (1 : Int32))))] [] rfl rfl (Nat.le_of_ble_eq_true rfl) rfl (Nat.le_of_ble_eq_true rfl) (en_X11_by m (xs (Int32.toNatClampNeg (l3 + (1 : Int32)))) u0) sh_0 (by decide) rfl (fun q69 => ?_)
        refine xq_aload_n (n := 673) dL_law_672 rfl rfl ?_
        refine xq_sload_n (n := 674) dL_law_673 rfl rfl ?_
        refine xq_iload_n (n := 675) dL_law_674 rfl rfl ?_
        refine xq_iconst (n := 676) (v := (1 : Int32)) dL_law_675 rfl rfl ?_
        refine xq_iadd (n := 677) dL_law_676 rfl ?_
        refine xq_sld (n := 678) dL_law_677 rfl ?_
        refine yq_callvi (n := 681) (N := mt_X12_by) dL_law_678 rfl ok_X12_by tw_1239 im_X12_by se_X12_by ⟨Nat.le_of_ble_eq_true rfl, Nat.le_of_ble_eq_true rfl⟩ [.int (xs (Int32.toNatClampNeg (l3 + (1 : Int32))))] [.int q69.1] rfl rfl (Nat.le_of_ble_eq_true rfl) rfl (Nat.le_of_ble_eq_true rfl) (en_X12_by m (xs (Int32.toNatClampNeg (l3 + (1 : Int32)))) q69.2) sh_150 (by decide) rfl (fun q70 => ?_)
        refine xq_icmp_eq (n := 684) (tgt := 918) dL_law_681 rfl rfl (fun hc71 => ?_) (fun hc71 => ?_)
        · refine xq_iincl (n := 921) (dv := (5 : Int32)) (fun v72 => [some (.float 0), some (.ref 0), some (.ref 150), some (.int v72)]) dL_law_918 rfl rfl rfl (Nat.le_of_ble_eq_true rfl) (fun _ => rfl) (fun v72 => ?_)
          refine xq_goto (n := 18) dL_law_921 rfl ?_
          exact ih v72 q70.2
        · refine xq_iconst (n := 685) (v := (0 : Int32)) dL_law_684 rfl rfl ?_
          exact xq_zretc dL_law_685 rfl (Or.inl rfl) (hK _)
      refine xq_ite (fun hx18 => ?_) (fun hx18 => ?_)
      · refine xq_tsIn (c := (18 : Int32)) (off := 654) (tgt := 686) dL_law_32 hx18 (by decide) (by decide) rfl rfl ?_
        refine xq_aload_n (n := 687) dL_law_686 rfl rfl ?_
        refine yq_callvl (n := 690) (N := mt_X11_bound) dL_law_687 rfl ok_X11_bound tw_682 im_X11_bound se_X11_bound ⟨Nat.le_of_ble_eq_true rfl, Nat.le_of_ble_eq_true rfl⟩ [] [] rfl rfl (Nat.le_of_ble_eq_true rfl) rfl (Nat.le_of_ble_eq_true rfl) (en_X11_bound m u0) sh_0 (by decide) rfl (fun q73 => ?_)
        refine xq_aload_n (n := 691) dL_law_690 rfl rfl ?_
        refine yq_callvl (n := 694) (N := mt_X12_bound) dL_law_691 rfl ok_X12_bound tw_1243 im_X12_bound se_X12_bound ⟨Nat.le_of_ble_eq_true rfl, Nat.le_of_ble_eq_true rfl⟩ [] [.long q73.1] rfl rfl (Nat.le_of_ble_eq_true rfl) rfl (Nat.le_of_ble_eq_true rfl) (en_X12_bound m q73.2) sh_150 (by decide) rfl (fun q74 => ?_)
        refine xq_lif_eq (n := 698) (pc1 := 695) (tgt := 918) dL_law_694 rfl dL_law_695 rfl rfl (fun hc75 => ?_) (fun hc75 => ?_)
        · refine xq_iincl (n := 921) (dv := (5 : Int32)) (fun v76 => [some (.float 0), some (.ref 0), some (.ref 150), some (.int v76)]) dL_law_918 rfl rfl rfl (Nat.le_of_ble_eq_true rfl) (fun _ => rfl) (fun v76 => ?_)
          refine xq_goto (n := 18) dL_law_921 rfl ?_
          exact ih v76 q74.2
        · refine xq_iconst (n := 699) (v := (0 : Int32)) dL_law_698 rfl rfl ?_
          exact xq_zretc dL_law_699 rfl (Or.inl rfl) (hK _)
      refine xq_ite (fun hx19 => ?_) (fun hx19 => ?_)
      · refine xq_tsIn (c := (19 : Int32)) (off := 668) (tgt := 700) dL_law_32 hx19 (by decide) (by decide) rfl rfl ?_
        refine xq_aload_n (n := 701) dL_law_700 rfl rfl ?_
        refine xq_sload_n (n := 702) dL_law_701 rfl rfl ?_
        refine xq_iload_n (n := 703) dL_law_702 rfl rfl ?_
        refine xq_iconst (n := 704) (v := (1 : Int32)) dL_law_703 rfl rfl ?_
        refine xq_iadd (n := 705) dL_law_704 rfl ?_
        refine xq_sld (n := 706) dL_law_705 rfl ?_
        refine xq_sload_n (n := 707) dL_law_706 rfl rfl ?_
        refine xq_iload_n (n := 708) dL_law_707 rfl rfl ?_
        refine xq_iconst (n := 709) (v := (2 : Int32)) dL_law_708 rfl rfl ?_
        refine xq_iadd (n := 710) dL_law_709 rfl ?_
        refine xq_sld (n := 711) dL_law_710 rfl ?_
        refine xq_sload_n (n := 712) dL_law_711 rfl rfl ?_
        refine xq_iload_n (n := 713) dL_law_712 rfl rfl ?_
        refine xq_iconst (n := 714) (v := (3 : Int32)) dL_law_713 rfl rfl ?_
        refine xq_iadd (n := 715) dL_law_714 rfl ?_
        refine xq_sld (n := 716) dL_law_715 rfl ?_
        refine yq_callvi (n := 719) (N := mt_X11_begin) dL_law_716 rfl ok_X11_begin tw_700 im_X11_begin se_X11_begin ⟨Nat.le_of_ble_eq_true rfl, Nat.le_of_ble_eq_true rfl⟩ [.int (xs (Int32.toNatClampNeg (l3 + (1 : Int32)))), .int (xs (Int32.toNatClampNeg (l3 + (2 : Int32)))), .int (xs (Int32.toNatClampNeg (l3 + (3 : Int32))))] [] rfl rfl (Nat.le_of_ble_eq_true rfl) rfl (Nat.le_of_ble_eq_true rfl) (en_X11_begin m (xs (Int32.toNatClampNeg (l3 + (1 : Int32)))) (xs (Int32.toNatClampNeg (l3 + (2 : Int32)))) (xs (Int32.toNatClampNeg (l3 + (3 : Int32)))) u0) sh_0 (by decide) rfl (fun q77 => ?_)
        refine xq_aload_n (n := 720) dL_law_719 rfl rfl ?_
        refine xq_sload_n (n := 721) dL_law_720 rfl rfl ?_
        refine xq_iload_n (n := 722) dL_law_721 rfl rfl ?_
        refine xq_iconst (n := 723) (v := (1 : Int32)) dL_law_722 rfl rfl ?_
        refine xq_iadd (n := 724) dL_law_723 rfl ?_
        refine xq_sld (n := 725) dL_law_724 rfl ?_
        refine xq_sload_n (n := 726) dL_law_725 rfl rfl ?_
        refine xq_iload_n (n := 727) dL_law_726 rfl rfl ?_
        refine xq_iconst (n := 728) (v := (2 : Int32)) dL_law_727 rfl rfl ?_
        refine xq_iadd (n := 729) dL_law_728 rfl ?_
        refine xq_sld (n := 730) dL_law_729 rfl ?_
        refine xq_sload_n (n := 731) dL_law_730 rfl rfl ?_
        refine xq_iload_n (n := 732) dL_law_731 rfl rfl ?_
        refine xq_iconst (n := 733) (v := (3 : Int32)) dL_law_732 rfl rfl ?_
        refine xq_iadd (n := 734) dL_law_733 rfl ?_
        refine xq_sld (n := 735) dL_law_734 rfl ?_
        refine yq_callvi (n := 738) (N := mt_X12_begin) dL_law_735 rfl ok_X12_begin tw_1248 im_X12_begin se_X12_begin ⟨Nat.le_of_ble_eq_true rfl, Nat.le_of_ble_eq_true rfl⟩ [.int (xs (Int32.toNatClampNeg (l3 + (1 : Int32)))), .int (xs (Int32.toNatClampNeg (l3 + (2 : Int32)))), .int (xs (Int32.toNatClampNeg (l3 + (3 : Int32))))] [.int q77.1] rfl rfl (Nat.le_of_ble_eq_true rfl) rfl (Nat.le_of_ble_eq_true rfl) (en_X12_begin m (xs (Int32.toNatClampNeg (l3 + (1 : Int32)))) (xs (Int32.toNatClampNeg (l3 + (2 : Int32)))) (xs (Int32.toNatClampNeg (l3 + (3 : Int32)))) q77.2) sh_150 (by decide) rfl (fun q78 => ?_)
        refine xq_icmp_eq (n := 741) (tgt := 918) dL_law_738 rfl rfl (fun hc79 => ?_) (fun hc79 => ?_)
        · refine xq_iincl (n := 921) (dv := (5 : Int32)) (fun v80 => [some (.float 0), some (.ref 0), some (.ref 150), some (.int v80)]) dL_law_918 rfl rfl rfl (Nat.le_of_ble_eq_true rfl) (fun _ => rfl) (fun v80 => ?_)
          refine xq_goto (n := 18) dL_law_921 rfl ?_
          exact ih v80 q78.2
        · refine xq_iconst (n := 742) (v := (0 : Int32)) dL_law_741 rfl rfl ?_
          exact xq_zretc dL_law_742 rfl (Or.inl rfl) (hK _)
      refine xq_ite (fun hx20 => ?_) (fun hx20 => ?_)
      · refine xq_tsIn (c := (20 : Int32)) (off := 711) (tgt := 743) dL_law_32 hx20 (by decide) (by decide) rfl rfl ?_
        refine xq_aload_n (n := 744) dL_law_743 rfl rfl ?_
        refine xq_sload_n (n := 745) dL_law_744 rfl rfl ?_
        refine xq_iload_n (n := 746) dL_law_745 rfl rfl ?_
        refine xq_iconst (n := 747) (v := (1 : Int32)) dL_law_746 rfl rfl ?_
        refine xq_iadd (n := 748) dL_law_747 rfl ?_
        refine xq_sld (n := 749) dL_law_748 rfl ?_
        refine yq_callvi (n := 752) (N := mt_X11_round) dL_law_749 rfl ok_X11_round tw_713 im_X11_round se_X11_round ⟨Nat.le_of_ble_eq_true rfl, Nat.le_of_ble_eq_true rfl⟩ [.int (xs (Int32.toNatClampNeg (l3 + (1 : Int32))))] [] rfl rfl (Nat.le_of_ble_eq_true rfl) rfl (Nat.le_of_ble_eq_true rfl) (en_X11_round m (xs (Int32.toNatClampNeg (l3 + (1 : Int32)))) u0) sh_0 (by decide) rfl (fun q81 => ?_)
        refine xq_aload_n (n := 753) dL_law_752 rfl rfl ?_
        refine xq_sload_n (n := 754) dL_law_753 rfl rfl ?_
        refine xq_iload_n (n := 755) dL_law_754 rfl rfl ?_
        refine xq_iconst (n := 756) (v := (1 : Int32)) dL_law_755 rfl rfl ?_
        refine xq_iadd (n := 757) dL_law_756 rfl ?_
        refine xq_sld (n := 758) dL_law_757 rfl ?_
        refine yq_callvi (n := 761) (N := mt_X12_round) dL_law_758 rfl ok_X12_round tw_1253 im_X12_round se_X12_round ⟨Nat.le_of_ble_eq_true rfl, Nat.le_of_ble_eq_true rfl⟩ [.int (xs (Int32.toNatClampNeg (l3 + (1 : Int32))))] [.int q81.1] rfl rfl (Nat.le_of_ble_eq_true rfl) rfl (Nat.le_of_ble_eq_true rfl) (en_X12_round m (xs (Int32.toNatClampNeg (l3 + (1 : Int32)))) q81.2) sh_150 (by decide) rfl (fun q82 => ?_)
        refine xq_icmp_eq (n := 764) (tgt := 918) dL_law_761 rfl rfl (fun hc83 => ?_) (fun hc83 => ?_)
        · refine xq_iincl (n := 921) (dv := (5 : Int32)) (fun v84 => [some (.float 0), some (.ref 0), some (.ref 150), some (.int v84)]) dL_law_918 rfl rfl rfl (Nat.le_of_ble_eq_true rfl) (fun _ => rfl) (fun v84 => ?_)
          refine xq_goto (n := 18) dL_law_921 rfl ?_
          exact ih v84 q82.2
        · refine xq_iconst (n := 765) (v := (0 : Int32)) dL_law_764 rfl rfl ?_
          exact xq_zretc dL_law_765 rfl (Or.inl rfl) (hK _)
      refine xq_ite (fun hx21 => ?_) (fun hx21 => ?_)
      · refine xq_tsIn (c := (21 : Int32)) (off := 734) (tgt := 766) dL_law_32 hx21 (by decide) (by decide) rfl rfl ?_
        refine xq_aload_n (n := 767) dL_law_766 rfl rfl ?_
        refine xq_sload_n (n := 768) dL_law_767 rfl rfl ?_
        refine xq_iload_n (n := 769) dL_law_768 rfl rfl ?_
        refine xq_iconst (n := 770) (v := (1 : Int32)) dL_law_769 rfl rfl ?_
        refine xq_iadd (n := 771) dL_law_770 rfl ?_
        refine xq_sld (n := 772) dL_law_771 rfl ?_
        refine xq_sload_n (n := 773) dL_law_772 rfl rfl ?_
        refine xq_iload_n (n := 774) dL_law_773 rfl rfl ?_
        refine xq_iconst (n := 775) (v := (2 : Int32)) dL_law_774 rfl rfl ?_
        refine xq_iadd (n := 776) dL_law_775 rfl ?_
        refine xq_sld (n := 777) dL_law_776 rfl ?_
        refine yq_callvl (n := 780) (N := mt_X11_box) dL_law_777 rfl ok_X11_box tw_765 im_X11_box se_X11_box ⟨Nat.le_of_ble_eq_true rfl, Nat.le_of_ble_eq_true rfl⟩ [.int (xs (Int32.toNatClampNeg (l3 + (1 : Int32)))), .int (xs (Int32.toNatClampNeg (l3 + (2 : Int32))))] [] rfl rfl (Nat.le_of_ble_eq_true rfl) rfl (Nat.le_of_ble_eq_true rfl) (en_X11_box m (xs (Int32.toNatClampNeg (l3 + (1 : Int32)))) (xs (Int32.toNatClampNeg (l3 + (2 : Int32)))) u0) sh_0 (by decide) rfl (fun q85 => ?_)
        refine xq_aload_n (n := 781) dL_law_780 rfl rfl ?_
        refine xq_sload_n (n := 782) dL_law_781 rfl rfl ?_
        refine xq_iload_n (n := 783) dL_law_782 rfl rfl ?_
        refine xq_iconst (n := 784) (v := (1 : Int32)) dL_law_783 rfl rfl ?_
        refine xq_iadd (n := 785) dL_law_784 rfl ?_
        refine xq_sld (n := 786) dL_law_785 rfl ?_
        refine xq_sload_n (n := 787) dL_law_786 rfl rfl ?_
        refine xq_iload_n (n := 788) dL_law_787 rfl rfl ?_
        refine xq_iconst (n := 789) (v := (2 : Int32)) dL_law_788 rfl rfl ?_
        refine xq_iadd (n := 790) dL_law_789 rfl ?_
        refine xq_sld (n := 791) dL_law_790 rfl ?_
        refine yq_callvl (n := 794) (N := mt_X12_box) dL_law_791 rfl ok_X12_box tw_1275 im_X12_box se_X12_box ⟨Nat.le_of_ble_eq_true rfl, Nat.le_of_ble_eq_true rfl⟩ [.int (xs (Int32.toNatClampNeg (l3 + (1 : Int32)))), .int (xs (Int32.toNatClampNeg (l3 + (2 : Int32))))] [.long q85.1] rfl rfl (Nat.le_of_ble_eq_true rfl) rfl (Nat.le_of_ble_eq_true rfl) (en_X12_box m (xs (Int32.toNatClampNeg (l3 + (1 : Int32)))) (xs (Int32.toNatClampNeg (l3 + (2 : Int32)))) q85.2) sh_150 (by decide) rfl (fun q86 => ?_)
        refine xq_lif_eq (n := 798) (pc1 := 795) (tgt := 918) dL_law_794 rfl dL_law_795 rfl rfl (fun hc87 => ?_) (fun hc87 => ?_)
        · refine xq_iincl (n := 921) (dv := (5 : Int32)) (fun v88 => [some (.float 0), some (.ref 0), some (.ref 150), some (.int v88)]) dL_law_918 rfl rfl rfl (Nat.le_of_ble_eq_true rfl) (fun _ => rfl) (fun v88 => ?_)
          refine xq_goto (n := 18) dL_law_921 rfl ?_
          exact ih v88 q86.2
        · refine xq_iconst (n := 799) (v := (0 : Int32)) dL_law_798 rfl rfl ?_
          exact xq_zretc dL_law_799 rfl (Or.inl rfl) (hK _)
      refine xq_ite (fun hx22 => ?_) (fun hx22 => ?_)
      · refine xq_tsIn (c := (22 : Int32)) (off := 768) (tgt := 800) dL_law_32 hx22 (by decide) (by decide) rfl rfl ?_
        refine xq_aload_n (n := 801) dL_law_800 rfl rfl ?_
        refine yq_callvi (n := 804) (N := mt_X11_open) dL_law_801 rfl ok_X11_open tw_770 im_X11_open se_X11_open ⟨Nat.le_of_ble_eq_true rfl, Nat.le_of_ble_eq_true rfl⟩ [] [] rfl rfl (Nat.le_of_ble_eq_true rfl) rfl (Nat.le_of_ble_eq_true rfl) (en_X11_open m u0) sh_0 (by decide) rfl (fun q89 => ?_)
        refine xq_aload_n (n := 805) dL_law_804 rfl rfl ?_
        refine yq_callvi (n := 808) (N := mt_X12_open) dL_law_805 rfl ok_X12_open tw_1280 im_X12_open se_X12_open ⟨Nat.le_of_ble_eq_true rfl, Nat.le_of_ble_eq_true rfl⟩ [] [.int q89.1] rfl rfl (Nat.le_of_ble_eq_true rfl) rfl (Nat.le_of_ble_eq_true rfl) (en_X12_open m q89.2) sh_150 (by decide) rfl (fun q90 => ?_)
        refine xq_icmp_eq (n := 811) (tgt := 918) dL_law_808 rfl rfl (fun hc91 => ?_) (fun hc91 => ?_)
        · refine xq_iincl (n := 921) (dv := (5 : Int32)) (fun v92 => [some (.float 0), some (.ref 0), some (.ref 150), some (.int v92)]) dL_law_918 rfl rfl rfl (Nat.le_of_ble_eq_true rfl) (fun _ => rfl) (fun v92 => ?_)
          refine xq_goto (n := 18) dL_law_921 rfl ?_
          exact ih v92 q90.2
        · refine xq_iconst (n := 812) (v := (0 : Int32)) dL_law_811 rfl rfl ?_
          exact xq_zretc dL_law_812 rfl (Or.inl rfl) (hK _)
      refine xq_ite (fun hx23 => ?_) (fun hx23 => ?_)
      · refine xq_tsIn (c := (23 : Int32)) (off := 781) (tgt := 813) dL_law_32 hx23 (by decide) (by decide) rfl rfl ?_
        refine xq_aload_n (n := 814) dL_law_813 rfl rfl ?_
        refine xq_sload_n (n := 815) dL_law_814 rfl rfl ?_
        refine xq_iload_n (n := 816) dL_law_815 rfl rfl ?_
        refine xq_iconst (n := 817) (v := (1 : Int32)) dL_law_816 rfl rfl ?_
        refine xq_iadd (n := 818) dL_law_817 rfl ?_
        refine xq_sld (n := 819) dL_law_818 rfl ?_
        refine xq_sload_n (n := 820) dL_law_819 rfl rfl ?_
        refine xq_iload_n (n := 821) dL_law_820 rfl rfl ?_
        refine xq_iconst (n := 822) (v := (2 : Int32)) dL_law_821 rfl rfl ?_
        refine xq_iadd (n := 823) dL_law_822 rfl ?_
        refine xq_sld (n := 824) dL_law_823 rfl ?_
        refine xq_sload_n (n := 825) dL_law_824 rfl rfl ?_
        refine xq_iload_n (n := 826) dL_law_825 rfl rfl ?_
        refine xq_iconst (n := 827) (v := (3 : Int32)) dL_law_826 rfl rfl ?_
        refine xq_iadd (n := 828) dL_law_827 rfl ?_
        refine xq_sld (n := 829) dL_law_828 rfl ?_
        refine yq_callvi (n := 832) (N := mt_X11_call) dL_law_829 rfl ok_X11_call tw_774 im_X11_call se_X11_call ⟨Nat.le_of_ble_eq_true rfl, Nat.le_of_ble_eq_true rfl⟩ [.int (xs (Int32.toNatClampNeg (l3 + (1 : Int32)))), .int (xs (Int32.toNatClampNeg (l3 + (2 : Int32)))), .int (xs (Int32.toNatClampNeg (l3 + (3 : Int32))))] [] rfl rfl (Nat.le_of_ble_eq_true rfl) rfl (Nat.le_of_ble_eq_true rfl) (en_X11_call m (xs (Int32.toNatClampNeg (l3 + (1 : Int32)))) (xs (Int32.toNatClampNeg (l3 + (2 : Int32)))) (xs (Int32.toNatClampNeg (l3 + (3 : Int32)))) u0) sh_0 (by decide) rfl (fun q93 => ?_)
        refine xq_aload_n (n := 833) dL_law_832 rfl rfl ?_
        refine xq_sload_n (n := 834) dL_law_833 rfl rfl ?_
        refine xq_iload_n (n := 835) dL_law_834 rfl rfl ?_
        refine xq_iconst (n := 836) (v := (1 : Int32)) dL_law_835 rfl rfl ?_
        refine xq_iadd (n := 837) dL_law_836 rfl ?_
        refine xq_sld (n := 838) dL_law_837 rfl ?_
        refine xq_sload_n (n := 839) dL_law_838 rfl rfl ?_
        refine xq_iload_n (n := 840) dL_law_839 rfl rfl ?_
        refine xq_iconst (n := 841) (v := (2 : Int32)) dL_law_840 rfl rfl ?_
        refine xq_iadd (n := 842) dL_law_841 rfl ?_
        refine xq_sld (n := 843) dL_law_842 rfl ?_
        refine xq_sload_n (n := 844) dL_law_843 rfl rfl ?_
        refine xq_iload_n (n := 845) dL_law_844 rfl rfl ?_
        refine xq_iconst (n := 846) (v := (3 : Int32)) dL_law_845 rfl rfl ?_
        refine xq_iadd (n := 847) dL_law_846 rfl ?_
        refine xq_sld (n := 848) dL_law_847 rfl ?_
        refine yq_callvi (n := 851) (N := mt_X12_call) dL_law_848 rfl ok_X12_call tw_1284 im_X12_call se_X12_call ⟨Nat.le_of_ble_eq_true rfl, Nat.le_of_ble_eq_true rfl⟩ [.int (xs (Int32.toNatClampNeg (l3 + (1 : Int32)))), .int (xs (Int32.toNatClampNeg (l3 + (2 : Int32)))), .int (xs (Int32.toNatClampNeg (l3 + (3 : Int32))))] [.int q93.1] rfl rfl (Nat.le_of_ble_eq_true rfl) rfl (Nat.le_of_ble_eq_true rfl) (en_X12_call m (xs (Int32.toNatClampNeg (l3 + (1 : Int32)))) (xs (Int32.toNatClampNeg (l3 + (2 : Int32)))) (xs (Int32.toNatClampNeg (l3 + (3 : Int32)))) q93.2) sh_150 (by decide) rfl (fun q94 => ?_)
        refine xq_icmp_eq (n := 854) (tgt := 918) dL_law_851 rfl rfl (fun hc95 => ?_) (fun hc95 => ?_)
        · refine xq_iincl (n := 921) (dv := (5 : Int32)) (fun v96 => [some (.float 0), some (.ref 0), some (.ref 150), some (.int v96)]) dL_law_918 rfl rfl rfl (Nat.le_of_ble_eq_true rfl) (fun _ => rfl) (fun v96 => ?_)
          refine xq_goto (n := 18) dL_law_921 rfl ?_
          exact ih v96 q94.2
        · refine xq_iconst (n := 855) (v := (0 : Int32)) dL_law_854 rfl rfl ?_
          exact xq_zretc dL_law_855 rfl (Or.inl rfl) (hK _)
      refine xq_ite (fun hx24 => ?_) (fun hx24 => ?_)
      · refine xq_tsIn (c := (24 : Int32)) (off := 824) (tgt := 856) dL_law_32 hx24 (by decide) (by decide) rfl rfl ?_
        refine xq_aload_n (n := 857) dL_law_856 rfl rfl ?_
        refine yq_callvi (n := 860) (N := mt_X11_clear) dL_law_857 rfl ok_X11_clear tw_793 im_X11_clear se_X11_clear ⟨Nat.le_of_ble_eq_true rfl, Nat.le_of_ble_eq_true rfl⟩ [] [] rfl rfl (Nat.le_of_ble_eq_true rfl) rfl (Nat.le_of_ble_eq_true rfl) (en_X11_clear m u0) sh_0 (by decide) rfl (fun q97 => ?_)
        refine xq_aload_n (n := 861) dL_law_860 rfl rfl ?_
        refine yq_callvi (n := 864) (N := mt_X12_clear) dL_law_861 rfl ok_X12_clear tw_1289 im_X12_clear se_X12_clear ⟨Nat.le_of_ble_eq_true rfl, Nat.le_of_ble_eq_true rfl⟩ [] [.int q97.1] rfl rfl (Nat.le_of_ble_eq_true rfl) rfl (Nat.le_of_ble_eq_true rfl) (en_X12_clear m q97.2) sh_150 (by decide) rfl (fun q98 => ?_)
        refine xq_icmp_eq (n := 867) (tgt := 918) dL_law_864 rfl rfl (fun hc99 => ?_) (fun hc99 => ?_)
        · refine xq_iincl (n := 921) (dv := (5 : Int32)) (fun v100 => [some (.float 0), some (.ref 0), some (.ref 150), some (.int v100)]) dL_law_918 rfl rfl rfl (Nat.le_of_ble_eq_true rfl) (fun _ => rfl) (fun v100 => ?_)
          refine xq_goto (n := 18) dL_law_921 rfl ?_
          exact ih v100 q98.2
        · refine xq_iconst (n := 868) (v := (0 : Int32)) dL_law_867 rfl rfl ?_
          exact xq_zretc dL_law_868 rfl (Or.inl rfl) (hK _)
      refine xq_ite (fun hx25 => ?_) (fun hx25 => ?_)
      · refine xq_tsIn (c := (25 : Int32)) (off := 837) (tgt := 869) dL_law_32 hx25 (by decide) (by decide) rfl rfl ?_
        refine xq_aload_n (n := 870) dL_law_869 rfl rfl ?_
        refine yq_callvi (n := 873) (N := mt_X11_ending) dL_law_870 rfl ok_X11_ending tw_801 im_X11_ending se_X11_ending ⟨Nat.le_of_ble_eq_true rfl, Nat.le_of_ble_eq_true rfl⟩ [] [] rfl rfl (Nat.le_of_ble_eq_true rfl) rfl (Nat.le_of_ble_eq_true rfl) (en_X11_ending m u0) sh_0 (by decide) rfl (fun q101 => ?_)
        refine xq_aload_n (n := 874) dL_law_873 rfl rfl ?_
        refine yq_callvi (n := 877) (N := mt_X12_ending) dL_law_874 rfl ok_X12_ending tw_1293 im_X12_ending se_X12_ending ⟨Nat.le_of_ble_eq_true rfl, Nat.le_of_ble_eq_true rfl⟩ [] [.int q101.1] rfl rfl (Nat.le_of_ble_eq_true rfl) rfl (Nat.le_of_ble_eq_true rfl) (en_X12_ending m q101.2) sh_150 (by decide) rfl (fun q102 => ?_)
        refine xq_icmp_eq (n := 880) (tgt := 918) dL_law_877 rfl rfl (fun hc103 => ?_) (fun hc103 => ?_)
        · refine xq_iincl (n := 921) (dv := (5 : Int32)) (fun v104 => [some (.float 0), some (.ref 0), some (.ref 150), some (.int v104)]) dL_law_918 rfl rfl rfl (Nat.le_of_ble_eq_true rfl) (fun _ => rfl) (fun v104 => ?_)
          refine xq_goto (n := 18) dL_law_921 rfl ?_
          exact ih v104 q102.2
        · refine xq_iconst (n := 881) (v := (0 : Int32)) dL_law_880 rfl rfl ?_
          exact xq_zretc dL_law_881 rfl (Or.inl rfl) (hK _)
      refine xq_ite (fun hx26 => ?_) (fun hx26 => ?_)
      · refine xq_tsIn (c := (26 : Int32)) (off := 850) (tgt := 882) dL_law_32 hx26 (by decide) (by decide) rfl rfl ?_
        refine xq_aload_n (n := 883) dL_law_882 rfl rfl ?_
        refine yq_callvi (n := 886) (N := mt_X11_made) dL_law_883 rfl ok_X11_made tw_848 im_X11_made se_X11_made ⟨Nat.le_of_ble_eq_true rfl, Nat.le_of_ble_eq_true rfl⟩ [] [] rfl rfl (Nat.le_of_ble_eq_true rfl) rfl (Nat.le_of_ble_eq_true rfl) (en_X11_made m u0) sh_0 (by decide) rfl (fun q105 => ?_)
        refine xq_aload_n (n := 887) dL_law_886 rfl rfl ?_
        refine yq_callvi (n := 890) (N := mt_X12_made) dL_law_887 rfl ok_X12_made tw_1316 im_X12_made se_X12_made ⟨Nat.le_of_ble_eq_true rfl, Nat.le_of_ble_eq_true rfl⟩ [] [.int q105.1] rfl rfl (Nat.le_of_ble_eq_true rfl) rfl (Nat.le_of_ble_eq_true rfl) (en_X12_made m q105.2) sh_150 (by decide) rfl (fun q106 => ?_)
        refine xq_icmp_eq (n := 893) (tgt := 918) dL_law_890 rfl rfl (fun hc107 => ?_) (fun hc107 => ?_)
        · refine xq_iincl (n := 921) (dv := (5 : Int32)) (fun v108 => [some (.float 0), some (.ref 0), some (.ref 150), some (.int v108)]) dL_law_918 rfl rfl rfl (Nat.le_of_ble_eq_true rfl) (fun _ => rfl) (fun v108 => ?_)
          refine xq_goto (n := 18) dL_law_921 rfl ?_
          exact ih v108 q106.2
        · refine xq_iconst (n := 894) (v := (0 : Int32)) dL_law_893 rfl rfl ?_
          exact xq_zretc dL_law_894 rfl (Or.inl rfl) (hK _)
      refine xq_ite (fun hx27 => ?_) (fun hx27 => ?_)
      · refine xq_tsIn (c := (27 : Int32)) (off := 863) (tgt := 895) dL_law_32 hx27 (by decide) (by decide) rfl rfl ?_
        refine xq_aload_n (n := 896) dL_law_895 rfl rfl ?_
        refine xq_sload_n (n := 897) dL_law_896 rfl rfl ?_
        refine xq_iload_n (n := 898) dL_law_897 rfl rfl ?_
        refine xq_iconst (n := 899) (v := (1 : Int32)) dL_law_898 rfl rfl ?_
        refine xq_iadd (n := 900) dL_law_899 rfl ?_
        refine xq_sld (n := 901) dL_law_900 rfl ?_
        refine yq_callvi (n := 904) (N := mt_X11_witness) dL_law_901 rfl ok_X11_witness tw_852 im_X11_witness se_X11_witness ⟨Nat.le_of_ble_eq_true rfl, Nat.le_of_ble_eq_true rfl⟩ [.int (xs (Int32.toNatClampNeg (l3 + (1 : Int32))))] [] rfl rfl (Nat.le_of_ble_eq_true rfl) rfl (Nat.le_of_ble_eq_true rfl) (en_X11_witness m (xs (Int32.toNatClampNeg (l3 + (1 : Int32)))) u0) sh_0 (by decide) rfl (fun q109 => ?_)
        refine xq_aload_n (n := 905) dL_law_904 rfl rfl ?_
        refine xq_sload_n (n := 906) dL_law_905 rfl rfl ?_
        refine xq_iload_n (n := 907) dL_law_906 rfl rfl ?_
        refine xq_iconst (n := 908) (v := (1 : Int32)) dL_law_907 rfl rfl ?_
        refine xq_iadd (n := 909) dL_law_908 rfl ?_
        refine xq_sld (n := 910) dL_law_909 rfl ?_
        refine yq_callvi (n := 913) (N := mt_X12_witness) dL_law_910 rfl ok_X12_witness tw_1320 im_X12_witness se_X12_witness ⟨Nat.le_of_ble_eq_true rfl, Nat.le_of_ble_eq_true rfl⟩ [.int (xs (Int32.toNatClampNeg (l3 + (1 : Int32))))] [.int q109.1] rfl rfl (Nat.le_of_ble_eq_true rfl) rfl (Nat.le_of_ble_eq_true rfl) (en_X12_witness m (xs (Int32.toNatClampNeg (l3 + (1 : Int32)))) q109.2) sh_150 (by decide) rfl (fun q110 => ?_)
        refine xq_icmp_eq (n := 916) (tgt := 918) dL_law_913 rfl rfl (fun hc111 => ?_) (fun hc111 => ?_)
        · refine xq_iincl (n := 921) (dv := (5 : Int32)) (fun v112 => [some (.float 0), some (.ref 0), some (.ref 150), some (.int v112)]) dL_law_918 rfl rfl rfl (Nat.le_of_ble_eq_true rfl) (fun _ => rfl) (fun v112 => ?_)
          refine xq_goto (n := 18) dL_law_921 rfl ?_
          exact ih v112 q110.2
        · refine xq_iconst (n := 917) (v := (0 : Int32)) dL_law_916 rfl rfl ?_
          exact xq_zretc dL_law_917 rfl (Or.inl rfl) (hK _)
      refine xq_tsOut (tgt := 918) dL_law_32 ?_ rfl ?_
      · exact sw_28 hx0 hx1 hx2 hx3 hx4 hx5 hx6 hx7 hx8 hx9 hx10 hx11 hx12 hx13 hx14 hx15 hx16 hx17 hx18 hx19 hx20 hx21 hx22 hx23 hx24 hx25 hx26 hx27
      · refine xq_iincl (n := 921) (dv := (5 : Int32)) (fun v113 => [some (.float 0), some (.ref 0), some (.ref 150), some (.int v113)]) dL_law_918 rfl rfl rfl (Nat.le_of_ble_eq_true rfl) (fun _ => rfl) (fun v113 => ?_)
        refine xq_goto (n := 18) dL_law_921 rfl ?_
        exact ih v113 u0
