/-! one turn from a point, runs -/
def far_ (v : Int64) : Bool := decide (v < -1000000000000) || decide (1000000000000 < v)
def mv_ (c : xm_Y) (b : Nat) (X : Int64 × Int64 × Int64) : Option (Int64 × Int64 × Int64) := if far_ (af_ c (21 + 24 * b + 2 * 0) X) = true then none else if far_ (af_ c (21 + 24 * b + 2 * 1) X) = true then none else if far_ (af_ c (21 + 24 * b + 2 * 2) X) = true then none else some (af_ c (21 + 24 * b + 2 * 0) X, af_ c (21 + 24 * b + 2 * 1) X, af_ c (21 + 24 * b + 2 * 2) X)
def ov_ (d : xm_Y) (n b i : Nat) (X : Int64 × Int64 × Int64) : Int64 := if n ≤ i then 0 else of_ d 153 ((3 * b + i) * 4) X
def md2_ (d : xm_Y) (n b : Nat) (X : Int64 × Int64 × Int64) : Option (Int64 × Int64 × Int64) := if far_ (ov_ d n b 0 X) = true then none else if far_ (ov_ d n b 1 X) = true then none else if far_ (ov_ d n b 2 X) = true then none else some (ov_ d n b 0 X, ov_ d n b 1 X, ov_ d n b 2 X)
theorem ev_isBeyond (m : Nat) (v : Int64) (u : xm_Y) : fn_X11_isBeyond m v 1000000000000 u = some (if far_ v = true then 1 else 0, u) := by
  rw [fn_X11_isBeyond, show -(1000000000000 : Int64) = -1000000000000 from rfl]
  unfold far_
  by_cases h : v < -1000000000000
  · rw [if_pos h, decide_eq_true h]; rfl
  · rw [if_neg h, decide_eq_false h]
    by_cases g : v ≤ 1000000000000
    · rw [if_pos g, decide_eq_false (Int64.not_lt.mpr g)]; rfl
    · rw [if_neg g, decide_eq_true (Int64.not_le.mp g)]; rfl
theorem ev_isFar (m : Nat) (v : Int64) (u : xm_Y) : fn_X12_isFar m v u = some (if far_ v = true then 1 else 0, u) := by
  rw [fn_X12_isFar]
  unfold far_
  by_cases h : v < -1000000000000
  · rw [decide_eq_true h]
    have g : ¬ (1000000000000 : Int64) < v := fun g => absurd (Int64.lt_trans g h) (by decide)
    rw [if_neg g, if_neg (Int64.not_le.mpr h)]; rfl
  · rw [decide_eq_false h]
    by_cases g : v ≤ 1000000000000
    · rw [if_neg (Int64.not_lt.mpr g), decide_eq_false (Int64.not_lt.mpr g), if_pos (Int64.not_lt.mp h)]; rfl
    · rw [if_pos (Int64.not_le.mp g), decide_eq_true (Int64.not_le.mp g)]; rfl
theorem ev_move (m b p : Nat) (u : xm_Y) : fn_X1_move m b p u = some (match mv_ u b (gt_ u p) with | none => (0, u) | some t => (1, pt_ u p t)) := by
  have i0 : xm_in (0 : Int32) 3 := by decide
  have i1 : xm_in (1 : Int32) 3 := by decide
  have i2 : xm_in (2 : Int32) 3 := by decide
  rw [fn_X1_move]
  simp only [ck_t i0, ck_t i1, ck_t i2, ev_valueAt, Option.bind_some, ev_isBeyond]
  unfold mv_
  have z : ¬ ((1 : Int32) = 0) := by decide
  have e0 : (0 : Int32).toNatClampNeg = 0 := rfl
  have e1 : (1 : Int32).toNatClampNeg = 1 := rfl
  have e2 : (2 : Int32).toNatClampNeg = 2 := rfl
  rw [e0, e1, e2]
  by_cases h0 : far_ (af_ u (21 + 24 * b + 2 * 0) (gt_ u p)) = true
  · rw [if_pos h0, if_neg z, if_pos h0]
  rw [if_neg h0, if_pos rfl, if_neg h0]
  by_cases h1 : far_ (af_ u (21 + 24 * b + 2 * 1) (gt_ u p)) = true
  · rw [if_pos h1, if_neg z, if_pos h1]
  rw [if_neg h1, if_pos rfl, if_neg h1]
  by_cases h2 : far_ (af_ u (21 + 24 * b + 2 * 2) (gt_ u p)) = true
  · rw [if_pos h2, if_neg z, if_pos h2]
  rw [if_neg h2, if_pos rfl, if_neg h2]
  rfl
def sc_ (c : xm_Y) (nb : Nat) (gc : Nat → Nat) (X : Int64 × Int64 × Int64) : Option (Option (Int64 × Int64 × Int64)) := match fb_ (hc_ c gc X) nb 0 with
  | none => none
  | some b => some (mv_ c b X)
def sd_ (d : xm_Y) (n nb : Nat) (gc : Nat → Nat) (X : Int64 × Int64 × Int64) : Option (Option (Int64 × Int64 × Int64)) := match fb_ (hd_ d gc X) nb 0 with
  | none => none
  | some b => some (md2_ d n b X)
theorem ev_step {m : Nat} (hm : 100 ≤ m) (p nb : Nat) (gc : Nat → Nat) (u : xm_Y) (h5 : nb ≤ 5) (hn : u.1 1 2 = nI nb) (hG : ∀ b, b < nb → u.1 (3 + 24 * b) 4 = nI (gc b) ∧ gc b ≤ 6) : fn_X7_step m p u = some (match sc_ u nb gc (gt_ u p) with | none => (1, u) | some none => (2, u) | some (some t) => (0, pt_ u p t)) := by
  rw [fn_X7_step, ev_chosen hm p nb gc u h5 hn hG]
  unfold sc_
  simp only [Option.bind_some]
  cases hf : fb_ (hc_ u gc (gt_ u p)) nb 0 with
  | none => rw [if_neg (by decide)]
  | some b =>
    have hb := fb_lt nb 0 hf
    have hle : (0 : Int32) ≤ nI b := by
      rw [Int32.le_iff_toInt_le, nI_u (by omega)]
      show (0 : Int) ≤ b
      omega
    show (if 0 ≤ nI b then xm_chk (xm_in (nI b) 5) ((fn_X1_move m (nI b).toNatClampNeg p u).bind _) else _) = _
    rw [if_pos hle, ck_t (nI_xi (by omega) (by omega)), nI_cl (by omega), ev_move]
    dsimp only
    cases hm : mv_ u b (gt_ u p) with
    | none => rfl
    | some t => rfl
theorem lt3c {i : Nat} (h : i < 3) : i = 0 ∨ i = 1 ∨ i = 2 := by omega
theorem rJ_eq {μ : xm_Y} {k j : Nat} {v : Int64} : (w_J μ k j v).2 k j = v := by
  show (if k = k then (if j = j then v else μ.2 k j) else μ.2 k j) = v
  rw [if_pos rfl, if_pos rfl]
theorem rJ_ne {μ : xm_Y} {k j k' j' : Nat} {v : Int64} (h : ¬ (k' = k ∧ j' = j)) : (w_J μ k j v).2 k' j' = μ.2 k' j' := by
  show (if k' = k then (if j' = j then v else μ.2 k' j') else μ.2 k' j') = μ.2 k' j'
  by_cases h1 : k' = k
  · rw [if_pos h1, if_neg (fun q => h ⟨h1, q⟩)]
  · rw [if_neg h1]
theorem ev_from1 (m b p n i f : Nat) (hb : b < 5) (hp : p ≠ 168) (hn3 : n ≤ 3) (hi : i < 3) (u : xm_Y) (hn : u.1 150 0 = nI n) : lp_X12_turnFrom_14 m p (nI b) (f + 1) (nI i) u = if far_ (ov_ u n b i (gt_ u p)) = true then some (.inl (-4, w_J u 168 i (ov_ u n b i (gt_ u p)))) else lp_X12_turnFrom_14 m p (nI b) f (nI (i + 1)) (w_J u 168 i (ov_ u n b i (gt_ u p))) := by
  have hA : ((3 : Int32) * nI b + nI i) * 4 = nI ((3 * b + i) * 4) := by
    rw [show (3 : Int32) = nI 3 from rfl, show (4 : Int32) = nI 4 from rfl, nI_mu, nI_ad, nI_mu]
  rw [lp_X12_turnFrom_14, if_neg (show ¬ (3 : Int32) ≤ nI i from fun q => absurd ((nIle (a := 3) (by omega) (by omega)).mp q) (by omega)), hA, ev_of m 153 60 _ p (by omega) (by decide), hn]
  have e : ((if nI n ≤ nI i then some ((0 : Int64), u) else (some (of_ u 153 ((3 * b + i) * 4) (gt_ u p), u)).bind fun q7 => some (q7.1, q7.2)) : Option (Int64 × xm_Y)) = some (ov_ u n b i (gt_ u p), u) := by
    unfold ov_
    by_cases h : n ≤ i
    · rw [if_pos h, if_pos ((nIle (by omega) (by omega)).mpr h)]
    · rw [if_neg h, if_neg (fun q => h ((nIle (by omega) (by omega)).mp q))]; rfl
  rw [e]
  simp only [Option.bind_some, xm_let]
  rw [ck_t (nI_xi hi (by omega)), ck_t (nI_xi hi (by omega)), nI_cl (by omega), rJ_eq, ev_isFar]
  simp only [Option.bind_some]
  by_cases h : far_ (ov_ u n b i (gt_ u p)) = true
  · rw [if_pos h, if_neg (by decide), if_pos h]
  · rw [if_neg h, if_pos rfl, if_neg h, nI_succ]
theorem gt_ne {u : xm_Y} {p k j : Nat} {v : Int64} (h : p ≠ k) : gt_ (w_J u k j v) p = gt_ u p := by
  unfold gt_
  rw [rJ_ne (by omega), rJ_ne (by omega), rJ_ne (by omega)]
theorem ov_J {u : xm_Y} {k j n b i : Nat} {v : Int64} {X : Int64 × Int64 × Int64} : ov_ (w_J u k j v) n b i X = ov_ u n b i X := rfl
theorem ev_from {m : Nat} (hm : 100 ≤ m) (p n nb : Nat) (gc : Nat → Nat) (u : xm_Y) (hp : p ≠ 168) (hn3 : n ≤ 3) (hn0 : u.1 150 0 = nI n) (h5 : nb ≤ 5) (hn : u.1 150 1 = nI nb) (hG : ∀ b, b < nb → u.1 151 b = nI (gc b) ∧ gc b ≤ 6) : ∃ u' : xm_Y, fn_X12_turnFrom m p u = some (match sd_ u n nb gc (gt_ u p) with | none => 0 | some none => -4 | some (some _) => 1, u') ∧ u'.1 = u.1 ∧ (∀ k, k ≠ 168 → k ≠ p → u'.2 k = u.2 k) ∧ gt_ u' p = (match sd_ u n nb gc (gt_ u p) with | some (some t) => t | _ => gt_ u p) := by
  obtain ⟨k, rfl⟩ := Nat.exists_eq_add_of_le' (show 10 ≤ m by omega)
  rw [fn_X12_turnFrom, ev_turnAt hm p nb gc u h5 hn hG]
  unfold sd_
  simp only [Option.bind_some]
  cases hf : fb_ (hd_ u gc (gt_ u p)) nb 0 with
  | none =>
    refine ⟨u, ?_, rfl, fun _ _ _ => rfl, rfl⟩
    show (if (0 : Int32) ≤ -1 then _ else _) = _
    rw [if_neg (by decide)]
  | some b =>
    have hb := fb_lt nb 0 hf
    have hle : (0 : Int32) ≤ nI b := by
      rw [Int32.le_iff_toInt_le, nI_u (by omega)]
      show (0 : Int) ≤ b
      omega
    dsimp only
    have s0 := ev_from1 (k + 10) b p n 0 (k + 9) (by omega) hp hn3 (by omega) u hn0
    have s1 := ev_from1 (k + 10) b p n 1 (k + 8) (by omega) hp hn3 (by omega) (w_J u 168 0 (ov_ u n b 0 (gt_ u p))) hn0
    have s2 := ev_from1 (k + 10) b p n 2 (k + 7) (by omega) hp hn3 (by omega) (w_J (w_J u 168 0 (ov_ u n b 0 (gt_ u p))) 168 1 (ov_ u n b 1 (gt_ u p))) hn0
    rw [gt_ne hp, ov_J] at s1
    rw [gt_ne hp, gt_ne hp, ov_J, ov_J] at s2
    show ∃ u', (if (0 : Int32) ≤ nI b then ((lp_X12_turnFrom_14 (k + 10) p (nI b) (k + 9 + 1) (nI 0) u).bind _) else _) = _ ∧ _
    rw [if_pos hle, s0]
    unfold md2_
    by_cases h0 : far_ (ov_ u n b 0 (gt_ u p)) = true
    · rw [if_pos h0, if_pos h0]
      refine ⟨_, rfl, rfl, fun q q1 q2 => rJ_nc q1, ?_⟩
      rw [gt_ne hp]
    rw [if_neg h0, if_neg h0, show k + 9 = k + 8 + 1 from rfl, show 0 + 1 = 1 from rfl, s1]
    by_cases h1 : far_ (ov_ u n b 1 (gt_ u p)) = true
    · rw [if_pos h1, if_pos h1]
      refine ⟨_, rfl, rfl, fun q q1 q2 => (rJ_nc q1).trans (rJ_nc q1), ?_⟩
      rw [gt_ne hp, gt_ne hp]
    rw [if_neg h1, if_neg h1, show k + 8 = k + 7 + 1 from rfl, show 1 + 1 = 2 from rfl, s2]
    by_cases h2 : far_ (ov_ u n b 2 (gt_ u p)) = true
    · rw [if_pos h2, if_pos h2]
      refine ⟨_, rfl, rfl, fun q q1 q2 => (rJ_nc q1).trans ((rJ_nc q1).trans (rJ_nc q1)), ?_⟩
      rw [gt_ne hp, gt_ne hp, gt_ne hp]
    rw [if_neg h2, if_neg h2]
    generalize ov_ u n b 0 (gt_ u p) = v0
    generalize ov_ u n b 1 (gt_ u p) = v1
    generalize ov_ u n b 2 (gt_ u p) = v2
    have r0 : (w_J (w_J (w_J u 168 0 v0) 168 1 v1) 168 2 v2).2 168 0 = v0 := by rw [rJ_ne (by omega), rJ_ne (by omega), rJ_eq]
    have r1 : (w_J (w_J (w_J u 168 0 v0) 168 1 v1) 168 2 v2).2 168 1 = v1 := by rw [rJ_ne (by omega), rJ_eq]
    have r2 : (w_J (w_J (w_J u 168 0 v0) 168 1 v1) 168 2 v2).2 168 2 = v2 := by rw [rJ_eq]
    have o : ∀ q, q ≠ 168 → (w_J (w_J (w_J u 168 0 v0) 168 1 v1) 168 2 v2).2 q = u.2 q := fun q q1 => (rJ_nc q1).trans ((rJ_nc q1).trans (rJ_nc q1))
    have o1 : (w_J (w_J (w_J u 168 0 v0) 168 1 v1) 168 2 v2).1 = u.1 := rfl
    generalize w_J (w_J (w_J u 168 0 v0) 168 1 v1) 168 2 v2 = z at r0 r1 r2 o o1
    have lp : lp_X12_turnFrom_75 (k + 10) p (k + 10) 0 z = some (3, w_J (w_J (w_J z p 0 (z.2 168 0)) p 1 ((w_J z p 0 (z.2 168 0)).2 168 1)) p 2 ((w_J (w_J z p 0 (z.2 168 0)) p 1 ((w_J z p 0 (z.2 168 0)).2 168 1)).2 168 2)) := rfl
    have e3 : lp_X12_turnFrom_14 (k + 10) p (nI b) (k + 7) (nI (2 + 1)) z = some (.inr (nI 3, z)) := rfl
    rw [e3]
    show ∃ u', (((lp_X12_turnFrom_75 (k + 10) p (k + 10) 0 z).bind fun q16 => some ((1 : Int32), q16.2)) = _) ∧ _
    rw [lp]
    refine ⟨_, rfl, o1, fun q q1 q2 => ?_, ?_⟩
    · exact (rJ_nc q2).trans ((rJ_nc q2).trans ((rJ_nc q2).trans (o q q1)))
    · unfold gt_
      rw [rJ_ne (by omega), rJ_ne (by omega), rJ_eq, rJ_ne (by omega), rJ_eq, rJ_eq, rJ_ne (by omega), rJ_ne (by omega), rJ_ne (by omega), r0, r1, r2]
/-- a point that may stand for the NUMBERS -/
def co_ (X : Int64 × Int64 × Int64) (i : Nat) : Int64 := if i = 0 then X.1 else if i = 1 then X.2.1 else X.2.2
def ok_ (n : Nat) (X : Int64 × Int64 × Int64) : Prop := ∀ i, i < 3 → -1000000000000 ≤ (co_ X i).toInt ∧ (co_ X i).toInt ≤ 1000000000000 ∧ (n ≤ i → co_ X i = 0)
theorem far_b {v : Int64} (h : ¬ far_ v = true) : -1000000000000 ≤ v.toInt ∧ v.toInt ≤ 1000000000000 := by
  unfold far_ at h
  rw [Bool.or_eq_true, decide_eq_true_iff, decide_eq_true_iff] at h
  have h1 : ¬ v < -1000000000000 := fun q => h (Or.inl q)
  have h2 : ¬ 1000000000000 < v := fun q => h (Or.inr q)
  rw [Int64.lt_iff_toInt_lt] at h1 h2
  have z : (-1000000000000 : Int64).toInt = -1000000000000 := rfl
  have z1 : (1000000000000 : Int64).toInt = 1000000000000 := rfl
  rw [z] at h1
  rw [z1] at h2
  omega
theorem af_id {c : xm_Y} {a i : Nat} (hi : i < 3) (h : ∀ k, k < 3 → c.1 (a + 1) k = if k = i then 1 else 0) (h0 : c.1 a 1 = 0) (X : Int64 × Int64 × Int64) : af_ c a X = co_ X i := by
  unfold af_ co_
  rw [h 0 (by omega), h 1 (by omega), h 2 (by omega), h0]
  have z0 : Int32.toInt64 0 = 0 := rfl
  have z1 : Int32.toInt64 1 = 1 := rfl
  rcases lt3c hi with rfl | rfl | rfl
  · rw [if_pos rfl, if_neg (by decide), if_neg (by decide), if_pos rfl, z0, z1, Int64.one_mul, Int64.zero_mul, Int64.zero_mul, Int64.add_zero, Int64.add_zero, Int64.add_zero]
  · rw [if_neg (by decide), if_pos rfl, if_neg (by decide), if_neg (by decide), if_pos rfl, z0, z1, Int64.one_mul, Int64.zero_mul, Int64.zero_mul, Int64.add_zero, Int64.add_zero, Int64.zero_add]
  · rw [if_neg (by decide), if_neg (by decide), if_pos rfl, if_neg (by decide), if_neg (by decide), z0, z1, Int64.one_mul, Int64.zero_mul, Int64.zero_mul, Int64.add_zero, Int64.add_zero, Int64.zero_add]
theorem mv_md {c d : xm_Y} {n nb : Nat} {gc : Nat → Nat} (h2 : iv_2 c d n nb gc) {X : Int64 × Int64 × Int64} (hX : ok_ n X) {b : Nat} (hb : b < nb) : mv_ c b X = md2_ d n b X := by
  obtain ⟨g1, g2, g3, g4, g5, g6⟩ := h2 b hb
  have e : ∀ i, i < 3 → af_ c (21 + 24 * b + 2 * i) X = ov_ d n b i X := by
    intro i hi
    unfold ov_
    by_cases h : n ≤ i
    · rw [if_pos h, af_id hi (g6 i h hi).1 (g6 i h hi).2]
      exact (hX i hi).2.2 h
    · rw [if_neg h]
      exact af_of (g5 i (by omega)) X
  unfold mv_ md2_
  rw [e 0 (by omega), e 1 (by omega), e 2 (by omega)]
theorem md2_ok {d : xm_Y} {n b : Nat} {X t : Int64 × Int64 × Int64} (h : md2_ d n b X = some t) : ok_ n t := by
  unfold md2_ at h
  by_cases h0 : far_ (ov_ d n b 0 X) = true
  · rw [if_pos h0] at h; cases h
  rw [if_neg h0] at h
  by_cases h1 : far_ (ov_ d n b 1 X) = true
  · rw [if_pos h1] at h; cases h
  rw [if_neg h1] at h
  by_cases h2 : far_ (ov_ d n b 2 X) = true
  · rw [if_pos h2] at h; cases h
  rw [if_neg h2] at h
  cases h
  intro i hi
  rcases lt3c hi with rfl | rfl | rfl
  · exact ⟨(far_b h0).1, (far_b h0).2, fun q => if_pos q⟩
  · exact ⟨(far_b h1).1, (far_b h1).2, fun q => if_pos q⟩
  · exact ⟨(far_b h2).1, (far_b h2).2, fun q => if_pos q⟩
theorem sc_sd {c d : xm_Y} {n nb : Nat} {gc : Nat → Nat} (h2 : iv_2 c d n nb gc) {X : Int64 × Int64 × Int64} (hX : ok_ n X) : sc_ c nb gc X = sd_ d n nb gc X := by
  unfold sc_ sd_
  rw [hc_hd h2 X nb 0 (by omega)]
  cases hf : fb_ (hd_ d gc X) nb 0 with
  | none => rfl
  | some b =>
    have hb := fb_lt nb 0 hf
    show some (mv_ c b X) = some (md2_ d n b X)
    rw [mv_md h2 hX (by omega)]
theorem sd_ok {d : xm_Y} {n nb : Nat} {gc : Nat → Nat} {X t : Int64 × Int64 × Int64} (h : sd_ d n nb gc X = some (some t)) : ok_ n t := by
  unfold sd_ at h
  cases hf : fb_ (hd_ d gc X) nb 0 with
  | none => rw [hf] at h; cases h
  | some b =>
    rw [hf] at h
    exact md2_ok (Option.some.inj h)
