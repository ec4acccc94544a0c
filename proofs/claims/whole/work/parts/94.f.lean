/-! what is kept of a found sum's floor -/
def FL_ (c d : xm_Y) : Prop := ∃ (n nb : Nat) (gc : Nat → Nat) (E : E_) (h : Bool) (v : Int), DX_ d n nb gc E ∧ rb3_ (Rx_ (d.1 162 0) (d.1 162 1) (d.1 162 2)) ∧ (∀ b, b < nb → ¬ Emp_ (SS_ d b (gc b) n E) → ∃ w, lb_ (SS_ d b (gc b) n E) (Rx_ (d.1 162 0) (d.1 162 1) (d.1 162 2)) w) ∧ fv_ (fun b => SS_ d b (gc b) n E) (Rx_ (d.1 162 0) (d.1 162 1) (d.1 162 2)) nb h v ∧ c.2 139 5 = Int64.ofInt v ∧ nb_ 720000000000000 v
theorem pf_PF : pf_ PL_ FL_ := by
  refine ⟨PL_pf, fun c c' d d' e1 e2 e3 e4 e5 e6 e7 e8 h => ?_⟩
  obtain ⟨n, nb, gc, E, b, v, a1, a2, a3, a4, a5, a6⟩ := h
  have eS : ∀ b, SS_ d' b (gc b) n E = SS_ d b (gc b) n E := fun b => by unfold SS_; rw [gpsd_f e5]
  refine ⟨n, nb, gc, E, b, v, DX_f e2 e3 e4 e5 e6 e7 a1, by rw [e8]; exact a2, fun k hk ne => ?_, ?_, e1.trans a5, a6⟩
  · rw [eS] at ne ⊢
    rw [e8]; exact a3 k hk ne
  · rw [e8, show (fun b => SS_ d' b (gc b) n E) = (fun b => SS_ d b (gc b) n E) from funext eS]; exact a4
def cw_ (c c' : xm_Y) : Prop := (∀ q, q ≠ 136 → (q < 139 ∨ 145 < q) → (∀ b, b < 5 → q ≠ 6 + 24 * b) → c'.1 q = c.1 q) ∧ (∀ q, q ≠ 137 → q ≠ 138 → q ≠ 139 → (∀ b, b < 5 → q ≠ 7 + 24 * b ∧ q ≠ 8 + 24 * b) → c'.2 q = c.2 q)
def dw_ (d d' : xm_Y) : Prop := (∀ q, q ≠ 150 → q ≠ 182 → (q < 160 ∨ 164 < q) → d'.1 q = d.1 q) ∧ (∀ e, (e ≤ 10 ∨ 26 ≤ e) → d'.1 150 e = d.1 150 e) ∧ (∀ q, q ≠ 150 → q ≠ 159 → q ≠ 181 → d'.2 q = d.2 q)
theorem cw_md {x y : xm_Y} (h : cw_ x y) : md_ x y := fun k hk => ⟨h.1 k (by omega) (by omega) (fun b _ => by omega), h.2 k (by omega) (by omega) (by omega) (fun b _ => by omega)⟩
theorem dw_cl {x y : xm_Y} (h : dw_ x y) : cl_ x y := fun k hk => ⟨h.1 k (by omega) (by omega) (by omega), h.2.2 k (by omega) (by omega) (by omega)⟩
/-- the invariant, where what is found changes -/
theorem iv_wd {PL : xm_Y → Nat → Prop} {FL : xm_Y → xm_Y → Prop} {c c' d d' : xm_Y} {n nb : Nat} {gc : Nat → Nat} (h1 : iv_1 c d n nb) (h2 : iv_2 c d n nb gc) (h3 : iv_3 c d n) (h4 : iv_4 c d n) (h5 : iv_5 c d n) (h6 : iv_6 c d) (h9 : iv_9 c d) (h10 : iv_10 c d) (cf : cw_ c c') (df : dw_ d d') (h7 : iv_7 c' d' nb) (h8 : iv_8 PL FL c' d' nb) : iv_1 c' d' n nb ∧ iv_2 c' d' n nb gc ∧ iv_3 c' d' n ∧ iv_4 c' d' n ∧ iv_5 c' d' n ∧ iv_6 c' d' ∧ iv_7 c' d' nb ∧ iv_8 PL FL c' d' nb ∧ iv_9 c' d' ∧ iv_10 c' d' := by
  obtain ⟨a1, a2, a3, a4, a5, a6, a7⟩ := id h1
  have k1 : ∀ q, q ≠ 136 → (q < 139 ∨ 145 < q) → (∀ b, b < 5 → q ≠ 6 + 24 * b) → c'.1 q = c.1 q := cf.1
  have g1 : ∀ q, 123 ≤ q → q ≠ 136 → (q < 139 ∨ 145 < q) → c'.1 q = c.1 q := fun q h a b => cf.1 q a b (fun b hb => by omega)
  have g2 : ∀ q, 123 ≤ q → q ≠ 137 → q ≠ 138 → q ≠ 139 → c'.2 q = c.2 q := fun q h a b e => cf.2 q a b e (fun b hb => by omega)
  have x1 : ∀ q, 151 ≤ q → q ≠ 182 → (q < 160 ∨ 164 < q) → d'.1 q = d.1 q := fun q h a b => df.1 q (by omega) a b
  have x0 := df.2.1
  have x2 : ∀ q, 151 ≤ q → q ≠ 159 → q ≠ 181 → d'.2 q = d.2 q := fun q h a b => df.2.2 q (by omega) a b
  refine ⟨?_, ?_, ?_, ?_, ?_, ?_, h7, h8, ?_, ?_⟩
  · unfold iv_1; rw [k1 1 (by omega) (by omega) (fun b _ => by omega), x0 0 (by omega), x0 1 (by omega)]; exact h1
  · intro b hb
    obtain ⟨y1, y2, y3, y4, y5, y6⟩ := h2 b hb
    rw [x1 151 (by decide) (by decide) (by decide), x1 152 (by decide) (by decide) (by decide), x1 153 (by decide) (by decide) (by decide)]
    refine ⟨?_, y2, y3, fun g hg => ?_, fun i hi => ?_, fun i hi hi3 => ?_⟩
    · rw [k1 _ (by omega) (by omega) (fun b' _ => by omega)]; exact y1
    · rw [k1 (9 + 24 * b + 2 * g + 1) (by omega) (by omega) (fun b' _ => by omega), k1 (9 + 24 * b + 2 * g) (by omega) (by omega) (fun b' _ => by omega)]; exact y4 g hg
    · rw [k1 (21 + 24 * b + 2 * i + 1) (by omega) (by omega) (fun b' _ => by omega), k1 (21 + 24 * b + 2 * i) (by omega) (by omega) (fun b' _ => by omega)]; exact y5 i hi
    · rw [k1 (21 + 24 * b + 2 * i + 1) (by omega) (by omega) (fun b' _ => by omega), k1 (21 + 24 * b + 2 * i) (by omega) (by omega) (fun b' _ => by omega)]; exact y6 i hi hi3
  · unfold iv_3; rw [g2 123 (by decide) (by decide) (by decide) (by decide), x2 154 (by decide) (by decide) (by decide)]; exact h3
  · unfold iv_4; rw [g2 130 (by decide) (by decide) (by decide) (by decide), x2 157 (by decide) (by decide) (by decide), x1 158 (by decide) (by decide) (by decide)]; exact h4
  · unfold iv_5; rw [g2 128 (by decide) (by decide) (by decide) (by decide), x2 155 (by decide) (by decide) (by decide), x1 156 (by decide) (by decide) (by decide)]; exact h5
  · unfold iv_6; rw [g1 124 (by decide) (by decide) (by decide), x0 26 (by omega)]; exact h6
  · unfold iv_9; rw [g1 146 (by decide) (by decide) (by decide), g2 147 (by decide) (by decide) (by decide) (by decide), x0 36 (by omega), x1 173 (by decide) (by decide) (by decide), x1 174 (by decide) (by decide) (by decide), x1 175 (by decide) (by decide) (by decide)]; exact h9
  · unfold iv_10; rw [g1 146 (by decide) (by decide) (by decide), x0 40 (by omega), x0 42 (by omega), x0 43 (by omega)]; exact h10
theorem szC (m : Nat) (x : Int32) (u : xm_Y) : fn_X11_isSize m x u = some (if x < 1 then 0 else if 5 < x then 0 else 1, u) := by
  rw [fn_X11_isSize]
  by_cases q : x < 1
  · rw [if_pos q, if_pos q]; rfl
  · rw [if_neg q, if_neg q]
    by_cases w : 5 < x
    · rw [if_pos w, if_pos w]; rfl
    · rw [if_neg w, if_neg w]; rfl
theorem szR (m : Nat) (x : Int32) (u : xm_Y) : fn_X12_isSize m x u = some (if x < 1 then 0 else if 5 < x then 0 else 1, u) := by
  rw [fn_X12_isSize]
  by_cases q : x < 1
  · rw [if_pos q, if_pos q]; rfl
  · rw [if_neg q, if_neg q]
    by_cases w : 5 < x
    · rw [if_pos w, if_pos w]; rfl
    · rw [if_neg w, if_neg w]; rfl
theorem szN {x : Int32} (a : ¬ x < 1) (b : ¬ 5 < x) : ∃ s : Nat, x = nI s ∧ 1 ≤ s ∧ s ≤ 5 := by
  have a' : ¬ x.toInt < 1 := fun h => a (Int32.lt_iff_toInt_lt.mpr h)
  have b' : ¬ 5 < x.toInt := fun h => b (Int32.lt_iff_toInt_lt.mpr h)
  refine ⟨x.toInt.toNat, ?_, by omega, by omega⟩
  apply Int32.toInt_inj.mp
  rw [nI_u (by omega)]
  omega
theorem tf_rank {m : Nat} (hm : 3100 ≤ m) (x0 : Int32) : tf_ PL_ FL_ (fn_X11_rank m x0) (fn_X12_rank m x0) := by
  intro c d iv
  obtain ⟨n, nb, gc, h1, h2, h3, h4, h5, h6, h7, h8, h9, h10⟩ := id iv
  obtain ⟨a1, a2, a3, a4, a5, a6, a7⟩ := id h1
  by_cases q : (if x0 < 1 then (0 : Int32) else if 5 < x0 then 0 else 1) = 0
  · refine ⟨-1, c, d, ?_, md_.rf c, ?_, cl_.rf d, iv⟩
    · rw [fn_X11_rank, szC, q]; rfl
    · rw [fn_X12_rank, szR, q]; rfl
  have sa : ¬ x0 < 1 := fun z => q (by rw [if_pos z])
  have sb : ¬ 5 < x0 := fun z => q (by rw [if_neg sa, if_pos z])
  obtain ⟨s, rfl, s1, s5⟩ := szN sa sb
  obtain ⟨u, l1, l2, l3, l4⟩ := ev_learn (FL := FL_) (m := m) (by omega) h1 h2 h5 h8 (c1 := c) (fun _ _ => rfl) rfl
  obtain ⟨y, o1, o2, o3⟩ := okf_s (okf_all (s := s) (n := n) (by omega) (by omega) a3 a4)
  -- the class's first
  have u11 : (w_I u 139 6 0).1 1 1 = nI n := by rw [rI_ne (by omega), l2.1 1 (by decide) (fun b _ => by omega)]; exact a1
  obtain ⟨u0, u1, t1, t2, t3, t4, t5⟩ := ev_startC (u := w_I u 139 6 0) hm s1 s5 a3 a4 o1
  have d0n : (w_I d 150 21 0).1 150 0 = nI n := (rI_ne (by decide)).trans a2
  obtain ⟨d1, r1, r2, r3, r4⟩ := ev_firstR (u := w_I d 150 21 0) (s := s) hm (by omega) (by omega) a3 a4 d0n o2
  have ct : CT_ (w_I u 139 6 0) d n nb gc (eb_ c) := CT_k l3 (fun q hq => rI_nc (by omega)) (fun _ _ => rfl)
  have L := rank_lp hm ct (d0 := w_I d 150 21 0) (fun q hq => rI_nc hq) (rI_ne (by decide)) (rI_ne (by decide)) rfl (s := s) (by omega) (by omega) 1400 m m 0 u0 u1 d1 y o3 (by omega) (by omega) (by omega) t3 (xf_v t4) (t5 y rfl) (yf_d r2) r3
  have eC : ∀ r v, eC_ m m 0 u0 = some (r, v) → (r = 0 ∨ r = 1) → fn_X11_rank m (nI s) c = some (r, v) := fun r v e hr => by
    rw [fn_X11_rank, szC, if_neg sa, if_neg sb]
    simp only [Option.bind_some]
    rw [if_neg (by decide), l1]
    simp only [Option.bind_some]
    have : fn_X5_seekRank m (nI s) u = some (r, v) := by
      rw [fn_X5_seekRank]
      simp only [xm_let]
      rw [u11, t1]
      exact e
    rw [this]
    rcases hr with w | w <;> rw [w] <;> rfl
  have eR : ∀ r v, eR_ m (iI s) m 1 d1 = some (r, v) → fn_X12_rank m (nI s) d = some (r, v) := fun r v e => by
    rw [fn_X12_rank, szR, if_neg sa, if_neg sb]
    simp only [Option.bind_some, xm_let]
    rw [if_neg (by decide), show fn_X12_firstSum m (nI s) (w_I d 150 21 0) = _ from r1]
    exact e
  have pl : ∀ v : xm_Y, (∀ q, q < 123 → v.1 q = u.1 q) → (∀ q, q ≠ 139 → (∀ b, b < 5 → q ≠ 8 + 24 * b) → v.2 q = u.2 q) → ∀ b, b < 5 → v.1 (6 + 24 * b) 3 = 0 ∨ (v.1 (6 + 24 * b) 3 = 1 ∧ b < nb ∧ PL_ v b) := fun v e1 e2 b hb => by
    rw [e1 _ (by omega)]
    rcases l4 b hb with w | ⟨w1, w2, w3⟩
    · exact Or.inl w
    · exact Or.inr ⟨w1, w2, PL_q hb w3 (fun k hk => e1 k hk) (e2 _ (by omega) (fun b' _ => by omega)) (e2 128 (by omega) (fun b' _ => by omega))⟩
  have lw : ∀ v : xm_Y, (∀ q, (q < 139 ∨ 145 < q) → v.1 q = u.1 q) → (∀ q, q ≠ 139 → (∀ b, b < 5 → q ≠ 8 + 24 * b) → v.2 q = u.2 q) → cw_ c v := fun v e1 e2 => ⟨fun q a b e => (e1 q b).trans (l2.1 q a e), fun q a b b' e => (e2 q b' (fun k hk => (e k hk).2)).trans (l2.2 q a b (fun k hk => (e k hk).1))⟩
  have uc : ∀ q, 139 ≤ q → u.1 q = c.1 q := fun q hq => l2.1 q (by omega) (fun b hb => by omega)
  rcases L with ⟨u', d', z1, z2, z3, z4⟩ | ⟨u', d', z1, z2, x, h, v, w1, w2, w3, w4, w5, w6, w7, w8, w9, w10, w11, w12, w13, w14, w15, w16, w17, w18, w19⟩
  · have v1 : ∀ q, q ≠ 139 → q ≠ 140 → q ≠ 141 → u'.1 q = u.1 q := fun q a b e => (z2.1 q b e).trans (rI_nc a)
    have v2 : ∀ q, (∀ b, b < 5 → q ≠ 8 + 24 * b) → u'.2 q = u.2 q := fun q a => z2.2 q a
    have cf : cw_ c u' := lw u' (fun q hq => v1 q (by omega) (by omega) (by omega)) (fun q _ a => v2 q a)
    have df : dw_ d d' := ⟨fun q a b _ => (z4.1 q a b).trans (rI_nc a), fun e he => (z4.2.1 e (by omega) (by omega) (by omega)).trans (rI_ne (by omega)), fun q a b b' => z4.2.2 q a b b'⟩
    refine ⟨0, u', d', eC 0 u' z1 (Or.inl rfl), cw_md cf, eR 0 d' z3, dw_cl df, n, nb, gc, iv_wd h1 h2 h3 h4 h5 h6 h9 h10 cf df ?_ ⟨Or.inl ⟨?_, ?_⟩, pl u' (fun q hq => v1 q (by omega) (by omega) (by omega)) (fun q _ a => v2 q a)⟩⟩
    · unfold iv_7
      rw [show u'.1 139 2 = c.1 139 2 by rw [z2.1 139 (by decide) (by decide), rI_ne (by decide), uc 139 (by decide)], v1 142 (by decide) (by decide) (by decide), v1 143 (by decide) (by decide) (by decide), uc 142 (by decide), uc 143 (by decide), show d'.1 150 19 = d.1 150 19 from (z4.2.1 19 (by decide) (by decide) (by decide)).trans (rI_ne (by decide)), show d'.1 161 = d.1 161 from (z4.1 161 (by decide) (by decide)).trans (rI_nc (by decide)), show d'.1 163 = d.1 163 from (z4.1 163 (by decide) (by decide)).trans (rI_nc (by decide))]
      exact h7
    · rw [z2.1 139 (by decide) (by decide)]; exact rI_eq
    · rw [z4.2.1 21 (by decide) (by decide) (by decide)]; exact rI_eq
  · have v1 : ∀ q, q ≠ 139 → q ≠ 140 → q ≠ 141 → q ≠ 142 → q ≠ 144 → u'.1 q = u.1 q := fun q a b e f g => (w15 q a b e f g).trans (rI_nc a)
    have v2 : ∀ q, q ≠ 139 → (∀ b, b < 5 → q ≠ 8 + 24 * b) → u'.2 q = u.2 q := fun q a b => w16 q a b
    have cf : cw_ c u' := lw u' (fun q hq => v1 q (by omega) (by omega) (by omega) (by omega) (by omega)) v2
    have df : dw_ d d' := ⟨fun q a b e => (w17 q a b (by omega) (by omega)).trans (rI_nc a), fun e he => (w18 e (by omega) (by omega) (by omega) (by omega) (by omega)).trans (rI_ne (by omega)), fun q a b b' => w19 q a b b'⟩
    refine ⟨1, u', d', eC 1 u' z1 (Or.inr rfl), cw_md cf, eR 1 d' z2, dw_cl df, n, nb, gc, iv_wd h1 h2 h3 h4 h5 h6 h9 h10 cf df ⟨⟨1, by omega, w8, w12, fun k hk => ?_⟩, fun b hb => ?_⟩ ⟨Or.inr ⟨w7, w11, fun i hi => ?_, ?_⟩, pl u' (fun q hq => v1 q (by omega) (by omega) (by omega) (by omega) (by omega)) v2⟩⟩
    · have : k = 0 ∨ k = 1 ∨ k = 2 := by omega
      rcases this with rfl | rfl | rfl
      · rw [w10.1, w13.1]
      · rw [w10.2.1, w13.2.1]
      · rw [w10.2.2, w13.2.2]
    · rw [v1 143 (by decide) (by decide) (by decide) (by decide) (by decide), uc 143 (by decide), show d'.1 163 = d.1 163 from (w17 163 (by decide) (by decide) (by decide) (by decide)).trans (rI_nc (by decide))]
      exact h7.2 b hb
    · have : i = 0 ∨ i = 1 ∨ i = 2 := by omega
      rcases this with rfl | rfl | rfl
      · rw [w9.1, w14.1]
      · rw [w9.2.1, w14.2.1]
      · rw [w9.2.2, w14.2.2]
    · have eRx : Rx_ (d'.1 162 0) (d'.1 162 1) (d'.1 162 2) = sR_ x := by
        obtain ⟨p1, p2, p3⟩ := tri_R w14 w2
        unfold Rx_
        rw [p1, p2, p3]
        rfl
      have e52 : d'.1 152 = d.1 152 := df.1 152 (by decide) (by decide) (by decide)
      have eS : ∀ b, SS_ d' b (gc b) n (eb_ c) = SS_ d b (gc b) n (eb_ c) := fun b => by unfold SS_; rw [gpsd_f e52]
      refine ⟨n, nb, gc, eb_ c, h, v, DX_f (df.2.1 0 (by omega)) (df.2.1 1 (by omega)) (df.1 151 (by decide) (by decide) (by decide)) e52 (df.1 156 (by decide) (by decide) (by decide)) (df.2.2 155 (by decide) (by decide) (by decide)) (DX_ct l3), by rw [eRx]; exact w1, fun b hb ne => ?_, ?_, w6, w5⟩
      · rw [eS] at ne ⊢
        rw [eRx]; exact rk_bd (w3 b hb) ne
      · rw [eRx, show (fun b => SS_ d' b (gc b) n (eb_ c)) = (fun b => SS_ d b (gc b) n (eb_ c)) from funext eS]; exact w4
