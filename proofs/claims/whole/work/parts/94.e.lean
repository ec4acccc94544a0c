/-! the sum that is sought -/
theorem CT_k {c u d : xm_Y} {n nb : Nat} {gc : Nat → Nat} {E : E_} (ct : CT_ c d n nb gc E) (h1 : ∀ q, q < 123 → u.1 q = c.1 q) (h2 : ∀ b, b < 5 → u.2 (7 + 24 * b) = c.2 (7 + 24 * b)) : CT_ u d n nb gc E := by
  obtain ⟨i2, c2, c3, c4, c5, c6, c7, c8, c9, c10, c11⟩ := ct
  have i2u : iv_2 u d n nb gc := by
    intro b hb
    obtain ⟨y1, y2, y3, y4, y5, y6⟩ := i2 b hb
    refine ⟨?_, y2, y3, fun g hg => ?_, fun i hi => ?_, fun i hi hi3 => ?_⟩
    · rw [h1 _ (by omega)]; exact y1
    · rw [h1 (9 + 24 * b + 2 * g + 1) (by omega), h1 (9 + 24 * b + 2 * g) (by omega)]; exact y4 g hg
    · rw [h1 (21 + 24 * b + 2 * i + 1) (by omega), h1 (21 + 24 * b + 2 * i) (by omega)]; exact y5 i hi
    · rw [h1 (21 + 24 * b + 2 * i + 1) (by omega), h1 (21 + 24 * b + 2 * i) (by omega)]; exact y6 i hi hi3
  refine ⟨i2u, by rw [h1 1 (by decide)]; exact c2, c3, c4, c5, c6, c7, c8, c9, c10, fun b hb => ?_⟩
  obtain ⟨C, D, ⟨x1, x2, x3, x4⟩, p2⟩ := c11 b hb
  have eB : BB_ u b (gc b) E = BB_ c b (gc b) E := by unfold BB_; rw [gps_same i2 hb (gc b) (Nat.le_refl _), gps_same i2u hb (gc b) (Nat.le_refl _)]
  exact ⟨C, D, ⟨by rw [h1 _ (by omega)]; exact x1, by rw [h1 _ (by omega)]; exact x2, x3, fun k P hP => by rw [h2 b (by omega)]; exact x4 k P hP⟩, by rw [eB]; exact p2⟩
/-- the class's memory while sums are sought -/
def vf_ (c u : xm_Y) : Prop := (∀ q, q ≠ 140 → q ≠ 141 → u.1 q = c.1 q) ∧ ∀ q, (∀ b, b < 5 → q ≠ 8 + 24 * b) → u.2 q = c.2 q
theorem vf_.rf (c : xm_Y) : vf_ c c := ⟨fun _ _ _ => rfl, fun _ _ => rfl⟩
theorem vf_.tr {x y z : xm_Y} (h : vf_ x y) (g : vf_ y z) : vf_ x z := ⟨fun q a b => (g.1 q a b).trans (h.1 q a b), fun q a => (g.2 q a).trans (h.2 q a)⟩
theorem xf_v {x y : xm_Y} (h : xf_ x y) : vf_ x y := ⟨h.1, fun q _ => by rw [h.2]⟩
theorem qf_v {x y : xm_Y} (h : qf_ x y) : vf_ x y := ⟨fun q _ _ => by rw [h.1], h.2⟩
theorem CT_v {c u d : xm_Y} {n nb : Nat} {gc : Nat → Nat} {E : E_} (ct : CT_ c d n nb gc E) (h : vf_ c u) : CT_ u d n nb gc E := CT_k ct (fun q hq => h.1 q (by omega) (by omega)) (fun b hb => h.2 _ (fun b' _ => by omega))
theorem mC_q {u u' : xm_Y} {s : Int} {n : Nat} {x : S3_} {t : Int} (h : mC_ u s n x t) (q : qf_ u u') : mC_ u' s n x t := by
  unfold mC_
  rw [q.1]; exact h
theorem yf_d {x y : xm_Y} (h : yf_ x y) : dfr_ x y := ⟨fun q _ a => h.1 q a, fun e _ _ _ => by rw [h.1 150 (by decide)], fun q _ _ _ => by rw [h.2]⟩
theorem mR_t {u u' : xm_Y} {x : S3_} (h : mR_ u x) (q : tf2_ u u') : mR_ u' x := by
  unfold mR_
  rw [q.1 182 (by decide)]; exact h
def sR_ (x : S3_) : V4_ := (x.1, x.2.1, x.2.2, 0)
theorem cub_R {s : Int} {n : Nat} {x : S3_} (h1 : 1 ≤ s) (h5 : s ≤ 5) (n1 : 1 ≤ n) (cu : cub_ s n x = true) : rb3_ (sR_ x) ∧ lown_ n (sR_ x) ∧ s3b_ x := by
  obtain ⟨b1, b2, b3, b4⟩ := r12 (n := n) h1 h5
  unfold cub_ at cu
  simp only [Bool.and_eq_true, decide_eq_true_iff] at cu
  obtain ⟨⟨⟨⟨⟨x1, x2⟩, x3⟩, x4⟩, x5⟩, x6⟩ := cu
  unfold sR_
  refine ⟨⟨by unfold nb_; simp only; omega, by unfold nb_; simp only; omega, by unfold nb_; simp only; omega, rfl⟩, ⟨fun z => by omega, fun z => ?_, fun z => ?_⟩, by unfold nb_; omega, by unfold nb_; omega, by unfold nb_; omega⟩
  · unfold r1_ at x3 x4
    rw [if_pos z] at x3 x4
    show x.2.1 = 0
    omega
  · unfold r2_ at x5 x6
    rw [if_pos z] at x5 x6
    show x.2.2 = 0
    omega
theorem okw_s {s : Int} {n k : Nat} {x : S3_} (h : okw_ s n (k + 1) x = true) : cub_ s n x = true ∧ ∃ o, nC_ s n x = some o ∧ nR_ s n x = some o ∧ ∀ y, o = some y → okw_ s n k y = true := by
  have h : (cub_ s n x && decide (nC_ s n x = nR_ s n x) && (match nC_ s n x with
    | none => false
    | some none => true
    | some (some y) => okw_ s n k y)) = true := h
  rw [Bool.and_eq_true, Bool.and_eq_true] at h
  obtain ⟨⟨a, b⟩, c⟩ := h
  have b := of_decide_eq_true b
  refine ⟨a, ?_⟩
  cases e : nC_ s n x with
  | none => rw [e] at c; cases c
  | some o =>
    refine ⟨o, rfl, by rw [← b, e], fun y hy => ?_⟩
    subst hy
    rw [e] at c; exact c
theorem okf_s {s : Int} {n : Nat} (h : okf_ s n = true) : ∃ y, fC_ s n = some (some y) ∧ nR_ s n (0, 0, 0) = some (some y) ∧ okw_ s n 1400 y = true := by
  unfold okf_ at h
  rw [Bool.and_eq_true] at h
  obtain ⟨b, c⟩ := h
  have b := of_decide_eq_true b
  cases e : fC_ s n with
  | none => rw [e] at c; cases c
  | some o =>
    cases o with
    | none => rw [e] at c; cases c
    | some y => exact ⟨y, rfl, by rw [← b, e], by rw [e] at c; exact c⟩
theorem cp_at {u : xm_Y} {k j i : Nat} (hi : i < 3) : (cp_I u 141 k 0 j 3).1 k (j + i) = u.1 141 i := by
  show (if k = k then va_cpy (u.1 141) (u.1 k) 0 j 3 else u.1 k) (j + i) = _
  rw [if_pos rfl]
  show (if j ≤ j + i ∧ j + i < j + 3 then u.1 141 (0 + (j + i - j)) else u.1 k (j + i)) = _
  rw [if_pos ⟨by omega, by omega⟩, show 0 + (j + i - j) = i by omega]
theorem cp_lo {u : xm_Y} {k j i : Nat} (hi : i < j) : (cp_I u 141 k 0 j 3).1 k i = u.1 k i := by
  show (if k = k then va_cpy (u.1 141) (u.1 k) 0 j 3 else u.1 k) i = _
  rw [if_pos rfl]
  show (if j ≤ i ∧ i < j + 3 then u.1 141 (0 + (i - j)) else u.1 k i) = _
  rw [if_neg (by omega)]
theorem cp_nc {u : xm_Y} {k j q : Nat} (h : q ≠ k) : (cp_I u 141 k 0 j 3).1 q = u.1 q := by
  show (if q = k then va_cpy (u.1 141) (u.1 k) 0 j 3 else u.1 q) = _
  rw [if_neg h]
def tri_ (u : xm_Y) (k : Nat) (x : S3_) : Prop := u.1 k 0 = iI x.1 ∧ u.1 k 1 = iI x.2.1 ∧ u.1 k 2 = iI x.2.2
theorem tri_R {u : xm_Y} {k : Nat} {x : S3_} (h : tri_ u k x) (b : s3b_ x) : (u.1 k 0).toInt = (sR_ x).1 ∧ (u.1 k 1).toInt = (sR_ x).2.1 ∧ (u.1 k 2).toInt = (sR_ x).2.2.1 := ⟨by rw [h.1]; exact iI_t (nb_w b.1 (by decide)), by rw [h.2.1]; exact iI_t (nb_w b.2.1 (by decide)), by rw [h.2.2]; exact iI_t (nb_w b.2.2 (by decide))⟩
theorem ev_62 {m : Nat} (hm : 10 ≤ m) {u : xm_Y} {x : S3_} (h : mR_ u x) : ∃ l u', lp_X12_rank_62 m m (0 : Int32) u = some (l, u') ∧ tri_ u' 161 x ∧ tri_ u' 162 x ∧ (∀ q, q ≠ 161 → q ≠ 162 → u'.1 q = u.1 q) ∧ u'.2 = u.2 := by
  obtain ⟨f, rfl⟩ : ∃ f, m = f + 4 := ⟨m - 4, by omega⟩
  obtain ⟨c0, c1, c2⟩ := h
  have one : ∀ (k g : Nat) (v : xm_Y), k < 3 → lp_X12_rank_62 (f + 4) (g + 1) (nI k) v = lp_X12_rank_62 (f + 4) g (nI (k + 1)) (w_I (w_I v 162 k (v.1 182 k)) 161 k (v.1 182 k)) := by
    intro k g v hk
    rw [lp_X12_rank_62, if_neg (show ¬ (3 : Int32) ≤ nI k from fun q => absurd ((nIle (a := 3) (by omega) (by omega)).mp q) (by omega)), ck_t (nI_xi hk (by omega)), ck_t (nI_xi hk (by omega))]
    simp only [xm_let]
    rw [ck_t (nI_xi hk (by omega)), ck_t (nI_xi (by omega) (by omega)), nI_cl (by omega), ← nI_succ, rI_ne (by omega)]
  have s1 := one 0 (f + 3) u (by omega)
  have s2 := one 1 (f + 2) (w_I (w_I u 162 0 (u.1 182 0)) 161 0 (u.1 182 0)) (by omega)
  rw [rI_ne (by omega), rI_ne (by omega)] at s2
  have s3 := one 2 (f + 1) (w_I (w_I (w_I (w_I u 162 0 (u.1 182 0)) 161 0 (u.1 182 0)) 162 1 (u.1 182 1)) 161 1 (u.1 182 1)) (by omega)
  rw [rI_ne (by omega), rI_ne (by omega), rI_ne (by omega), rI_ne (by omega)] at s3
  have s4 : ∀ v, lp_X12_rank_62 (f + 4) (f + 1) (nI 3) v = some (nI 3, v) := fun v => by rw [lp_X12_rank_62, if_pos (by decide)]
  refine ⟨nI 3, w_I (w_I (w_I (w_I (w_I (w_I u 162 0 (u.1 182 0)) 161 0 (u.1 182 0)) 162 1 (u.1 182 1)) 161 1 (u.1 182 1)) 162 2 (u.1 182 2)) 161 2 (u.1 182 2), by rw [show lp_X12_rank_62 (f + 4) (f + 4) (0 : Int32) u = _ from s1, s2, s3, s4], ⟨?_, ?_, ?_⟩, ⟨?_, ?_, ?_⟩, fun q a b => by rw [rI_nc a, rI_nc b, rI_nc a, rI_nc b, rI_nc a, rI_nc b], rfl⟩
  · rw [rI_ne (by omega), rI_ne (by omega), rI_ne (by omega), rI_ne (by omega), rI_eq]; exact c0
  · rw [rI_ne (by omega), rI_ne (by omega), rI_eq]; exact c1
  · rw [rI_eq]; exact c2
  · rw [rI_ne (by omega), rI_ne (by omega), rI_ne (by omega), rI_ne (by omega), rI_ne (by omega), rI_eq]; exact c0
  · rw [rI_ne (by omega), rI_ne (by omega), rI_ne (by omega), rI_eq]; exact c1
  · rw [rI_ne (by omega), rI_eq]; exact c2
/-- a sum has been found -/
def win_ (c d d0 : xm_Y) (n nb : Nat) (gc : Nat → Nat) (E : E_) (u' d' : xm_Y) : Prop := ∃ (x : S3_) (h : Bool) (v : Int), rb3_ (sR_ x) ∧ s3b_ x ∧ (∀ b, b < nb → rkk_ d n gc E b (sR_ x)) ∧ fv_ (fun b => SS_ d b (gc b) n E) (sR_ x) nb h v ∧ nb_ 720000000000000 v ∧ u'.2 139 5 = Int64.ofInt v ∧ u'.1 139 6 = 1 ∧ u'.1 139 2 = 1 ∧ tri_ u' 144 x ∧ tri_ u' 142 x ∧ d'.1 150 21 = 1 ∧ d'.1 150 19 = 1 ∧ tri_ d' 161 x ∧ tri_ d' 162 x ∧ (∀ q, q ≠ 139 → q ≠ 140 → q ≠ 141 → q ≠ 142 → q ≠ 144 → u'.1 q = c.1 q) ∧ (∀ q, q ≠ 139 → (∀ b, b < 5 → q ≠ 8 + 24 * b) → u'.2 q = c.2 q) ∧ (∀ q, q ≠ 150 → q ≠ 182 → q ≠ 161 → q ≠ 162 → d'.1 q = d0.1 q) ∧ (∀ e, e ≠ 11 → e ≠ 16 → e ≠ 17 → e ≠ 19 → e ≠ 21 → d'.1 150 e = d0.1 150 e) ∧ (∀ q, q ≠ 150 → q ≠ 159 → q ≠ 181 → d'.2 q = d0.2 q)
def eC_ (m f : Nat) (l : Nat) (u : xm_Y) : Option (Int32 × xm_Y) := (lp_X5_seekRank_19 m f (nI l) u).bind (Sum.elim (fun r => some r) (fun q15 => some ((0 : Int32), q15.2)))
def eR_ (m : Nat) (s : Int32) (g : Nat) (l : Int32) (u : xm_Y) : Option (Int32 × xm_Y) := (lp_X12_rank_21 m s g l u).bind (Sum.elim (fun r => some r) (fun q16 => some ((0 : Int32), q16.2)))
theorem rank_lp {m : Nat} (hm : 3100 ≤ m) {c d d0 : xm_Y} {n nb : Nat} {gc : Nat → Nat} {E : E_} (ct : CT_ c d n nb gc E) (e1 : ∀ q, q ≠ 150 → d0.1 q = d.1 q) (e00 : d0.1 150 0 = d.1 150 0) (e01 : d0.1 150 1 = d.1 150 1) (e2 : d0.2 = d.2) {s : Int} (h1 : 1 ≤ s) (h5 : s ≤ 5) : ∀ (k f g l : Nat) (u0 u1 d1 : xm_Y) (x : S3_), okw_ s n k x = true → k + 1 ≤ f → k + 2 ≤ g → l + k ≤ 3000 → fn_X10_next m u0 = some (1, u1) → vf_ c u1 → mC_ u1 s n x (tot_ x) → dfr_ d0 d1 → mR_ d1 x → (∃ u' d', eC_ m f l u0 = some (0, u') ∧ vf_ c u' ∧ eR_ m (iI s) g 1 d1 = some (0, d') ∧ dfr_ d0 d') ∨ (∃ u' d', eC_ m f l u0 = some (1, u') ∧ eR_ m (iI s) g 1 d1 = some (1, d') ∧ win_ c d d0 n nb gc E u' d')
  | 0, f, g, l, u0, u1, d1, x, ok, _, _, _, _, _, _, _, _ => by cases ok
  | k + 1, f, g, l, u0, u1, d1, x, ok, hf, hg, hl, hx, vf, mc, df, mr => by
    obtain ⟨f', rfl⟩ : ∃ f', f = f' + 1 := ⟨f - 1, by omega⟩
    obtain ⟨g', rfl⟩ : ∃ g', g = g' + 1 := ⟨g - 1, by omega⟩
    have n1 := ct.2.2.2.1
    have n3 := ct.2.2.2.2.1
    obtain ⟨cu, o, oC, oR, oy⟩ := okw_s ok
    obtain ⟨rb, rn, xb⟩ := cub_R h1 h5 n1 cu
    have t141 : tri_ u1 141 x := ⟨mc.2.2.2.2.2.1, mc.2.2.2.2.2.2.1, mc.2.2.2.2.2.2.2⟩
    have hR := tri_R t141 xb
    have ct1 := CT_v ct vf
    obtain ⟨r, u2, q1, q2, q3, q4⟩ := ev_ranked (m := m) (by omega) ct1 (s := 141) rb rn hR (qf_.rf u1)
    obtain ⟨z0, z1, z2⟩ := id mr
    obtain ⟨r', d2, s1, s2, s3, s4⟩ := ev_doesRank (m := m) (by omega) ct rb (x1 := iI x.1) (x2 := iI x.2.1) (x3 := iI x.2.2) (iI_t (nb_w xb.1 (by decide))) (iI_t (nb_w xb.2.1 (by decide))) (iI_t (nb_w xb.2.2 (by decide))) (d0 := d1) (fun q a b _ _ _ _ _ => (df.1 q a b).trans (e1 q a)) ((df.2.1 0 (by decide) (by decide) (by decide)).trans e00) ((df.2.1 1 (by decide) (by decide) (by decide)).trans e01) ((df.2.2 155 (by decide) (by decide) (by decide)).trans (by rw [e2]))
    have er : r = r' := x01 q3 s3 q4 s4
    subst er
    have mr2 := mR_t mr s2
    have df2 := df.tr (tf2_d s2)
    have cC : eC_ m (f' + 1) l u0 = (((fn_X7_isRankedBy m 141 u1).bind fun q6 => if q6.1 = 0 then lp_X5_seekRank_19 m f' (nI l + 1) q6.2 else xm_chk (0 ≤ (0 : Int32) ∧ 0 ≤ (0 : Int32) ∧ 0 ≤ (3 : Int32) ∧ (Int32.toNatClampNeg (0 : Int32)) + (Int32.toNatClampNeg (3 : Int32)) ≤ 3 ∧ (Int32.toNatClampNeg (0 : Int32)) + (Int32.toNatClampNeg (3 : Int32)) ≤ 3) ((fn_X7_floorOf m 144 (cp_I q6.2 141 144 0 0 3)).bind fun q10 => (fn_X5_keep m (0 : Int32) (w_I (w_J q10.2 139 5 q10.1) 139 6 (1 : Int32))).bind fun q13 => some (Sum.inl ((1 : Int32), w_I q13.2 139 2 (1 : Int32))))).bind (Sum.elim (fun r => some r) (fun q15 => some ((0 : Int32), q15.2)))) := by
      unfold eC_
      rw [lp_X5_seekRank_19, if_neg (show ¬ (4000 : Int32) ≤ nI l from fun q => absurd ((nIle (a := 4000) (by omega) (by omega)).mp q) (by omega)), hx]
      rfl
    have cR : eR_ m (iI s) (g' + 1) 1 d1 = (((fn_X12_doesRank m (iI x.1) (iI x.2.1) (iI x.2.2) d1).bind fun q6 => if q6.1 = 0 then ((fn_X12_nextSum m (iI s) q6.2).bind fun q8 => lp_X12_rank_21 m (iI s) g' q8.1 q8.2) else ((lp_X12_rank_62 m m (0 : Int32) (w_I (w_I q6.2 150 21 (1 : Int32)) 150 19 (1 : Int32))).bind fun q15 => some (Sum.inl ((1 : Int32), q15.2)))).bind (Sum.elim (fun r => some r) (fun q16 => some ((0 : Int32), q16.2)))) := by
      unfold eR_
      rw [lp_X12_rank_21, if_neg (by decide), ck_t (by decide), ck_t (by decide), ck_t (by decide), show d1.1 182 (Int32.toNatClampNeg 0) = _ from z0, show d1.1 182 (Int32.toNatClampNeg 1) = _ from z1, show d1.1 182 (Int32.toNatClampNeg 2) = _ from z2]
      rfl
    rw [cC, cR, q1, s1]
    simp only [Option.bind_some]
    rcases q3 with w | w
    · -- not by this one
      rw [w, if_pos rfl]
      simp only [if_true]
      obtain ⟨u3, p1, p2, p3⟩ := ev_nextC hm h1 h5 (mC_q mc q2) cu oC
      obtain ⟨d3, r1, r2, r3⟩ := ev_nextR hm h1 h5 n1 n3 (by rw [df2.2.1 0 (by decide) (by decide) (by decide), e00]; exact ct.2.2.2.2.2.1) mr2 xb oR
      have vf3 : vf_ c u3 := (vf.tr (qf_v q2)).tr (xf_v p2)
      have df3 := df2.tr (yf_d r2)
      rw [r1]
      simp only [Option.bind_some]
      cases o with
      | none =>
        left
        obtain ⟨f'', rfl⟩ : ∃ f'', f' = f'' + 1 := ⟨f' - 1, by omega⟩
        obtain ⟨g'', rfl⟩ : ∃ g'', g' = g'' + 1 := ⟨g' - 1, by omega⟩
        refine ⟨u3, d3, ?_, vf3, ?_, df3⟩
        · rw [← nI_succ, lp_X5_seekRank_19, if_neg (show ¬ (4000 : Int32) ≤ nI (l + 1) from fun q => absurd ((nIle (a := 4000) (by omega) (by omega)).mp q) (by omega)), p1]
          rfl
        · rw [lp_X12_rank_21, if_pos (show (if (none : Option S3_).isSome = true then (1 : Int32) else 0) = 0 from rfl)]; rfl
      | some y =>
        have go := rank_lp hm ct e1 e00 e01 e2 h1 h5 k f' g' (l + 1) u2 u3 d3 y (oy y rfl) (by omega) (by omega) (by omega) p1 vf3 (p3 y rfl) df3 (r3 y rfl).1
        unfold eC_ eR_ at go
        rw [nI_succ] at go
        exact go
    · right
      rw [w, if_neg (by decide), if_neg (by decide), ck_t (by decide)]
      have all := q4.mp w
      have t2 : tri_ u2 141 x := by unfold tri_; rw [q2.1]; exact t141
      have t144 : tri_ (cp_I u2 141 144 0 0 3) 144 x := ⟨(cp_at (j := 0) (i := 0) (by omega)).trans t2.1, (cp_at (j := 0) (i := 1) (by omega)).trans t2.2.1, (cp_at (j := 0) (i := 2) (by omega)).trans t2.2.2⟩
      have ct2 : CT_ (cp_I u2 141 144 0 0 3) d n nb gc E := CT_k (CT_v ct1 (qf_v q2)) (fun q hq => cp_nc (by omega)) (fun _ _ => rfl)
      obtain ⟨h, v, fA1, fA2, fA3⟩ := ev_floor7 (m := m) (by omega) ct2 (s := 144) rb rn (tri_R t144 xb) (fun b hb ne => rk_bd (all b hb) ne) (qf_.rf _)
      obtain ⟨l2, d3, g1, g2, g3, g4, g5⟩ := ev_62 (m := m) (u := w_I (w_I d2 150 21 (1 : Int32)) 150 19 (1 : Int32)) (x := x) (by omega) (by unfold mR_; rw [rI_nc (by omega), rI_nc (by omega)]; exact mr2)
      rw [fA1, g1]
      simp only [Option.bind_some]
      have kp : ∀ U : xm_Y, fn_X5_keep m (0 : Int32) U = some ((), cp_I U 141 142 0 0 3) := fun U => by
        rw [fn_X5_keep, ck_t (by decide)]; rfl
      rw [kp]
      refine ⟨_, d3, rfl, rfl, x, h, v, rb, xb, all, fA2, fA3, ?_, ?_, ?_, ?_, ?_, ?_, ?_, g2, g3, ?_, ?_, ?_, ?_, ?_⟩
      · show (w_J (cp_I u2 141 144 0 0 3) 139 5 (Int64.ofInt v)).2 139 5 = _
        exact rJ_eq
      · rw [rI_ne (by decide), cp_nc (by decide)]; exact rI_eq
      · exact rI_eq
      · have : ∀ i, (w_I (cp_I (w_I (w_J (cp_I u2 141 144 0 0 3) 139 5 (Int64.ofInt v)) 139 6 1) 141 142 0 0 3) 139 2 1).1 144 i = (cp_I u2 141 144 0 0 3).1 144 i := fun i => by rw [rI_ne (by omega), cp_nc (by decide), rI_ne (by omega)]; rfl
        unfold tri_
        rw [this, this, this]; exact t144
      · have : ∀ i, i < 3 → (w_I (cp_I (w_I (w_J (cp_I u2 141 144 0 0 3) 139 5 (Int64.ofInt v)) 139 6 1) 141 142 0 0 3) 139 2 1).1 142 i = u2.1 141 i := fun i hi => by
          rw [rI_ne (by omega)]
          have := cp_at (u := w_I (w_J (cp_I u2 141 144 0 0 3) 139 5 (Int64.ofInt v)) 139 6 1) (k := 142) (j := 0) (i := i) hi
          rw [Nat.zero_add] at this
          rw [this, rI_ne (by omega)]
          show (cp_I u2 141 144 0 0 3).1 141 i = _
          rw [cp_nc (by decide)]
        unfold tri_
        rw [this 0 (by omega), this 1 (by omega), this 2 (by omega)]; exact t2
      · rw [g4 150 (by decide) (by decide), rI_ne (by decide), rI_eq]
      · rw [g4 150 (by decide) (by decide), rI_eq]
      · intro q a b b' b'' b3
        rw [rI_nc a, cp_nc b'', rI_nc a]
        show (cp_I u2 141 144 0 0 3).1 q = _
        rw [cp_nc b3, q2.1, vf.1 q b b']
      · intro q a b
        show (w_J (cp_I u2 141 144 0 0 3) 139 5 (Int64.ofInt v)).2 q = _
        rw [rJ_nc a]
        show u2.2 q = _
        rw [q2.2 q b, vf.2 q b]
      · intro q a b b' b''
        rw [g4 q b' b'', rI_nc a, rI_nc a]
        exact df2.1 q a b
      · intro e a b b' b'' b3
        rw [g4 150 (by decide) (by decide), rI_ne (by omega), rI_ne (by omega)]
        exact df2.2.1 e a b b'
      · intro q a b b'
        rw [g5]
        exact df2.2.2 q a b b'
