def iI (a : Int) : Int32 := Int32.ofInt a
theorem iI_t {a : Int} (h : nb_ 1000 a) : (iI a).toInt = a := by
  unfold nb_ at h
  unfold iI
  rw [Int32.toInt_ofInt]
  exact bm32 (by omega) (by omega)
theorem iI_a (a b : Int) : iI a + iI b = iI (a + b) := (Int32.ofInt_add a b).symm
theorem iI_s (a b : Int) : iI a - iI b = iI (a - b) := (Int32.ofInt_sub a b).symm
theorem iI_n (a : Int) : -iI a = iI (-a) := (Int32.ofInt_neg a).symm
theorem iI_m (a b : Int) : iI a * iI b = iI (a * b) := (Int32.ofInt_mul a b).symm
theorem iI_le {a b : Int} (ha : nb_ 1000 a) (hb : nb_ 1000 b) : iI a ≤ iI b ↔ a ≤ b := by rw [Int32.le_iff_toInt_le, iI_t ha, iI_t hb]
theorem iI_lt {a b : Int} (ha : nb_ 1000 a) (hb : nb_ 1000 b) : iI a < iI b ↔ a < b := by rw [Int32.lt_iff_toInt_lt, iI_t ha, iI_t hb]
theorem iI_e {a b : Int} (ha : nb_ 1000 a) (hb : nb_ 1000 b) : iI a = iI b ↔ a = b := by
  constructor
  · intro h
    have := congrArg Int32.toInt h
    rw [iI_t ha, iI_t hb] at this; exact this
  · intro h; rw [h]
theorem ev_ab {m : Nat} {a : Int} (h : nb_ 1000 a) (u : xm_Y) : fn_J9_abs_0f7a4 m (iI a) u = some (iI (ab_ a), u) := by
  rw [fn_J9_abs_0f7a4]
  unfold ab_
  by_cases q : 0 ≤ a
  · rw [if_pos (show (0 : Int32) ≤ iI a from (iI_le (a := 0) (by unfold nb_; decide) h).mpr q), if_pos q]; rfl
  · rw [if_neg (show ¬ (0 : Int32) ≤ iI a from fun z => q ((iI_le (a := 0) (by unfold nb_; decide) h).mp z)), if_neg q, iI_n]; rfl
theorem ab_b {a : Int} {A : Nat} (h : nb_ A a) : nb_ A (ab_ a) := by
  unfold ab_ nb_ at *
  split <;> omega
def mC_ (u : xm_Y) (s : Int) (n : Nat) (x : S3_) (t : Int) : Prop := u.1 140 1 = iI s ∧ u.1 140 2 = iI (r1_ s n) ∧ u.1 140 3 = iI (r2_ s n) ∧ u.1 140 4 = iI t ∧ u.1 140 5 = iI (s + r1_ s n + r2_ s n) ∧ u.1 141 0 = iI x.1 ∧ u.1 141 1 = iI x.2.1 ∧ u.1 141 2 = iI x.2.2
def xf_ (c u : xm_Y) : Prop := (∀ q, q ≠ 140 → q ≠ 141 → u.1 q = c.1 q) ∧ u.2 = c.2
theorem xf_.rf (c : xm_Y) : xf_ c c := ⟨fun _ _ _ => rfl, rfl⟩
theorem xf_.tr {x y z : xm_Y} (h : xf_ x y) (g : xf_ y z) : xf_ x z := ⟨fun q a b => (g.1 q a b).trans (h.1 q a b), g.2.trans h.2⟩
theorem xf_.w {x y : xm_Y} (h : xf_ x y) {k j : Nat} {v : Int32} (hk : k = 140 ∨ k = 141) : xf_ x (w_I y k j v) := ⟨fun q a b => (rI_nc (by omega)).trans (h.1 q a b), h.2⟩
theorem r12 {s : Int} {n : Nat} (h1 : 1 ≤ s) (h5 : s ≤ 5) : 0 ≤ r1_ s n ∧ r1_ s n ≤ 5 ∧ 0 ≤ r2_ s n ∧ r2_ s n ≤ 5 := by
  unfold r1_ r2_
  refine ⟨?_, ?_, ?_, ?_⟩ <;> (split <;> omega)
/-- what stays small -/
def sml_ (w0 w1 t : Int) : Prop := -6 ≤ w0 ∧ w0 ≤ 6 ∧ -6 ≤ w1 ∧ w1 ≤ 6 ∧ 0 ≤ t ∧ t ≤ 16
theorem sml_n {s w0 w1 t : Int} {n : Nat} (h1 : 1 ≤ s) (h5 : s ≤ 5) (h : sml_ w0 w1 t) (ht : t ≤ s + r1_ s n + r2_ s n) : sml_ (np_ s n w0 w1 t).1 (np_ s n w0 w1 t).2.1 (np_ s n w0 w1 t).2.2 := by
  obtain ⟨a, b, c, d⟩ := r12 (n := n) h1 h5
  unfold np_ sml_ at *
  by_cases q : w1 + 1 ≤ r1_ s n
  · simp only [if_pos q]
    split <;> (simp only; omega)
  · simp only [if_neg q]
    split <;> (simp only; omega)
theorem ev_nextPair {m : Nat} {u : xm_Y} {s w0 w1 w2 t : Int} {n : Nat} (h1 : 1 ≤ s) (h5 : s ≤ 5) (h : mC_ u s n (w0, w1, w2) t) (sm : sml_ w0 w1 t) (ht : t ≤ s + r1_ s n + r2_ s n) : ∃ u', fn_X10_nextPair m u = some (if s + r1_ s n + r2_ s n < (np_ s n w0 w1 t).2.2 then 0 else 1, u') ∧ xf_ u u' ∧ mC_ u' s n ((np_ s n w0 w1 t).1, (np_ s n w0 w1 t).2.1, w2) (np_ s n w0 w1 t).2.2 := by
  obtain ⟨c1, c2, c3, c4, c5, c6, c7, c8⟩ := h
  obtain ⟨b1, b2, b3, b4⟩ := r12 (n := n) h1 h5
  have sm' := sml_n (n := n) h1 h5 sm ht
  obtain ⟨m1, m2, m3, m4, m5, m6⟩ := id sm
  have e1 : iI w1 + 1 = iI (w1 + 1) := iI_a w1 1
  have e0 : iI w0 + 1 = iI (w0 + 1) := iI_a w0 1
  have et : iI t + 1 = iI (t + 1) := iI_a t 1
  rw [fn_X10_nextPair, ck_t (by decide), ck_t (by decide)]
  simp only [xm_let]
  rw [ck_t (by decide), show u.1 141 (Int32.toNatClampNeg 1) = iI w1 from c7, e1]
  have v1 : (w_I u 141 (Int32.toNatClampNeg 1) (iI (w1 + 1))).1 141 (Int32.toNatClampNeg 1) = iI (w1 + 1) := rI_eq
  have v2 : (w_I u 141 (Int32.toNatClampNeg 1) (iI (w1 + 1))).1 140 2 = iI (r1_ s n) := (rI_ne (by omega)).trans c2
  rw [v1, v2]
  -- the first half
  obtain ⟨u2, w0b, w1b, f1, f2, f3, f4⟩ : ∃ (u2 : xm_Y) (w0b w1b : Int), (if iI (w1 + 1) ≤ iI (r1_ s n) then some (w_I u 141 (Int32.toNatClampNeg 1) (iI (w1 + 1))) else xm_chk (xm_in (1 : Int32) 3) (xm_chk (xm_in (0 : Int32) 3) (xm_chk (xm_in (0 : Int32) 3) (some (w_I (w_I (w_I u 141 (Int32.toNatClampNeg 1) (iI (w1 + 1))) 141 (Int32.toNatClampNeg 1) (-iI (r1_ s n))) 141 (Int32.toNatClampNeg 0) ((w_I (w_I u 141 (Int32.toNatClampNeg 1) (iI (w1 + 1))) 141 (Int32.toNatClampNeg 1) (-iI (r1_ s n))).1 141 (Int32.toNatClampNeg 0) + 1)))))) = some u2 ∧ xf_ u u2 ∧ mC_ u2 s n (w0b, w1b, w2) t ∧ (w0b, w1b) = (if w1 + 1 ≤ r1_ s n then (w0, w1 + 1) else (w0 + 1, -r1_ s n)) := by
    by_cases q : w1 + 1 ≤ r1_ s n
    · rw [if_pos ((iI_le (by unfold nb_; omega) (by unfold nb_; omega)).mpr q)]
      refine ⟨_, w0, w1 + 1, rfl, (xf_.rf u).w (Or.inr rfl), ⟨(rI_ne (by omega)).trans c1, (rI_ne (by omega)).trans c2, (rI_ne (by omega)).trans c3, (rI_ne (by omega)).trans c4, (rI_ne (by omega)).trans c5, (rI_ne (by decide)).trans c6, rI_eq, (rI_ne (by decide)).trans c8⟩, by rw [if_pos q]⟩
    · have z0 : (w_I (w_I u 141 (Int32.toNatClampNeg 1) (iI (w1 + 1))) 141 (Int32.toNatClampNeg 1) (-iI (r1_ s n))).1 141 (Int32.toNatClampNeg 0) = iI w0 := (rI_ne (by decide)).trans ((rI_ne (by decide)).trans c6)
      rw [if_neg (fun w => q ((iI_le (by unfold nb_; omega) (by unfold nb_; omega)).mp w)), ck_t (by decide), ck_t (by decide), ck_t (by decide), z0, e0, iI_n]
      refine ⟨_, w0 + 1, -r1_ s n, rfl, (((xf_.rf u).w (Or.inr rfl)).w (Or.inr rfl)).w (Or.inr rfl), ⟨?_, ?_, ?_, ?_, ?_, rI_eq, ?_, ?_⟩, by rw [if_neg q]⟩
      · rw [rI_ne (by omega), rI_ne (by omega), rI_ne (by omega)]; exact c1
      · rw [rI_ne (by omega), rI_ne (by omega), rI_ne (by omega)]; exact c2
      · rw [rI_ne (by omega), rI_ne (by omega), rI_ne (by omega)]; exact c3
      · rw [rI_ne (by omega), rI_ne (by omega), rI_ne (by omega)]; exact c4
      · rw [rI_ne (by omega), rI_ne (by omega), rI_ne (by omega)]; exact c5
      · rw [rI_ne (by decide)]; exact rI_eq
      · rw [rI_ne (by decide), rI_ne (by decide), rI_ne (by decide)]; exact c8
  rw [f1]
  simp only [Option.bind_some]
  obtain ⟨g1, g2, g3, g4, g5, g6, g7, g8⟩ := id f3
  have enp : np_ s n w0 w1 t = if w0b ≤ s then (w0b, w1b, t) else (-s, w1b, t + 1) := by
    unfold np_
    rw [← f4]
  have wb : -6 ≤ w0b ∧ w0b ≤ 7 := by
    by_cases q : w1 + 1 ≤ r1_ s n
    · rw [if_pos q] at f4
      have := congrArg Prod.fst f4
      simp only at this
      omega
    · rw [if_neg q] at f4
      have := congrArg Prod.fst f4
      simp only at this
      omega
  rw [ck_t (by decide), show u2.1 141 (Int32.toNatClampNeg 0) = iI w0b from g6, g1]
  have fin : ∀ (u3 : xm_Y) (a b t' : Int), np_ s n w0 w1 t = (a, b, t') → xf_ u2 u3 → mC_ u3 s n (a, b, w2) t' → 0 ≤ t' → t' ≤ 17 → ∃ u', (Option.bind (some u3) fun q7 => Option.bind (if q7.1 140 5 < q7.1 140 4 then some (0 : Int32) else some 1) fun q12 => xm_chk (q12 = 0 ∨ q12 = 1) (some (q12, q7))) = some (if s + r1_ s n + r2_ s n < (np_ s n w0 w1 t).2.2 then 0 else 1, u') ∧ xf_ u u' ∧ mC_ u' s n ((np_ s n w0 w1 t).1, (np_ s n w0 w1 t).2.1, w2) (np_ s n w0 w1 t).2.2 := by
    intro u3 a b t' e x mm t0 t17
    refine ⟨u3, ?_, f2.tr x, by rw [e]; exact mm⟩
    simp only [Option.bind_some]
    rw [mm.2.2.2.1, mm.2.2.2.2.1, e]
    by_cases q : s + r1_ s n + r2_ s n < t'
    · rw [if_pos ((iI_lt (by unfold nb_; omega) (by unfold nb_; omega)).mpr q), if_pos q]; rfl
    · rw [if_neg (fun w => q ((iI_lt (by unfold nb_; omega) (by unfold nb_; omega)).mp w)), if_neg q]; rfl
  by_cases q : w0b ≤ s
  · rw [if_pos ((iI_le (by unfold nb_; omega) (by unfold nb_; omega)).mpr q)]
    rw [if_pos q] at enp
    exact fin u2 w0b w1b t enp (xf_.rf u2) f3 m5 (by omega)
  · rw [if_neg (fun w => q ((iI_le (by unfold nb_; omega) (by unfold nb_; omega)).mp w)), ck_t (by decide), iI_n]
    rw [if_neg q] at enp
    have z4 : (w_I u2 141 (Int32.toNatClampNeg 0) (iI (-s))).1 140 4 = iI t := (rI_ne (by omega)).trans g4
    rw [z4, et]
    refine fin _ (-s) w1b (t + 1) enp (((xf_.rf u2).w (Or.inr rfl)).w (Or.inl rfl)) ⟨?_, ?_, ?_, rI_eq, ?_, ?_, ?_, ?_⟩ (by omega) (by omega)
    · rw [rI_ne (by omega), rI_ne (by omega)]; exact g1
    · rw [rI_ne (by omega), rI_ne (by omega)]; exact g2
    · rw [rI_ne (by omega), rI_ne (by omega)]; exact g3
    · rw [rI_ne (by omega), rI_ne (by omega)]; exact g5
    · rw [rI_ne (by omega)]; exact rI_eq
    · rw [rI_ne (by omega), rI_ne (by decide)]; exact g7
    · rw [rI_ne (by omega), rI_ne (by decide)]; exact g8
theorem nx_lp {m : Nat} {s w2 : Int} {n : Nat} (h1 : 1 ≤ s) (h5 : s ≤ 5) : ∀ (k l f : Nat) (u : xm_Y) (w0 w1 t : Int) (o : Option S3_), l + k ≤ 3000 → k + 1 ≤ f → mC_ u s n (w0, w1, w2) t → sml_ w0 w1 t → t ≤ s + r1_ s n + r2_ s n → clp_ s n k w0 w1 t = some o → ∃ u', (lp_X10_next_26 m f (nI l) u).bind (Sum.elim (fun r => some r) (fun q13 => some ((0 : Int32), q13.2))) = some (if o.isSome = true then 1 else 0, u') ∧ xf_ u u' ∧ (∀ y, o = some y → mC_ u' s n y (tot_ y) ∧ sml_ y.1 y.2.1 (tot_ y) ∧ tot_ y ≤ s + r1_ s n + r2_ s n)
  | 0, l, f, u, w0, w1, t, o, hl, hf, h, sm, ht, hc => by cases hc
  | k + 1, l, f, u, w0, w1, t, o, hl, hf, h, sm, ht, hc => by
    obtain ⟨f', rfl⟩ : ∃ f', f = f' + 1 := ⟨f - 1, by omega⟩
    obtain ⟨u1, a1, a2, a3⟩ := ev_nextPair (m := m) h1 h5 h sm ht
    have sm' := sml_n (n := n) h1 h5 sm ht
    obtain ⟨b1, b2, b3, b4⟩ := r12 (n := n) h1 h5
    have hc : (if s + r1_ s n + r2_ s n < (np_ s n w0 w1 t).2.2 then some none else if (np_ s n w0 w1 t).2.2 - ab_ (np_ s n w0 w1 t).1 - ab_ (np_ s n w0 w1 t).2.1 < 0 then clp_ s n k (np_ s n w0 w1 t).1 (np_ s n w0 w1 t).2.1 (np_ s n w0 w1 t).2.2 else if r2_ s n < (np_ s n w0 w1 t).2.2 - ab_ (np_ s n w0 w1 t).1 - ab_ (np_ s n w0 w1 t).2.1 then clp_ s n k (np_ s n w0 w1 t).1 (np_ s n w0 w1 t).2.1 (np_ s n w0 w1 t).2.2 else some (some ((np_ s n w0 w1 t).1, (np_ s n w0 w1 t).2.1, -((np_ s n w0 w1 t).2.2 - ab_ (np_ s n w0 w1 t).1 - ab_ (np_ s n w0 w1 t).2.1)))) = some o := hc
    rw [lp_X10_next_26, if_neg (show ¬ (4000 : Int32) ≤ nI l from fun q => absurd ((nIle (a := 4000) (by omega) (by omega)).mp q) (by omega)), a1]
    generalize np_ s n w0 w1 t = p at *
    obtain ⟨p0, p1, pt⟩ := p
    simp only at hc a3 sm'
    simp only [Option.bind_some]
    by_cases q : s + r1_ s n + r2_ s n < pt
    · rw [if_pos q] at hc
      cases hc
      rw [if_pos q, if_pos rfl]
      exact ⟨u1, rfl, a2, fun y hy => by cases hy⟩
    · rw [if_neg q] at hc
      obtain ⟨c1, c2, c3, c4, c5, c6, c7, c8⟩ := id a3
      obtain ⟨m1, m2, m3, m4, m5, m6⟩ := id sm'
      have n0 : nb_ 1000 p0 := by unfold nb_; omega
      have n1 : nb_ 1000 p1 := by unfold nb_; omega
      rw [if_neg q, if_neg (by decide), ck_t (by decide), show u1.1 141 (Int32.toNatClampNeg 0) = iI p0 from c6, ev_ab n0]
      simp only [Option.bind_some]
      rw [ck_t (by decide), show u1.1 141 (Int32.toNatClampNeg 1) = iI p1 from c7, ev_ab n1]
      simp only [Option.bind_some, xm_let]
      rw [c4, c3, iI_s, iI_s]
      have a0 : nb_ 6 (ab_ p0) := ab_b (by unfold nb_; omega)
      have a1' : nb_ 6 (ab_ p1) := ab_b (by unfold nb_; omega)
      have nr : nb_ 1000 (pt - ab_ p0 - ab_ p1) := by unfold nb_ at *; omega
      by_cases q1 : pt - ab_ p0 - ab_ p1 < 0
      · rw [if_pos q1] at hc
        rw [if_pos (show iI (pt - ab_ p0 - ab_ p1) < 0 from (iI_lt (b := 0) nr (by unfold nb_; decide)).mpr q1), ← nI_succ]
        obtain ⟨u', r1, r2, r3⟩ := nx_lp (m := m) h1 h5 k (l + 1) f' u1 p0 p1 pt o (by omega) (by omega) a3 sm' (by omega) hc
        exact ⟨u', r1, a2.tr r2, r3⟩
      · rw [if_neg q1] at hc
        rw [if_neg (show ¬ iI (pt - ab_ p0 - ab_ p1) < 0 from fun w => q1 ((iI_lt (b := 0) nr (by unfold nb_; decide)).mp w))]
        by_cases q2 : r2_ s n < pt - ab_ p0 - ab_ p1
        · rw [if_pos q2] at hc
          rw [if_pos ((iI_lt (by unfold nb_; omega) nr).mpr q2), ← nI_succ]
          obtain ⟨u', r1, r2, r3⟩ := nx_lp (m := m) h1 h5 k (l + 1) f' u1 p0 p1 pt o (by omega) (by omega) a3 sm' (by omega) hc
          exact ⟨u', r1, a2.tr r2, r3⟩
        · rw [if_neg q2] at hc
          cases hc
          rw [if_neg (fun w => q2 ((iI_lt (by unfold nb_; omega) nr).mp w)), ck_t (by decide), iI_n]
          have tt : tot_ (p0, p1, -(pt - ab_ p0 - ab_ p1)) = pt := by
            unfold tot_
            simp only
            generalize ab_ p0 = x at *
            generalize ab_ p1 = y at *
            unfold ab_
            split <;> omega
          refine ⟨_, rfl, a2.tr ((xf_.rf u1).w (Or.inr rfl)), fun y hy => ?_⟩
          cases hy
          rw [tt]
          refine ⟨⟨?_, ?_, ?_, ?_, ?_, ?_, ?_, rI_eq⟩, sm', by omega⟩
          · rw [rI_ne (by omega)]; exact c1
          · rw [rI_ne (by omega)]; exact c2
          · rw [rI_ne (by omega)]; exact c3
          · rw [rI_ne (by omega)]; exact c4
          · rw [rI_ne (by omega)]; exact c5
          · rw [rI_ne (by decide)]; exact c6
          · rw [rI_ne (by decide)]; exact c7
/-- the class's next -/
theorem ev_nextC {m : Nat} (hm : 3100 ≤ m) {u : xm_Y} {s : Int} {n : Nat} (h1 : 1 ≤ s) (h5 : s ≤ 5) {x : S3_} (h : mC_ u s n x (tot_ x)) (cu : cub_ s n x = true) {o : Option S3_} (hc : nC_ s n x = some o) : ∃ u', fn_X10_next m u = some (if o.isSome = true then 1 else 0, u') ∧ xf_ u u' ∧ (∀ y, o = some y → mC_ u' s n y (tot_ y)) := by
  obtain ⟨b1, b2, b3, b4⟩ := r12 (n := n) h1 h5
  unfold cub_ at cu
  simp only [Bool.and_eq_true, decide_eq_true_iff] at cu
  obtain ⟨⟨⟨⟨⟨x1, x2⟩, x3⟩, x4⟩, x5⟩, x6⟩ := cu
  obtain ⟨c1, c2, c3, c4, c5, c6, c7, c8⟩ := id h
  have nz : nb_ 1000 x.2.2 := by unfold nb_; omega
  rw [fn_X10_next, ck_t (by decide), show u.1 141 (Int32.toNatClampNeg 2) = iI x.2.2 from c8]
  unfold nC_ at hc
  by_cases q : 0 ≤ x.2.2
  · rw [if_pos q] at hc
    rw [if_pos (show (0 : Int32) ≤ iI x.2.2 from (iI_le (a := 0) (by unfold nb_; decide) nz).mpr q)]
    have a0 : ab_ x.1 ≤ s ∧ 0 ≤ ab_ x.1 := by unfold ab_; split <;> omega
    have a1 : ab_ x.2.1 ≤ r1_ s n ∧ 0 ≤ ab_ x.2.1 := by unfold ab_; split <;> omega
    have a2 : ab_ x.2.2 ≤ r2_ s n ∧ 0 ≤ ab_ x.2.2 := by unfold ab_; split <;> omega
    obtain ⟨u', r1, r2, r3⟩ := nx_lp (m := m) (w2 := x.2.2) h1 h5 2000 0 m u x.1 x.2.1 (tot_ x) o (by omega) (by omega) h ⟨by omega, by omega, by omega, by omega, by unfold tot_; omega, by unfold tot_; omega⟩ (by unfold tot_; omega) hc
    exact ⟨u', r1, r2, fun y hy => (r3 y hy).1⟩
  · rw [if_neg q] at hc
    cases hc
    rw [if_neg (show ¬ (0 : Int32) ≤ iI x.2.2 from fun w => q ((iI_le (a := 0) (by unfold nb_; decide) nz).mp w)), ck_t (by decide), ck_t (by decide), iI_n]
    refine ⟨_, rfl, (xf_.rf u).w (Or.inr rfl), fun y hy => ?_⟩
    cases hy
    have tt : tot_ (x.1, x.2.1, -x.2.2) = tot_ x := by
      unfold tot_
      simp only
      have : ab_ (-x.2.2) = ab_ x.2.2 := by unfold ab_; rw [if_pos (by omega), if_neg q]
      rw [this]
    rw [tt]
    refine ⟨(rI_ne (by omega)).trans c1, (rI_ne (by omega)).trans c2, (rI_ne (by omega)).trans c3, (rI_ne (by omega)).trans c4, (rI_ne (by omega)).trans c5, (rI_ne (by decide)).trans c6, (rI_ne (by decide)).trans c7, rI_eq⟩
/-- its start, and the first -/
theorem ev_startC {m : Nat} (hm : 3100 ≤ m) {u : xm_Y} {s n : Nat} (h1 : 1 ≤ s) (h5 : s ≤ 5) (n1 : 1 ≤ n) (n3 : n ≤ 3) {o : Option S3_} (hc : fC_ s n = some o) : ∃ u0 u', fn_X10_start m (nI s) (nI n) u = some ((), u0) ∧ xf_ u u0 ∧ fn_X10_next m u0 = some (if o.isSome = true then 1 else 0, u') ∧ xf_ u u' ∧ (∀ y, o = some y → mC_ u' s n y (tot_ y)) := by
  have hs : (1 : Int) ≤ s := by omega
  have hs5 : (s : Int) ≤ 5 := by omega
  obtain ⟨b1, b2, b3, b4⟩ := r12 (n := n) hs hs5
  have e2 : ((if nI n ≤ (1 : Int32) then some (0 : Int32) else some (nI s)) : Option Int32) = some (iI (r1_ s n)) := by
    unfold r1_
    by_cases q : n ≤ 1
    · rw [if_pos (show nI n ≤ 1 from (nIle (b := 1) (by omega) (by omega)).mpr q), if_pos q]; rfl
    · rw [if_neg (show ¬ nI n ≤ 1 from fun w => q ((nIle (b := 1) (by omega) (by omega)).mp w)), if_neg q]; rfl
  have e3 : ((if nI n ≤ (2 : Int32) then some (0 : Int32) else some (nI s)) : Option Int32) = some (iI (r2_ s n)) := by
    unfold r2_
    by_cases q : n ≤ 2
    · rw [if_pos (show nI n ≤ 2 from (nIle (b := 2) (by omega) (by omega)).mpr q), if_pos q]; rfl
    · rw [if_neg (show ¬ nI n ≤ 2 from fun w => q ((nIle (b := 2) (by omega) (by omega)).mp w)), if_neg q]; rfl
  obtain ⟨u0, s1, s2, s3⟩ : ∃ u0, fn_X10_start m (nI s) (nI n) u = some ((), u0) ∧ xf_ u u0 ∧ mC_ u0 s n (-(s : Int), -r1_ s n - 1, 0) 1 := by
    rw [fn_X10_start]
    simp only [xm_let]
    have v1 : (w_I u 140 1 (nI s)).1 140 1 = nI s := rI_eq
    rw [v1, e2]
    simp only [Option.bind_some]
    have v2 : (w_I (w_I u 140 1 (nI s)) 140 2 (iI (r1_ s n))).1 140 1 = nI s := (rI_ne (by decide)).trans rI_eq
    rw [v2, e3]
    simp only [Option.bind_some]
    rw [ck_t (by decide), ck_t (by decide), ck_t (by decide)]
    have w1 : (w_I (w_I (w_I (w_I u 140 1 (nI s)) 140 2 (iI (r1_ s n))) 140 3 (iI (r2_ s n))) 140 4 1).1 140 1 = iI s := by rw [rI_ne (by decide), rI_ne (by decide), rI_ne (by decide), rI_eq]; rfl
    have w2 : (w_I (w_I (w_I (w_I u 140 1 (nI s)) 140 2 (iI (r1_ s n))) 140 3 (iI (r2_ s n))) 140 4 1).1 140 2 = iI (r1_ s n) := by rw [rI_ne (by decide), rI_ne (by decide), rI_eq]
    have w3 : (w_I (w_I (w_I (w_I u 140 1 (nI s)) 140 2 (iI (r1_ s n))) 140 3 (iI (r2_ s n))) 140 4 1).1 140 3 = iI (r2_ s n) := by rw [rI_ne (by decide), rI_eq]
    rw [w1, w2, w3, iI_a, iI_a]
    generalize hU : w_I (w_I (w_I (w_I u 140 1 (nI s)) 140 2 (iI (r1_ s n))) 140 3 (iI (r2_ s n))) 140 4 1 = U at *
    have xU : xf_ u U := by rw [← hU]; exact ((((xf_.rf u).w (Or.inl rfl)).w (Or.inl rfl)).w (Or.inl rfl)).w (Or.inl rfl)
    have w4 : U.1 140 4 = iI 1 := by rw [← hU]; exact rI_eq
    have y1 : (w_I U 140 5 (iI (s + r1_ s n + r2_ s n))).1 140 1 = iI s := (rI_ne (by decide)).trans w1
    rw [y1, iI_n]
    have y2 : (w_I (w_I U 140 5 (iI (s + r1_ s n + r2_ s n))) 141 (Int32.toNatClampNeg 0) (iI (-(s : Int)))).1 140 2 = iI (r1_ s n) := by rw [rI_ne (by decide), rI_ne (by decide)]; exact w2
    rw [y2, iI_n, show iI (-r1_ s n) - 1 = iI (-r1_ s n - 1) from iI_s _ 1]
    refine ⟨_, rfl, (((xU.w (Or.inl rfl)).w (Or.inr rfl)).w (Or.inr rfl)).w (Or.inr rfl), ?_, ?_, ?_, ?_, ?_, ?_, ?_, rI_eq⟩
    · rw [rI_ne (by decide), rI_ne (by decide), rI_ne (by decide), rI_ne (by decide)]; exact w1
    · rw [rI_ne (by decide), rI_ne (by decide), rI_ne (by decide), rI_ne (by decide)]; exact w2
    · rw [rI_ne (by decide), rI_ne (by decide), rI_ne (by decide), rI_ne (by decide)]; exact w3
    · rw [rI_ne (by decide), rI_ne (by decide), rI_ne (by decide), rI_ne (by decide)]; exact w4
    · rw [rI_ne (by decide), rI_ne (by decide), rI_ne (by decide)]; exact rI_eq
    · rw [rI_ne (by decide), rI_ne (by decide)]; exact rI_eq
    · rw [rI_ne (by decide)]; exact rI_eq
  obtain ⟨u', r1, r2, r3⟩ := nx_lp (m := m) (w2 := 0) hs hs5 2000 0 m u0 (-(s : Int)) (-r1_ s n - 1) 1 o (by omega) (by omega) s3 ⟨by omega, by omega, by omega, by omega, by omega, by omega⟩ (by omega) hc
  refine ⟨u0, u', s1, s2, ?_, s2.tr r2, fun y hy => (r3 y hy).1⟩
  rw [fn_X10_next, ck_t (by decide), show u0.1 141 (Int32.toNatClampNeg 2) = iI 0 from s3.2.2.2.2.2.2.2, if_pos (by decide)]
  exact r1
