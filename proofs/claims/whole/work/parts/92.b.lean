def Emp_ (L : List V4_) : Prop := ∀ q : V4_, (∀ g, g ∈ L → 0 ≤ dp_ g q) → ¬ 0 < q.2.2.2
theorem lt_of {L : List V4_} {i : Nat} {a : V4_} (h : L[i]? = some a) : i < L.length := by rw [List.getElem?_eq_some_iff] at h; exact h.1
theorem ev_crossd {m : Nat} {u : xm_Y} {L : List V4_} (h : sq_ u L) {i j : Nat} {a b : V4_} (ha : L[i]? = some a) (hb : L[j]? = some b) : fn_X12_cross m (nI i) (nI j) 0 u = some (Int64.ofInt (cx_ a b).1, u) ∧ fn_X12_cross m (nI i) (nI j) 1 u = some (Int64.ofInt (cx_ a b).2.1, u) ∧ fn_X12_cross m (nI i) (nI j) 2 u = some (Int64.ofInt (cx_ a b).2.2.1, u) := by
  have il := lt_of ha
  have jl := lt_of hb
  have l12 := h.2.1
  obtain ⟨a1, a2, a3, -⟩ := h.2.2 i a ha
  obtain ⟨b1, b2, b3, -⟩ := h.2.2 j b hb
  have e4 : ∀ k, (4 : Int32) * nI k = nI (4 * k) := fun k => nI_mu 4 k
  have e1 : ∀ k, nI (4 * k) + 1 = nI (4 * k + 1) := fun k => nI_ad _ 1
  have e2 : ∀ k, nI (4 * k) + 2 = nI (4 * k + 2) := fun k => nI_ad _ 2
  have e0 : ∀ k, nI (4 * k) + 0 = nI (4 * k) := fun k => Int32.add_zero _
  have c0 : ∀ k, k < L.length → xm_in (nI (4 * k)) 48 := fun k hk => nI_xi (by omega) (by omega)
  have c1 : ∀ k, k < L.length → xm_in (nI (4 * k + 1)) 48 := fun k hk => nI_xi (by omega) (by omega)
  have c2 : ∀ k, k < L.length → xm_in (nI (4 * k + 2)) 48 := fun k hk => nI_xi (by omega) (by omega)
  have d0 : ∀ k, k < L.length → (nI (4 * k)).toNatClampNeg = 4 * k := fun k hk => nI_cl (by omega)
  have d1 : ∀ k, k < L.length → (nI (4 * k + 1)).toNatClampNeg = 4 * k + 1 := fun k hk => nI_cl (by omega)
  have d2 : ∀ k, k < L.length → (nI (4 * k + 2)).toNatClampNeg = 4 * k + 2 := fun k hk => nI_cl (by omega)
  refine ⟨?_, ?_, ?_⟩
  · rw [fn_X12_cross, ck_t (by decide)]
    simp only [xm_let]
    rw [ck_t (by decide)]
    show xm_chk (xm_in ((4 : Int32) * nI i + 1) 48) (xm_chk (xm_in ((4 : Int32) * nI j + 2) 48) (xm_chk (xm_in ((4 : Int32) * nI i + 2) 48) (xm_chk (xm_in ((4 : Int32) * nI j + 1) 48) (some (u.2 159 ((4 : Int32) * nI i + 1).toNatClampNeg * u.2 159 ((4 : Int32) * nI j + 2).toNatClampNeg - u.2 159 ((4 : Int32) * nI i + 2).toNatClampNeg * u.2 159 ((4 : Int32) * nI j + 1).toNatClampNeg, u))))) = _
    rw [e4, e4, e1, e2, e1, e2, ck_t (c1 i il), ck_t (c2 j jl), ck_t (c2 i il), ck_t (c1 j jl), d1 i il, d2 j jl, d2 i il, d1 j jl, a2, b3, a3, b2, om, om, os]
    rfl
  · rw [fn_X12_cross, ck_t (by decide)]
    simp only [xm_let]
    rw [ck_t (by decide)]
    show xm_chk (xm_in ((4 : Int32) * nI i + 2) 48) (xm_chk (xm_in ((4 : Int32) * nI j + 0) 48) (xm_chk (xm_in ((4 : Int32) * nI i + 0) 48) (xm_chk (xm_in ((4 : Int32) * nI j + 2) 48) (some (u.2 159 ((4 : Int32) * nI i + 2).toNatClampNeg * u.2 159 ((4 : Int32) * nI j + 0).toNatClampNeg - u.2 159 ((4 : Int32) * nI i + 0).toNatClampNeg * u.2 159 ((4 : Int32) * nI j + 2).toNatClampNeg, u))))) = _
    rw [e4, e4, e0, e0, e2, e2, ck_t (c2 i il), ck_t (c0 j jl), ck_t (c0 i il), ck_t (c2 j jl), d2 i il, d0 j jl, d0 i il, d2 j jl, a3, b1, a1, b3, om, om, os]
    rfl
  · rw [fn_X12_cross, ck_t (by decide)]
    simp only [xm_let]
    rw [ck_t (by decide)]
    show xm_chk (xm_in ((4 : Int32) * nI i + 0) 48) (xm_chk (xm_in ((4 : Int32) * nI j + 1) 48) (xm_chk (xm_in ((4 : Int32) * nI i + 1) 48) (xm_chk (xm_in ((4 : Int32) * nI j + 0) 48) (some (u.2 159 ((4 : Int32) * nI i + 0).toNatClampNeg * u.2 159 ((4 : Int32) * nI j + 1).toNatClampNeg - u.2 159 ((4 : Int32) * nI i + 1).toNatClampNeg * u.2 159 ((4 : Int32) * nI j + 0).toNatClampNeg, u))))) = _
    rw [e4, e4, e0, e0, e1, e1, ck_t (c0 i il), ck_t (c1 j jl), ck_t (c1 i il), ck_t (c0 j jl), d0 i il, d1 j jl, d1 i il, d0 j jl, a1, b2, a2, b1, om, om, os]
    rfl
theorem ev_det {m : Nat} {u : xm_Y} {L : List V4_} (h : sq_ u L) {i j k : Nat} {a b c : V4_} (ha : L[i]? = some a) (hb : L[j]? = some b) (hc : L[k]? = some c) : fn_X12_determinant m (nI i) (nI j) (nI k) u = some (Int64.ofInt (d3_ a b c), u) := by
  obtain ⟨x0, x1, x2⟩ := ev_crossd (m := m) h hb hc
  have il := lt_of ha
  have l12 := h.2.1
  obtain ⟨a1, a2, a3, -⟩ := h.2.2 i a ha
  rw [fn_X12_determinant, show (4 : Int32) * nI i = nI (4 * i) from nI_mu 4 i, show nI (4 * i) + 1 = nI (4 * i + 1) from nI_ad _ 1, show nI (4 * i) + 2 = nI (4 * i + 2) from nI_ad _ 2, ck_t (nI_xi (by omega) (by omega)), x0]
  simp only [Option.bind_some]
  rw [ck_t (nI_xi (by omega) (by omega)), x1]
  simp only [Option.bind_some]
  rw [ck_t (nI_xi (by omega) (by omega)), x2]
  simp only [Option.bind_some]
  rw [nI_cl (show 4 * i < 2 ^ 31 by omega), nI_cl (show 4 * i + 1 < 2 ^ 31 by omega), nI_cl (show 4 * i + 2 < 2 ^ 31 by omega), a1, a2, a3, om, om, om, oa, oa]
  rfl
def z3_ (a : V4_) : Prop := a.1 = 0 ∧ a.2.1 = 0 ∧ a.2.2.1 = 0
theorem ev_isZero {m : Nat} {u : xm_Y} {L : List V4_} (h : sq_ u L) {i : Nat} {a : V4_} (ha : L[i]? = some a) (la : bl_ a) : ∃ r : Int32, fn_X12_isZero m (nI i) u = some (r, u) ∧ (r = 0 ∨ r = 1) ∧ (r = 0 ↔ ¬ z3_ a) := by
  have il := lt_of ha
  have l12 := h.2.1
  obtain ⟨a1, a2, a3, -⟩ := h.2.2 i a ha
  have z : ∀ {y : Int}, nb_ 20 y → (Int64.ofInt y = 0 ↔ y = 0) := fun hy => i64z (nb_w hy (by decide))
  rw [fn_X12_isZero, show (4 : Int32) * nI i = nI (4 * i) from nI_mu 4 i, show nI (4 * i) + 1 = nI (4 * i + 1) from nI_ad _ 1, show nI (4 * i) + 2 = nI (4 * i + 2) from nI_ad _ 2]
  simp only [ck_t (show xm_in (nI (4 * i)) 48 from nI_xi (by omega) (by omega)), ck_t (show xm_in (nI (4 * i + 1)) 48 from nI_xi (by omega) (by omega)), ck_t (show xm_in (nI (4 * i + 2)) 48 from nI_xi (by omega) (by omega)), nI_cl (show 4 * i < 2 ^ 31 by omega), nI_cl (show 4 * i + 1 < 2 ^ 31 by omega), nI_cl (show 4 * i + 2 < 2 ^ 31 by omega), a1, a2, a3]
  by_cases q1 : a.1 = 0
  · rw [if_pos ((z la.1).mpr q1)]
    by_cases q2 : a.2.1 = 0
    · rw [if_pos ((z la.2.1).mpr q2)]
      by_cases q3 : a.2.2.1 = 0
      · rw [if_pos ((z la.2.2.1).mpr q3)]
        exact ⟨1, rfl, Or.inr rfl, fun w => absurd w (by decide), fun w => absurd ⟨q1, q2, q3⟩ w⟩
      · rw [if_neg (fun w => q3 ((z la.2.2.1).mp w))]
        exact ⟨0, rfl, Or.inl rfl, fun _ w => q3 w.2.2, fun _ => rfl⟩
    · rw [if_neg (fun w => q2 ((z la.2.1).mp w))]
      exact ⟨0, rfl, Or.inl rfl, fun _ w => q2 w.2.1, fun _ => rfl⟩
  · rw [if_neg (fun w => q1 ((z la.1).mp w))]
    exact ⟨0, rfl, Or.inl rfl, fun _ w => q1 w.1, fun _ => rfl⟩
theorem ev_parallel {m : Nat} {u : xm_Y} {L : List V4_} (h : sq_ u L) {i j : Nat} {a b : V4_} (ha : L[i]? = some a) (hb : L[j]? = some b) (la : bl_ a) (lb : bl_ b) : ∃ r : Int32, fn_X12_areParallel m (nI i) (nI j) u = some (r, u) ∧ (r = 0 ↔ cx_ a b ≠ z4_) := by
  obtain ⟨x0, x1, x2⟩ := ev_crossd (m := m) h ha hb
  obtain ⟨c1, c2, c3⟩ := cx_b la lb
  have z : ∀ {y : Int}, nb_ 800 y → (Int64.ofInt y = 0 ↔ y = 0) := fun hy => i64z (nb_w hy (by decide))
  rw [fn_X12_areParallel, x0]
  simp only [Option.bind_some]
  by_cases q1 : (cx_ a b).1 = 0
  · rw [if_pos ((z c1).mpr q1), x1]
    simp only [Option.bind_some]
    by_cases q2 : (cx_ a b).2.1 = 0
    · rw [if_pos ((z c2).mpr q2), x2]
      simp only [Option.bind_some]
      by_cases q3 : (cx_ a b).2.2.1 = 0
      · rw [if_pos ((z c3).mpr q3)]
        exact ⟨1, rfl, fun w => absurd w (by decide), fun w => absurd (show cx_ a b = z4_ from v4_ext q1 q2 q3 rfl) w⟩
      · rw [if_neg (fun w => q3 ((z c3).mp w))]
        exact ⟨0, rfl, fun _ w => q3 (by rw [w]; rfl), fun _ => rfl⟩
    · rw [if_neg (fun w => q2 ((z c2).mp w))]
      exact ⟨0, rfl, fun _ w => q2 (by rw [w]; rfl), fun _ => rfl⟩
  · rw [if_neg (fun w => q1 ((z c1).mp w))]
    exact ⟨0, rfl, fun _ w => q1 (by rw [w]; rfl), fun _ => rfl⟩
/-- part t of a row -/
def cm_ (a : V4_) (t : Nat) : Int := if t = 0 then a.1 else if t = 1 then a.2.1 else a.2.2.1
theorem sq_cm {u : xm_Y} {L : List V4_} (h : sq_ u L) {i t : Nat} {a : V4_} (ha : L[i]? = some a) (ht : t < 3) : u.2 159 (4 * i + t) = Int64.ofInt (cm_ a t) := by
  obtain ⟨a1, a2, a3, -⟩ := h.2.2 i a ha
  have : t = 0 ∨ t = 1 ∨ t = 2 := by omega
  rcases this with rfl | rfl | rfl
  · exact a1
  · exact a2
  · exact a3
theorem cm_b {a : V4_} (la : bl_ a) (t : Nat) : nb_ 20 (cm_ a t) := by
  unfold cm_
  split
  · exact la.1
  · split
    · exact la.2.1
    · exact la.2.2.1
/-- the first part that is not 0 -/
theorem fstm {a : V4_} (h : ¬ z3_ a) : ∃ t, t < 3 ∧ cm_ a t ≠ 0 ∧ ∀ s, s < t → cm_ a s = 0 := by
  by_cases q1 : a.1 = 0
  · by_cases q2 : a.2.1 = 0
    · have q3 : a.2.2.1 ≠ 0 := fun z => h ⟨q1, q2, z⟩
      refine ⟨2, by omega, q3, fun s hs => ?_⟩
      have : s = 0 ∨ s = 1 := by omega
      rcases this with rfl | rfl
      · exact q1
      · exact q2
    · refine ⟨1, by omega, q2, fun s hs => ?_⟩
      obtain rfl : s = 0 := by omega
      exact q1
  · exact ⟨0, by omega, q1, fun s hs => by omega⟩
theorem two29 {m : Nat} {u : xm_Y} {L : List V4_} (h : sq_ u L) {i t : Nat} {a : V4_} (ha : L[i]? = some a) (la : bl_ a) (ht : t < 3) (hz : cm_ a t ≠ 0) (hs : ∀ s, s < t → cm_ a s = 0) : ∀ (r s f : Nat), s + r = t → r + 1 ≤ f → lp_X12_twoLeaveNothing_29 m (nI i) u f (nI s) = some (nI t) ∧ lp_X12_byOne_44 m (nI i) u f (nI s) = some (nI t)
  | 0, s, f, hr, hf => by
    obtain ⟨f', rfl⟩ : ∃ f', f = f' + 1 := ⟨f - 1, by omega⟩
    obtain rfl : s = t := by omega
    have il := lt_of ha
    have l12 := h.2.1
    have e : (4 : Int32) * nI i + nI s = nI (4 * i + s) := by rw [show (4 : Int32) = nI 4 from rfl, nI_mu, nI_ad]
    have nz : ¬ Int64.ofInt (cm_ a s) = 0 := fun z => hz ((i64z (nb_w (cm_b la s) (by decide))).mp z)
    rw [lp_X12_twoLeaveNothing_29, lp_X12_byOne_44, e, ck_t (nI_xi (by omega) (by omega)), ck_t (nI_xi (by omega) (by omega)), nI_cl (by omega), sq_cm h ha ht, if_neg nz, if_neg nz]
    exact ⟨rfl, rfl⟩
  | r + 1, s, f, hr, hf => by
    obtain ⟨f', rfl⟩ : ∃ f', f = f' + 1 := ⟨f - 1, by omega⟩
    have ih := two29 (m := m) h ha la ht hz hs r (s + 1) f' (by omega) (by omega)
    have il := lt_of ha
    have l12 := h.2.1
    have e : (4 : Int32) * nI i + nI s = nI (4 * i + s) := by rw [show (4 : Int32) = nI 4 from rfl, nI_mu, nI_ad]
    have z : Int64.ofInt (cm_ a s) = 0 := by rw [hs s (by omega)]; rfl
    rw [lp_X12_twoLeaveNothing_29, lp_X12_byOne_44, e, ck_t (nI_xi (by omega) (by omega)), ck_t (nI_xi (by omega) (by omega)), nI_cl (by omega), sq_cm h ha (by omega), if_pos z, if_pos z]
    simp only [xm_let]
    rw [← nI_succ]
    exact ih
theorem cx_cm {a b : V4_} (h : cx_ a b = z4_) (t s : Nat) (ht : t < 3) (hs : s < 3) : cm_ a t * cm_ b s = cm_ a s * cm_ b t := by
  simp only [cx_, z4_, Prod.mk.injEq] at h
  have : t = 0 ∨ t = 1 ∨ t = 2 := by omega
  have : s = 0 ∨ s = 1 ∨ s = 2 := by omega
  rcases ‹t = 0 ∨ t = 1 ∨ t = 2› with rfl | rfl | rfl <;> rcases ‹s = 0 ∨ s = 1 ∨ s = 2› with rfl | rfl | rfl <;> (unfold cm_; simp only [if_pos, if_neg, show ¬ (1 : Nat) = 0 by decide, show ¬ (2 : Nat) = 0 by decide, show ¬ (2 : Nat) = 1 by decide]; try grind)
theorem empty2 {L : List V4_} {a b : V4_} (ha : a ∈ L) (hb : b ∈ L) {α β : Int} (pa : 0 ≤ α) (pb : 0 ≤ β) (h1 : α * a.1 + β * b.1 = 0) (h2 : α * a.2.1 + β * b.2.1 = 0) (h3 : α * a.2.2.1 + β * b.2.2.1 = 0) (h4 : α * a.2.2.2 + β * b.2.2.2 < 0) : Emp_ L := by
  intro q hq q4
  have x := Int.mul_nonneg pa (hq a ha)
  have y := Int.mul_nonneg pb (hq b hb)
  have e : α * dp_ a q + β * dp_ b q = (α * a.1 + β * b.1) * q.1 + (α * a.2.1 + β * b.2.1) * q.2.1 + (α * a.2.2.1 + β * b.2.2.1) * q.2.2.1 + (α * a.2.2.2 + β * b.2.2.2) * q.2.2.2 := by unfold dp_; grind
  rw [h1, h2, h3] at e
  have := Int.mul_pos (show 0 < -(α * a.2.2.2 + β * b.2.2.2) by omega) q4
  have e2 : -(α * a.2.2.2 + β * b.2.2.2) * q.2.2.2 = -((α * a.2.2.2 + β * b.2.2.2) * q.2.2.2) := by grind
  omega
theorem empty4 {L : List V4_} {a b c d : V4_} (ha : a ∈ L) (hb : b ∈ L) (hc : c ∈ L) (hd : d ∈ L) {α β γ δ : Int} (pa : 0 ≤ α) (pb : 0 ≤ β) (pc : 0 ≤ γ) (pd : 0 ≤ δ) (h1 : α * a.1 + β * b.1 + γ * c.1 + δ * d.1 = 0) (h2 : α * a.2.1 + β * b.2.1 + γ * c.2.1 + δ * d.2.1 = 0) (h3 : α * a.2.2.1 + β * b.2.2.1 + γ * c.2.2.1 + δ * d.2.2.1 = 0) (h4 : α * a.2.2.2 + β * b.2.2.2 + γ * c.2.2.2 + δ * d.2.2.2 < 0) : Emp_ L := by
  intro q hq q4
  have x := Int.mul_nonneg pa (hq a ha)
  have y := Int.mul_nonneg pb (hq b hb)
  have z := Int.mul_nonneg pc (hq c hc)
  have w := Int.mul_nonneg pd (hq d hd)
  have e : α * dp_ a q + β * dp_ b q + γ * dp_ c q + δ * dp_ d q = (α * a.1 + β * b.1 + γ * c.1 + δ * d.1) * q.1 + (α * a.2.1 + β * b.2.1 + γ * c.2.1 + δ * d.2.1) * q.2.1 + (α * a.2.2.1 + β * b.2.2.1 + γ * c.2.2.1 + δ * d.2.2.1) * q.2.2.1 + (α * a.2.2.2 + β * b.2.2.2 + γ * c.2.2.2 + δ * d.2.2.2) * q.2.2.2 := by unfold dp_; grind
  rw [h1, h2, h3] at e
  have := Int.mul_pos (show 0 < -(α * a.2.2.2 + β * b.2.2.2 + γ * c.2.2.2 + δ * d.2.2.2) by omega) q4
  have e2 : -(α * a.2.2.2 + β * b.2.2.2 + γ * c.2.2.2 + δ * d.2.2.2) * q.2.2.2 = -((α * a.2.2.2 + β * b.2.2.2 + γ * c.2.2.2 + δ * d.2.2.2) * q.2.2.2) := by grind
  omega
/-- the certificate that two give -/
def ct2_ (a b : V4_) : Prop := ∃ α β : Int, 0 < α ∧ 0 < β ∧ ¬ z3_ a ∧ α * a.1 + β * b.1 = 0 ∧ α * a.2.1 + β * b.2.1 = 0 ∧ α * a.2.2.1 + β * b.2.2.1 = 0 ∧ α * a.2.2.2 + β * b.2.2.2 < 0
theorem cm_of {a b : V4_} {α β : Int} (h1 : α * a.1 + β * b.1 = 0) (h2 : α * a.2.1 + β * b.2.1 = 0) (h3 : α * a.2.2.1 + β * b.2.2.1 = 0) (t : Nat) : α * cm_ a t + β * cm_ b t = 0 := by
  unfold cm_
  split
  · exact h1
  · split
    · exact h2
    · exact h3
theorem ev_two {m : Nat} (hm : 10 ≤ m) {u : xm_Y} {L : List V4_} (h : sq_ u L) {i j : Nat} {a b : V4_} (ha : L[i]? = some a) (hb : L[j]? = some b) (la : bl_ a) (lb : bl_ b) : ∃ r : Int32, fn_X12_twoLeaveNothing m (nI i) (nI j) u = some (r, u) ∧ (r = 0 ∨ r = 1) ∧ (r = 1 → Emp_ L) ∧ (ct2_ a b → r = 1) := by
  have il := lt_of ha
  have jl := lt_of hb
  have l12 := h.2.1
  obtain ⟨ra, a1, -, a2⟩ := ev_isZero (m := m) h ha la
  obtain ⟨rb, b1, -, b2⟩ := ev_isZero (m := m) h hb lb
  obtain ⟨rp, p1, p2⟩ := ev_parallel (m := m) h ha hb la lb
  rw [fn_X12_twoLeaveNothing, a1]
  simp only [Option.bind_some]
  by_cases za : z3_ a
  · rw [if_neg (fun w => a2.mp w za)]
    exact ⟨0, rfl, Or.inl rfl, fun w => absurd w (by decide), fun ⟨_, _, _, _, w, _⟩ => absurd za w⟩
  rw [if_pos (a2.mpr za), b1]
  simp only [Option.bind_some]
  by_cases zb : z3_ b
  · rw [if_neg (fun w => b2.mp w zb)]
    refine ⟨0, rfl, Or.inl rfl, fun w => absurd w (by decide), ?_⟩
    rintro ⟨α, β, pa, pb, -, h1, h2, h3, -⟩
    exfalso
    apply za
    have nz : ∀ y : Int, α * y + β * 0 = 0 → y = 0 := fun y hy => by
      rcases Int.mul_eq_zero.mp (show α * y = 0 by omega) with q | q
      · omega
      · exact q
    rw [zb.1] at h1; rw [zb.2.1] at h2; rw [zb.2.2] at h3
    exact ⟨nz _ h1, nz _ h2, nz _ h3⟩
  rw [if_pos (b2.mpr zb), p1]
  simp only [Option.bind_some]
  by_cases hp : cx_ a b = z4_
  · rw [if_neg (fun w => p2.mp w hp)]
    obtain ⟨t, t1, t2, t3⟩ := fstm za
    have tw := (two29 (m := m) h ha la t1 t2 t3 t 0 m (by omega) (by omega)).1
    rw [show lp_X12_twoLeaveNothing_29 m (nI i) u m (0 : Int32) = _ from tw]
    simp only [Option.bind_some, xm_let]
    have ei : (4 : Int32) * nI i + nI t = nI (4 * i + t) := by rw [show (4 : Int32) = nI 4 from rfl, nI_mu, nI_ad]
    have ej : (4 : Int32) * nI j + nI t = nI (4 * j + t) := by rw [show (4 : Int32) = nI 4 from rfl, nI_mu, nI_ad]
    have ei3 : (4 : Int32) * nI i + 3 = nI (4 * i + 3) := by rw [show (4 : Int32) = nI 4 from rfl, nI_mu]; exact nI_ad _ 3
    have ej3 : (4 : Int32) * nI j + 3 = nI (4 * j + 3) := by rw [show (4 : Int32) = nI 4 from rfl, nI_mu]; exact nI_ad _ 3
    rw [ei, ej, ei3, ej3, ck_t (nI_xi (by omega) (by omega)), ck_t (nI_xi (by omega) (by omega)), nI_cl (show 4 * i + t < 2 ^ 31 by omega), nI_cl (show 4 * j + t < 2 ^ 31 by omega), nI_cl (show 4 * i + 3 < 2 ^ 31 by omega), nI_cl (show 4 * j + 3 < 2 ^ 31 by omega), sq_cm h ha t1, sq_cm h hb t1]
    have ba : nb_ 1000000000000000000 (cm_ a t) := nb_w (cm_b la t) (by decide)
    have bb : nb_ 1000000000000000000 (cm_ b t) := nb_w (cm_b lb t) (by decide)
    have bt : cm_ b t ≠ 0 := fun z => by
      apply zb
      have k : ∀ s, s < 3 → cm_ b s = 0 := fun s hs => by
        have := cx_cm hp t s t1 hs
        rw [z] at this
        rcases Int.mul_eq_zero.mp (show cm_ a t * cm_ b s = 0 by omega) with q | q
        · exact absurd q t2
        · exact q
      exact ⟨k 0 (by omega), k 1 (by omega), k 2 (by omega)⟩
    have sa : ((if Int64.ofInt (cm_ a t) ≤ 0 then some (0 : Int32) else some 1) : Option Int32) = some (if 0 < cm_ a t then 1 else 0) := by
      by_cases q : 0 < cm_ a t
      · rw [if_pos q, if_neg (show ¬ Int64.ofInt (cm_ a t) ≤ 0 from fun z => absurd ((i64le (b := 0) ba (by unfold nb_; omega)).mp z) (by omega))]
      · rw [if_neg q, if_pos (show Int64.ofInt (cm_ a t) ≤ 0 from (i64le (b := 0) ba (by unfold nb_; omega)).mpr (by omega))]
    have sb : ((if Int64.ofInt (cm_ b t) ≤ 0 then some (0 : Int32) else some 1) : Option Int32) = some (if 0 < cm_ b t then 1 else 0) := by
      by_cases q : 0 < cm_ b t
      · rw [if_pos q, if_neg (show ¬ Int64.ofInt (cm_ b t) ≤ 0 from fun z => absurd ((i64le (b := 0) bb (by unfold nb_; omega)).mp z) (by omega))]
      · rw [if_neg q, if_pos (show Int64.ofInt (cm_ b t) ≤ 0 from (i64le (b := 0) bb (by unfold nb_; omega)).mpr (by omega))]
    rw [sa, sb]
    simp only [Option.bind_some]
    by_cases same : (0 < cm_ a t ↔ 0 < cm_ b t)
    · rw [if_pos (by by_cases q : 0 < cm_ a t
                     · rw [if_pos q, if_pos (same.mp q)]
                     · rw [if_neg q, if_neg (fun z => q (same.mpr z))])]
      refine ⟨0, rfl, Or.inl rfl, fun w => absurd w (by decide), ?_⟩
      rintro ⟨α, β, pa, pb, -, h1, h2, h3, -⟩
      exfalso
      have e := cm_of h1 h2 h3 t
      by_cases q : 0 < cm_ a t
      · have := Int.mul_pos pa q
        have := Int.mul_pos pb (same.mp q)
        omega
      · have q' : ¬ 0 < cm_ b t := fun z => q (same.mpr z)
        have x := Int.mul_pos pa (show 0 < -cm_ a t by omega)
        have y := Int.mul_pos pb (show 0 < -cm_ b t by omega)
        have e1 : α * -cm_ a t = -(α * cm_ a t) := by grind
        have e2 : β * -cm_ b t = -(β * cm_ b t) := by grind
        omega
    · rw [if_neg (by by_cases q : 0 < cm_ a t
                     · rw [if_pos q, if_neg (fun z => same ⟨fun _ => z, fun _ => q⟩)]; decide
                     · rw [if_neg q]
                       by_cases q2 : 0 < cm_ b t
                       · rw [if_pos q2]; decide
                       · exact absurd ⟨fun z => absurd z q, fun z => absurd z q2⟩ same), ev_abs bb]
      simp only [Option.bind_some]
      rw [ck_t (nI_xi (by omega) (by omega)), ev_abs ba]
      simp only [Option.bind_some]
      obtain ⟨-, -, -, a4⟩ := h.2.2 i a ha
      obtain ⟨-, -, -, b4⟩ := h.2.2 j b hb
      rw [ck_t (nI_xi (by omega) (by omega)), a4, b4, om, om, oa]
      have vb : nb_ 1000000000000000000 (((cm_ b t).natAbs : Int) * -a.2.2.2 + ((cm_ a t).natAbs : Int) * -b.2.2.2) := by
        have x : nb_ 20 ((cm_ b t).natAbs : Int) := by have := cm_b lb t; unfold nb_ at *; omega
        have y : nb_ 20 ((cm_ a t).natAbs : Int) := by have := cm_b la t; unfold nb_ at *; omega
        exact nb_w (nb_a (nb_m x (nb_n la.2.2.2)) (nb_m y (nb_n lb.2.2.2))) (by decide)
      -- the two weights
      have opp : ∀ s, s < 3 → ((cm_ b t).natAbs : Int) * cm_ a s + ((cm_ a t).natAbs : Int) * cm_ b s = 0 := by
        intro s hs
        have := cx_cm hp t s t1 hs
        by_cases q : 0 < cm_ a t
        · have q2 : ¬ 0 < cm_ b t := fun z => same ⟨fun _ => z, fun _ => q⟩
          rw [show ((cm_ b t).natAbs : Int) = -cm_ b t by omega, show ((cm_ a t).natAbs : Int) = cm_ a t by omega]
          grind
        · have q2 : 0 < cm_ b t := by
            apply Classical.byContradiction
            intro z
            exact same ⟨fun w => absurd w q, fun w => absurd w z⟩
          rw [show ((cm_ b t).natAbs : Int) = cm_ b t by omega, show ((cm_ a t).natAbs : Int) = -cm_ a t by omega]
          grind
      by_cases pos : 0 < ((cm_ b t).natAbs : Int) * -a.2.2.2 + ((cm_ a t).natAbs : Int) * -b.2.2.2
      · rw [if_neg (show ¬ Int64.ofInt (((cm_ b t).natAbs : Int) * -a.2.2.2 + ((cm_ a t).natAbs : Int) * -b.2.2.2) ≤ 0 from fun z => absurd ((i64le (b := 0) vb (by unfold nb_; omega)).mp z) (by omega))]
        refine ⟨1, rfl, Or.inr rfl, fun _ => ?_, fun _ => rfl⟩
        refine empty2 (List.mem_of_getElem? ha) (List.mem_of_getElem? hb) (α := ((cm_ b t).natAbs : Int)) (β := ((cm_ a t).natAbs : Int)) (by omega) (by omega) (opp 0 (by omega)) (opp 1 (by omega)) (opp 2 (by omega)) ?_
        have e1 : ((cm_ b t).natAbs : Int) * -a.2.2.2 = -(((cm_ b t).natAbs : Int) * a.2.2.2) := by grind
        have e2 : ((cm_ a t).natAbs : Int) * -b.2.2.2 = -(((cm_ a t).natAbs : Int) * b.2.2.2) := by grind
        omega
      · rw [if_pos (show Int64.ofInt (((cm_ b t).natAbs : Int) * -a.2.2.2 + ((cm_ a t).natAbs : Int) * -b.2.2.2) ≤ 0 from (i64le (b := 0) vb (by unfold nb_; omega)).mpr (by omega))]
        refine ⟨0, rfl, Or.inl rfl, fun w => absurd w (by decide), ?_⟩
        rintro ⟨α, β, pa, pb, -, h1, h2, h3, h4⟩
        exfalso
        -- alpha : beta as |b| : |a|
        have e := cm_of h1 h2 h3 t
        have pr : α * ((cm_ a t).natAbs : Int) = β * ((cm_ b t).natAbs : Int) := by
          by_cases q : 0 < cm_ a t
          · have q2 : ¬ 0 < cm_ b t := fun z => same ⟨fun _ => z, fun _ => q⟩
            rw [show ((cm_ b t).natAbs : Int) = -cm_ b t by omega, show ((cm_ a t).natAbs : Int) = cm_ a t by omega]
            grind
          · have q2 : 0 < cm_ b t := by
              apply Classical.byContradiction
              intro z
              exact same ⟨fun w => absurd w q, fun w => absurd w z⟩
            rw [show ((cm_ b t).natAbs : Int) = cm_ b t by omega, show ((cm_ a t).natAbs : Int) = -cm_ a t by omega]
            grind
        have bpos : (0 : Int) < ((cm_ b t).natAbs : Int) := by omega
        have k := Int.mul_pos bpos (show 0 < -(α * a.2.2.2 + β * b.2.2.2) by omega)
        have k2 : ((cm_ b t).natAbs : Int) * -(α * a.2.2.2 + β * b.2.2.2) = α * (((cm_ b t).natAbs : Int) * -a.2.2.2 + ((cm_ a t).natAbs : Int) * -b.2.2.2) := by grind
        rw [k2] at k
        exact pos ((sgnmul pa).2.mp k)
  · rw [if_pos (p2.mpr hp)]
    refine ⟨0, rfl, Or.inl rfl, fun w => absurd w (by decide), ?_⟩
    rintro ⟨α, β, pa, pb, -, h1, h2, h3, -⟩
    exfalso
    apply hp
    have k : ∀ y : Int, β * y = 0 → y = 0 := fun y hy => by
      rcases Int.mul_eq_zero.mp hy with q | q
      · omega
      · exact q
    unfold cx_ z4_
    refine v4_ext (k _ ?_) (k _ ?_) (k _ ?_) rfl <;> grind
