/-! three, four; all of them -/
theorem ev_leave {m : Nat} {u : xm_Y} {L : List V4_} (h : sq_ u L) {i j k l : Nat} {a b c d : V4_} (ha : L[i]? = some a) (hb : L[j]? = some b) (hc : L[k]? = some c) (hd : L[l]? = some d) (la : bl_ a) (lb : bl_ b) (lc : bl_ c) (ld : bl_ d) {x y z w : Int} (nx : nb_ 48000 x) (ny : nb_ 48000 y) (nz : nb_ 48000 z) (nw : nb_ 48000 w) : ∃ r : Int32, fn_X12_leaveNothing m (Int64.ofInt x) (Int64.ofInt y) (Int64.ofInt z) (Int64.ofInt w) (nI i) (nI j) (nI k) (nI l) u = some (r, u) ∧ (r = 0 ∨ r = 1) ∧ (r = 1 ↔ ((0 ≤ x ∧ 0 ≤ y ∧ 0 ≤ z ∧ 0 ≤ w ∧ x * a.2.2.2 + y * b.2.2.2 + z * c.2.2.2 + w * d.2.2.2 < 0) ∨ (x ≤ 0 ∧ y ≤ 0 ∧ z ≤ 0 ∧ w ≤ 0 ∧ 0 < x * a.2.2.2 + y * b.2.2.2 + z * c.2.2.2 + w * d.2.2.2))) := by
  have il := lt_of ha
  have jl := lt_of hb
  have kl := lt_of hc
  have ll := lt_of hd
  have l12 := h.2.1
  obtain ⟨-, -, -, a4⟩ := h.2.2 i a ha
  obtain ⟨-, -, -, b4⟩ := h.2.2 j b hb
  obtain ⟨-, -, -, c4⟩ := h.2.2 k c hc
  obtain ⟨-, -, -, d4⟩ := h.2.2 l d hd
  have e3 : ∀ k, (4 : Int32) * nI k + 3 = nI (4 * k + 3) := fun k => by rw [show (4 : Int32) = nI 4 from rfl, nI_mu]; exact nI_ad _ 3
  have n0 : nb_ 1000000000000000000 (0 : Int) := by unfold nb_; decide
  have lt0 : ∀ {v : Int}, nb_ 48000 v → (Int64.ofInt v < 0 ↔ v < 0) := fun hv => i64lt (b := 0) (nb_w hv (by decide)) n0
  have gt0 : ∀ {v : Int}, nb_ 48000 v → ((0 : Int64) < Int64.ofInt v ↔ 0 < v) := fun hv => i64lt (a := 0) n0 (nb_w hv (by decide))
  have up : ((if Int64.ofInt x < 0 then some (0 : Int32) else if Int64.ofInt y < 0 then some 0 else if Int64.ofInt z < 0 then some 0 else if Int64.ofInt w < 0 then some 0 else some 1) : Option Int32) = some (if 0 ≤ x ∧ 0 ≤ y ∧ 0 ≤ z ∧ 0 ≤ w then 1 else 0) := by
    by_cases q1 : x < 0
    · rw [if_pos ((lt0 nx).mpr q1), if_neg (by omega)]
    · rw [if_neg (fun t => q1 ((lt0 nx).mp t))]
      by_cases q2 : y < 0
      · rw [if_pos ((lt0 ny).mpr q2), if_neg (by omega)]
      · rw [if_neg (fun t => q2 ((lt0 ny).mp t))]
        by_cases q3 : z < 0
        · rw [if_pos ((lt0 nz).mpr q3), if_neg (by omega)]
        · rw [if_neg (fun t => q3 ((lt0 nz).mp t))]
          by_cases q4 : w < 0
          · rw [if_pos ((lt0 nw).mpr q4), if_neg (by omega)]
          · rw [if_neg (fun t => q4 ((lt0 nw).mp t)), if_pos (by omega)]
  have dn : ((if (0 : Int64) < Int64.ofInt x then some (0 : Int32) else if (0 : Int64) < Int64.ofInt y then some 0 else if (0 : Int64) < Int64.ofInt z then some 0 else if (0 : Int64) < Int64.ofInt w then some 0 else some 1) : Option Int32) = some (if x ≤ 0 ∧ y ≤ 0 ∧ z ≤ 0 ∧ w ≤ 0 then 1 else 0) := by
    by_cases q1 : 0 < x
    · rw [if_pos ((gt0 nx).mpr q1), if_neg (by omega)]
    · rw [if_neg (fun t => q1 ((gt0 nx).mp t))]
      by_cases q2 : 0 < y
      · rw [if_pos ((gt0 ny).mpr q2), if_neg (by omega)]
      · rw [if_neg (fun t => q2 ((gt0 ny).mp t))]
        by_cases q3 : 0 < z
        · rw [if_pos ((gt0 nz).mpr q3), if_neg (by omega)]
        · rw [if_neg (fun t => q3 ((gt0 nz).mp t))]
          by_cases q4 : 0 < w
          · rw [if_pos ((gt0 nw).mpr q4), if_neg (by omega)]
          · rw [if_neg (fun t => q4 ((gt0 nw).mp t)), if_pos (by omega)]
  have vb : nb_ 1000000000000000000 (x * -a.2.2.2 + y * -b.2.2.2 + z * -c.2.2.2 + w * -d.2.2.2) := nb_w (nb_a (nb_a (nb_a (nb_m nx (nb_n la.2.2.2)) (nb_m ny (nb_n lb.2.2.2))) (nb_m nz (nb_n lc.2.2.2))) (nb_m nw (nb_n ld.2.2.2))) (by decide)
  have ev : x * -a.2.2.2 + y * -b.2.2.2 + z * -c.2.2.2 + w * -d.2.2.2 = -(x * a.2.2.2 + y * b.2.2.2 + z * c.2.2.2 + w * d.2.2.2) := by grind
  rw [fn_X12_leaveNothing, up, dn]
  simp only [Option.bind_some, xm_let]
  rw [e3, e3, e3, e3, ck_t (nI_xi (by omega) (by omega)), ck_t (nI_xi (by omega) (by omega)), ck_t (nI_xi (by omega) (by omega)), ck_t (nI_xi (by omega) (by omega)), nI_cl (show 4 * i + 3 < 2 ^ 31 by omega), nI_cl (show 4 * j + 3 < 2 ^ 31 by omega), nI_cl (show 4 * k + 3 < 2 ^ 31 by omega), nI_cl (show 4 * l + 3 < 2 ^ 31 by omega), a4, b4, c4, d4, om, om, om, om, oa, oa, oa]
  have vlt : (0 : Int64) < Int64.ofInt (x * -a.2.2.2 + y * -b.2.2.2 + z * -c.2.2.2 + w * -d.2.2.2) ↔ x * a.2.2.2 + y * b.2.2.2 + z * c.2.2.2 + w * d.2.2.2 < 0 := by
    rw [show (0 : Int64) = Int64.ofInt 0 from rfl, i64lt n0 vb, ev]; omega
  have vle : (0 : Int64) ≤ Int64.ofInt (x * -a.2.2.2 + y * -b.2.2.2 + z * -c.2.2.2 + w * -d.2.2.2) ↔ x * a.2.2.2 + y * b.2.2.2 + z * c.2.2.2 + w * d.2.2.2 ≤ 0 := by
    rw [show (0 : Int64) = Int64.ofInt 0 from rfl, i64le n0 vb, ev]; omega
  generalize x * a.2.2.2 + y * b.2.2.2 + z * c.2.2.2 + w * d.2.2.2 = V at vlt vle ⊢
  generalize Int64.ofInt (x * -a.2.2.2 + y * -b.2.2.2 + z * -c.2.2.2 + w * -d.2.2.2) = V6 at vlt vle ⊢
  have i10 : ¬ ((1 : Int32) = 0) := by decide
  by_cases u1 : 0 ≤ x ∧ 0 ≤ y ∧ 0 ≤ z ∧ 0 ≤ w
  · simp only [if_pos u1, if_neg i10]
    by_cases v1 : V < 0
    · simp only [if_pos (vlt.mpr v1), Option.bind_some]
      exact ⟨1, rfl, Or.inr rfl, fun _ => Or.inl ⟨u1.1, u1.2.1, u1.2.2.1, u1.2.2.2, v1⟩, fun _ => rfl⟩
    · simp only [if_neg (fun t => v1 (vlt.mp t))]
      by_cases u2 : x ≤ 0 ∧ y ≤ 0 ∧ z ≤ 0 ∧ w ≤ 0
      · simp only [if_pos u2, if_neg i10]
        by_cases v2 : V ≤ 0
        · simp only [if_pos (vle.mpr v2), Option.bind_some]
          exact ⟨0, rfl, Or.inl rfl, fun t => absurd t (by decide), fun t => by omega⟩
        · simp only [if_neg (fun t => v2 (vle.mp t)), Option.bind_some]
          exact ⟨1, rfl, Or.inr rfl, fun _ => Or.inr ⟨u2.1, u2.2.1, u2.2.2.1, u2.2.2.2, by omega⟩, fun _ => rfl⟩
      · simp only [if_neg u2, if_true, Option.bind_some]
        exact ⟨0, rfl, Or.inl rfl, fun t => absurd t (by decide), fun t => by omega⟩
  · simp only [if_neg u1, if_true]
    by_cases u2 : x ≤ 0 ∧ y ≤ 0 ∧ z ≤ 0 ∧ w ≤ 0
    · simp only [if_pos u2, if_neg i10]
      by_cases v2 : V ≤ 0
      · simp only [if_pos (vle.mpr v2), Option.bind_some]
        exact ⟨0, rfl, Or.inl rfl, fun t => absurd t (by decide), fun t => by omega⟩
      · simp only [if_neg (fun t => v2 (vle.mp t)), Option.bind_some]
        exact ⟨1, rfl, Or.inr rfl, fun _ => Or.inr ⟨u2.1, u2.2.1, u2.2.2.1, u2.2.2.2, by omega⟩, fun _ => rfl⟩
    · simp only [if_neg u2, if_true, Option.bind_some]
      exact ⟨0, rfl, Or.inl rfl, fun t => absurd t (by decide), fun t => by omega⟩
/-- a leaving that gives nothing is a ground -/
theorem leave_emp {L : List V4_} {a b c d : V4_} (ha : a ∈ L) (hb : b ∈ L) (hc : c ∈ L) (hd : d ∈ L) {x y z w : Int} (h1 : x * a.1 + y * b.1 + z * c.1 + w * d.1 = 0) (h2 : x * a.2.1 + y * b.2.1 + z * c.2.1 + w * d.2.1 = 0) (h3 : x * a.2.2.1 + y * b.2.2.1 + z * c.2.2.1 + w * d.2.2.1 = 0) (h : (0 ≤ x ∧ 0 ≤ y ∧ 0 ≤ z ∧ 0 ≤ w ∧ x * a.2.2.2 + y * b.2.2.2 + z * c.2.2.2 + w * d.2.2.2 < 0) ∨ (x ≤ 0 ∧ y ≤ 0 ∧ z ≤ 0 ∧ w ≤ 0 ∧ 0 < x * a.2.2.2 + y * b.2.2.2 + z * c.2.2.2 + w * d.2.2.2)) : Emp_ L := by
  rcases h with ⟨px, py, pz, pw, h4⟩ | ⟨px, py, pz, pw, h4⟩
  · exact empty4 ha hb hc hd px py pz pw h1 h2 h3 h4
  · refine empty4 ha hb hc hd (α := -x) (β := -y) (γ := -z) (δ := -w) (by omega) (by omega) (by omega) (by omega) ?_ ?_ ?_ ?_
    · grind
    · grind
    · grind
    · have : -x * a.2.2.2 + -y * b.2.2.2 + -z * c.2.2.2 + -w * d.2.2.2 = -(x * a.2.2.2 + y * b.2.2.2 + z * c.2.2.2 + w * d.2.2.2) := by grind
      omega
def ct3_ (a b c : V4_) : Prop := ∃ α β γ : Int, 0 < α ∧ 0 < β ∧ 0 < γ ∧ cx_ a b ≠ z4_ ∧ α * a.1 + β * b.1 + γ * c.1 = 0 ∧ α * a.2.1 + β * b.2.1 + γ * c.2.1 = 0 ∧ α * a.2.2.1 + β * b.2.2.1 + γ * c.2.2.1 = 0 ∧ α * a.2.2.2 + β * b.2.2.2 + γ * c.2.2.2 < 0
def ct4_ (a b c d : V4_) : Prop := ∃ α β γ δ : Int, 0 < α ∧ 0 < β ∧ 0 < γ ∧ 0 < δ ∧ d3_ a b c ≠ 0 ∧ α * a.1 + β * b.1 + γ * c.1 + δ * d.1 = 0 ∧ α * a.2.1 + β * b.2.1 + γ * c.2.1 + δ * d.2.1 = 0 ∧ α * a.2.2.1 + β * b.2.2.1 + γ * c.2.2.1 + δ * d.2.2.1 = 0 ∧ α * a.2.2.2 + β * b.2.2.2 + γ * c.2.2.2 + δ * d.2.2.2 < 0
/-- in proportion to what is above 0 -/
theorem prop_ln {x y z w α β γ δ A B C D : Int} (pα : 0 < α) (pβ : 0 < β) (pγ : 0 ≤ γ) (pδ : 0 < δ) (hx : δ * x = w * α) (hy : δ * y = w * β) (hz : δ * z = w * γ) (hw : w ≠ 0) (h4 : α * A + β * B + γ * C + δ * D < 0) : (0 ≤ x ∧ 0 ≤ y ∧ 0 ≤ z ∧ 0 ≤ w ∧ x * A + y * B + z * C + w * D < 0) ∨ (x ≤ 0 ∧ y ≤ 0 ∧ z ≤ 0 ∧ w ≤ 0 ∧ 0 < x * A + y * B + z * C + w * D) := by
  have e : δ * (x * A + y * B + z * C + w * D) = w * (α * A + β * B + γ * C + δ * D) := by grind
  have np : ∀ v : Int, δ * v ≤ 0 → v ≤ 0 := fun v hv => by
    apply Classical.byContradiction
    intro no
    have := Int.mul_pos pδ (show 0 < v by omega)
    omega
  by_cases pw : 0 < w
  · left
    have gx := Int.mul_pos pw pα
    have gy := Int.mul_pos pw pβ
    have gz := Int.mul_nonneg (Int.le_of_lt pw) pγ
    have gv := Int.mul_pos pw (show 0 < -(α * A + β * B + γ * C + δ * D) by omega)
    have ev : w * -(α * A + β * B + γ * C + δ * D) = -(w * (α * A + β * B + γ * C + δ * D)) := by grind
    refine ⟨(sgnmul pδ).1.mp (by omega), (sgnmul pδ).1.mp (by omega), (sgnmul pδ).1.mp (by omega), by omega, ?_⟩
    have := (sgnmul (x := -(x * A + y * B + z * C + w * D)) pδ).2.mp (by
      have : δ * -(x * A + y * B + z * C + w * D) = -(δ * (x * A + y * B + z * C + w * D)) := by grind
      omega)
    omega
  · right
    have pw : 0 < -w := by omega
    have gx := Int.mul_pos pw pα
    have gy := Int.mul_pos pw pβ
    have gz := Int.mul_nonneg (Int.le_of_lt pw) pγ
    have gv := Int.mul_pos pw (show 0 < -(α * A + β * B + γ * C + δ * D) by omega)
    have ex : -w * α = -(w * α) := by grind
    have ey : -w * β = -(w * β) := by grind
    have ez : -w * γ = -(w * γ) := by grind
    have ev : -w * -(α * A + β * B + γ * C + δ * D) = w * (α * A + β * B + γ * C + δ * D) := by grind
    exact ⟨np _ (by omega), np _ (by omega), np _ (by omega), by omega, (sgnmul pδ).2.mp (by omega)⟩
theorem cxind {a b : V4_} (h : cx_ a b ≠ z4_) {x y : Int} (h1 : x * a.1 + y * b.1 = 0) (h2 : x * a.2.1 + y * b.2.1 = 0) (h3 : x * a.2.2.1 + y * b.2.2.1 = 0) : x = 0 ∧ y = 0 := by
  have kz : ∀ v : Int, v * (cx_ a b).1 = 0 → v * (cx_ a b).2.1 = 0 → v * (cx_ a b).2.2.1 = 0 → v = 0 := by
    intro v e1 e2 e3
    apply Classical.byContradiction
    intro no
    apply h
    have k : ∀ y : Int, v * y = 0 → y = 0 := fun y hy => by
      rcases Int.mul_eq_zero.mp hy with q | q
      · exact absurd q no
      · exact q
    exact v4_ext (k _ e1) (k _ e2) (k _ e3) rfl
  unfold cx_ at kz
  refine ⟨kz x ?_ ?_ ?_, kz y ?_ ?_ ?_⟩ <;> grind
theorem d3ind {a b c : V4_} (h : d3_ a b c ≠ 0) {x y z : Int} (h1 : x * a.1 + y * b.1 + z * c.1 = 0) (h2 : x * a.2.1 + y * b.2.1 + z * c.2.1 = 0) (h3 : x * a.2.2.1 + y * b.2.2.1 + z * c.2.2.1 = 0) : x = 0 ∧ y = 0 ∧ z = 0 := by
  have kz : ∀ v : Int, v * d3_ a b c = 0 → v = 0 := fun v e => by
    rcases Int.mul_eq_zero.mp e with q | q
    · exact q
    · exact absurd q h
  unfold d3_ cx_ at kz
  refine ⟨kz x ?_, kz y ?_, kz z ?_⟩ <;> grind
def ccm_ (a b : V4_) (t : Nat) : Int := cm_ (cx_ a b) t
theorem ccm_d {a b c : V4_} (hd : d3_ a b c = 0) (t : Nat) (ht : t < 3) : ccm_ b c t * a.1 + ccm_ c a t * b.1 + ccm_ a b t * c.1 = 0 ∧ ccm_ b c t * a.2.1 + ccm_ c a t * b.2.1 + ccm_ a b t * c.2.1 = 0 ∧ ccm_ b c t * a.2.2.1 + ccm_ c a t * b.2.2.1 + ccm_ a b t * c.2.2.1 = 0 := by
  unfold d3_ at hd
  unfold ccm_ cm_
  have : t = 0 ∨ t = 1 ∨ t = 2 := by omega
  rcases this with rfl | rfl | rfl <;> (simp only [if_true, if_pos, if_neg, show ¬ (1 : Nat) = 0 by decide, show ¬ (2 : Nat) = 0 by decide, show ¬ (2 : Nat) = 1 by decide]; unfold cx_ at *; refine ⟨?_, ?_, ?_⟩ <;> grind)
theorem ccm_b {a b : V4_} (la : bl_ a) (lb : bl_ b) (t : Nat) : nb_ 48000 (ccm_ a b t) := by
  obtain ⟨x1, x2, x3⟩ := cx_b la lb
  unfold ccm_ cm_
  split
  · exact nb_w x1 (by decide)
  · split
    · exact nb_w x2 (by decide)
    · exact nb_w x3 (by decide)
theorem ev_ccm {m : Nat} {u : xm_Y} {L : List V4_} (h : sq_ u L) {i j : Nat} {a b : V4_} (ha : L[i]? = some a) (hb : L[j]? = some b) {t : Nat} (ht : t < 3) : fn_X12_cross m (nI i) (nI j) (nI t) u = some (Int64.ofInt (ccm_ a b t), u) := by
  obtain ⟨x0, x1, x2⟩ := ev_crossd (m := m) h ha hb
  have : t = 0 ∨ t = 1 ∨ t = 2 := by omega
  rcases this with rfl | rfl | rfl
  · exact x0
  · exact x1
  · exact x2
theorem thr_lp {m : Nat} {u : xm_Y} {L : List V4_} (h : sq_ u L) {i j k : Nat} {a b c : V4_} (ha : L[i]? = some a) (hb : L[j]? = some b) (hc : L[k]? = some c) (la : bl_ a) (lb : bl_ b) (lc : bl_ c) (hd : d3_ a b c = 0) : ∀ (r t f : Nat), t + r = 3 → r + 1 ≤ f → ∃ o : (Int32 × xm_Y) ⊕ (Int32 × xm_Y), lp_X12_threeLeaveNothing_17 m (nI i) (nI j) (nI k) f (nI t) u = some o ∧ ((∃ rr : Int32, o = .inl (rr, u) ∧ (rr = 0 ∨ rr = 1) ∧ (rr = 1 → Emp_ L) ∧ (ct3_ a b c → rr = 1)) ∨ (∃ l, o = .inr (l, u) ∧ ∀ s, t ≤ s → s < 3 → ccm_ a b s = 0))
  | 0, t, f, ht, hf => by
    obtain ⟨f', rfl⟩ : ∃ f', f = f' + 1 := ⟨f - 1, by omega⟩
    obtain rfl : t = 3 := by omega
    exact ⟨.inr (nI 3, u), by rw [lp_X12_threeLeaveNothing_17, if_pos (by decide)], Or.inr ⟨nI 3, rfl, fun s h1 h2 => by omega⟩⟩
  | r + 1, t, f, ht, hf => by
    obtain ⟨f', rfl⟩ : ∃ f', f = f' + 1 := ⟨f - 1, by omega⟩
    have t3 : t < 3 := by omega
    have nbc := ccm_b lb lc t
    have nca := ccm_b lc la t
    have nab := ccm_b la lb t
    have z : ∀ {y : Int}, nb_ 48000 y → (Int64.ofInt y = 0 ↔ y = 0) := fun hy => i64z (nb_w hy (by decide))
    obtain ⟨rr, r1, r2, r3⟩ := ev_leave (m := m) h ha hb hc ha la lb lc la nbc nca nab (show nb_ 48000 (0 : Int) by unfold nb_; decide)
    obtain ⟨g1, g2, g3⟩ := ccm_d hd t t3
    have out : ¬ (ccm_ b c t = 0 ∧ ccm_ c a t = 0 ∧ ccm_ a b t = 0) → ((∃ rr' : Int32, (Sum.inl (rr, u) : (Int32 × xm_Y) ⊕ (Int32 × xm_Y)) = .inl (rr', u) ∧ (rr' = 0 ∨ rr' = 1) ∧ (rr' = 1 → Emp_ L) ∧ (ct3_ a b c → rr' = 1)) ∨ (∃ l, (Sum.inl (rr, u) : (Int32 × xm_Y) ⊕ (Int32 × xm_Y)) = .inr (l, u) ∧ ∀ s, t ≤ s → s < 3 → ccm_ a b s = 0)) := by
      intro nz
      refine Or.inl ⟨rr, rfl, r2, fun w => ?_, ?_⟩
      · exact leave_emp (List.mem_of_getElem? ha) (List.mem_of_getElem? hb) (List.mem_of_getElem? hc) (List.mem_of_getElem? ha) (by omega) (by omega) (by omega) (r3.mp w)
      · rintro ⟨α, β, γ, pa, pb, pc, hcx, e1, e2, e3, e4⟩
        apply r3.mpr
        obtain ⟨k1, k2⟩ := cxind hcx (x := γ * ccm_ b c t - ccm_ a b t * α) (y := γ * ccm_ c a t - ccm_ a b t * β) (by grind) (by grind) (by grind)
        have wz : ccm_ a b t ≠ 0 := fun q => by
          apply nz
          rw [q] at k1 k2
          have kk : ∀ v : Int, γ * v = 0 → v = 0 := fun v hv => by
            rcases Int.mul_eq_zero.mp hv with p | p
            · omega
            · exact p
          exact ⟨kk _ (by omega), kk _ (by omega), q⟩
        have := prop_ln (x := ccm_ b c t) (y := ccm_ c a t) (z := 0) (w := ccm_ a b t) (γ := 0) (δ := γ) (A := a.2.2.2) (B := b.2.2.2) (C := 0) (D := c.2.2.2) pa pb (by omega) pc (by omega) (by omega) (by omega) wz (by omega)
        rcases this with ⟨x1, x2, x3, x4, x5⟩ | ⟨x1, x2, x3, x4, x5⟩
        · left; exact ⟨x1, x2, x4, by omega, by omega⟩
        · right; exact ⟨x1, x2, x4, by omega, by omega⟩
    rw [lp_X12_threeLeaveNothing_17, if_neg (show ¬ (3 : Int32) ≤ nI t from fun q => absurd ((nIle (a := 3) (by omega) (by omega)).mp q) (by omega)), ev_ccm h hb hc t3]
    simp only [Option.bind_some]
    rw [ev_ccm h hc ha t3]
    simp only [Option.bind_some]
    rw [ev_ccm h ha hb t3]
    simp only [Option.bind_some, xm_let]
    rw [show fn_X12_leaveNothing m (Int64.ofInt (ccm_ b c t)) (Int64.ofInt (ccm_ c a t)) (Int64.ofInt (ccm_ a b t)) 0 (nI i) (nI j) (nI k) (nI i) u = some (rr, u) from r1]
    simp only [Option.bind_some, ck_t r2]
    by_cases q1 : ccm_ b c t = 0
    · rw [if_pos ((z nbc).mpr q1)]
      by_cases q2 : ccm_ c a t = 0
      · rw [if_pos ((z nca).mpr q2)]
        by_cases q3 : ccm_ a b t = 0
        · rw [if_pos ((z nab).mpr q3)]
          obtain ⟨o, o1, o2⟩ := thr_lp (m := m) h ha hb hc la lb lc hd r (t + 1) f' (by omega) (by omega)
          rw [← nI_succ]
          refine ⟨o, o1, ?_⟩
          rcases o2 with o2 | ⟨l, o2, o3⟩
          · exact Or.inl o2
          · refine Or.inr ⟨l, o2, fun s h1 h2 => ?_⟩
            by_cases e : s = t
            · rw [e]; exact q3
            · exact o3 s (by omega) h2
        · rw [if_neg (fun w => q3 ((z nab).mp w))]
          exact ⟨_, rfl, out (fun w => q3 w.2.2)⟩
      · rw [if_neg (fun w => q2 ((z nca).mp w))]
        exact ⟨_, rfl, out (fun w => q2 w.2.1)⟩
    · rw [if_neg (fun w => q1 ((z nbc).mp w))]
      exact ⟨_, rfl, out (fun w => q1 w.1)⟩
theorem ev_three {m : Nat} (hm : 10 ≤ m) {u : xm_Y} {L : List V4_} (h : sq_ u L) {i j k : Nat} {a b c : V4_} (ha : L[i]? = some a) (hb : L[j]? = some b) (hc : L[k]? = some c) (la : bl_ a) (lb : bl_ b) (lc : bl_ c) : ∃ r : Int32, fn_X12_threeLeaveNothing m (nI i) (nI j) (nI k) u = some (r, u) ∧ (r = 0 ∨ r = 1) ∧ (r = 1 → Emp_ L) ∧ (ct3_ a b c → r = 1) := by
  have dd : nb_ 1000000000000000000 (d3_ a b c) := nb_w (d3_b la lb lc) (by decide)
  rw [fn_X12_threeLeaveNothing, ev_det h ha hb hc]
  simp only [Option.bind_some]
  by_cases q : d3_ a b c = 0
  · rw [if_pos ((i64z dd).mpr q)]
    obtain ⟨o, o1, o2⟩ := thr_lp (m := m) h ha hb hc la lb lc q 3 0 m (by omega) (by omega)
    rw [show lp_X12_threeLeaveNothing_17 m (nI i) (nI j) (nI k) m (0 : Int32) u = _ from o1]
    rcases o2 with ⟨rr, rfl, r2, r3, r4⟩ | ⟨l, rfl, o3⟩
    · exact ⟨rr, rfl, r2, r3, r4⟩
    · refine ⟨0, rfl, Or.inl rfl, fun w => absurd w (by decide), ?_⟩
      rintro ⟨_, _, _, _, _, _, hcx, _⟩
      exact absurd (show cx_ a b = z4_ from v4_ext (o3 0 (by omega) (by omega)) (o3 1 (by omega) (by omega)) (o3 2 (by omega) (by omega)) rfl) hcx
  · rw [if_neg (fun w => q ((i64z dd).mp w))]
    refine ⟨0, rfl, Or.inl rfl, fun w => absurd w (by decide), ?_⟩
    rintro ⟨α, β, γ, pa, pb, pc, hcx, e1, e2, e3, e4⟩
    have := d3ind q e1 e2 e3
    omega
theorem ev_four {m : Nat} {u : xm_Y} {L : List V4_} (h : sq_ u L) {i j k l : Nat} {a b c d : V4_} (ha : L[i]? = some a) (hb : L[j]? = some b) (hc : L[k]? = some c) (hd : L[l]? = some d) (la : bl_ a) (lb : bl_ b) (lc : bl_ c) (ld : bl_ d) : ∃ r : Int32, fn_X12_fourLeaveNothing m (nI i) (nI j) (nI k) (nI l) u = some (r, u) ∧ (r = 0 ∨ r = 1) ∧ (r = 1 → Emp_ L) ∧ (ct4_ a b c d → r = 1) := by
  have n1 := d3_b lb lc ld
  have n2 := nb_n (d3_b la lc ld)
  have n3 := d3_b la lb ld
  have n4 := nb_n (d3_b la lb lc)
  have z : ∀ {y : Int}, nb_ 48000 y → (Int64.ofInt y = 0 ↔ y = 0) := fun hy => i64z (nb_w hy (by decide))
  obtain ⟨rr, r1, r2, r3⟩ := ev_leave (m := m) h ha hb hc hd la lb lc ld n1 n2 n3 n4
  have em : rr = 1 → Emp_ L := fun w => leave_emp (List.mem_of_getElem? ha) (List.mem_of_getElem? hb) (List.mem_of_getElem? hc) (List.mem_of_getElem? hd) (by unfold d3_ cx_; grind) (by unfold d3_ cx_; grind) (by unfold d3_ cx_; grind) (r3.mp w)
  have cm : ct4_ a b c d → rr = 1 := by
    rintro ⟨α, β, γ, δ, pa, pb, pc, pd, hdd, e1, e2, e3, e4⟩
    apply r3.mpr
    have i1 : d3_ b c d * a.1 + -d3_ a c d * b.1 + d3_ a b d * c.1 + -d3_ a b c * d.1 = 0 := by unfold d3_ cx_; grind
    have i2 : d3_ b c d * a.2.1 + -d3_ a c d * b.2.1 + d3_ a b d * c.2.1 + -d3_ a b c * d.2.1 = 0 := by unfold d3_ cx_; grind
    have i3 : d3_ b c d * a.2.2.1 + -d3_ a c d * b.2.2.1 + d3_ a b d * c.2.2.1 + -d3_ a b c * d.2.2.1 = 0 := by unfold d3_ cx_; grind
    obtain ⟨k1, k2, k3⟩ := d3ind hdd (x := δ * d3_ b c d - -d3_ a b c * α) (y := δ * -d3_ a c d - -d3_ a b c * β) (z := δ * d3_ a b d - -d3_ a b c * γ) (by grind) (by grind) (by grind)
    exact prop_ln pa pb (Int.le_of_lt pc) pd (by omega) (by omega) (by omega) (by omega) e4
  have nzc : ct4_ a b c d → -d3_ a b c ≠ 0 := fun ⟨_, _, _, _, _, _, _, _, w, _⟩ => by omega
  have tail : ∃ r : Int32, (Option.bind (Option.bind (some (rr, u)) fun q13 => if q13.1 = 0 then some ((0 : Int32), q13.2) else some ((1 : Int32), q13.2)) fun q7 => xm_chk (q7.1 = 0 ∨ q7.1 = 1) (some (q7.1, q7.2))) = some (r, u) ∧ (r = 0 ∨ r = 1) ∧ (r = 1 → Emp_ L) ∧ (ct4_ a b c d → r = 1) := by
    rcases r2 with q | q
    · rw [q]; exact ⟨0, rfl, Or.inl rfl, fun w => absurd w (by decide), fun w => by have := cm w; rw [q] at this; exact this⟩
    · rw [q]; exact ⟨1, rfl, Or.inr rfl, fun _ => em q, fun _ => rfl⟩
  rw [fn_X12_fourLeaveNothing, ev_det h hb hc hd]
  simp only [Option.bind_some]
  rw [ev_det h ha hc hd]
  simp only [Option.bind_some]
  rw [ev_det h ha hb hd]
  simp only [Option.bind_some]
  rw [ev_det h ha hb hc]
  simp only [Option.bind_some, xm_let]
  rw [ong, ong, r1]
  by_cases q1 : d3_ b c d = 0
  · rw [if_pos ((z n1).mpr q1)]
    by_cases q2 : -d3_ a c d = 0
    · rw [if_pos ((z n2).mpr q2)]
      by_cases q3 : d3_ a b d = 0
      · rw [if_pos ((z n3).mpr q3)]
        by_cases q4 : -d3_ a b c = 0
        · rw [if_pos ((z n4).mpr q4)]
          exact ⟨0, rfl, Or.inl rfl, fun w => absurd w (by decide), fun w => absurd q4 (nzc w)⟩
        · rw [if_neg (fun w => q4 ((z n4).mp w))]; exact tail
      · rw [if_neg (fun w => q3 ((z n3).mp w))]; exact tail
    · rw [if_neg (fun w => q2 ((z n2).mp w))]; exact tail
  · rw [if_neg (fun w => q1 ((z n1).mp w))]; exact tail
