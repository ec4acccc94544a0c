/-! the LEAST -/
def wt_ (u : xm_Y) (W : V4_) : Prop := u.2 181 0 = Int64.ofInt W.1 ∧ u.2 181 1 = Int64.ofInt W.2.1 ∧ u.2 181 2 = Int64.ofInt W.2.2.1
def wb_ (W : V4_) : Prop := nb_ 7000 W.1 ∧ nb_ 7000 W.2.1 ∧ nb_ 7000 W.2.2.1 ∧ W.2.2.2 = 0
theorem sq_l {c u : xm_Y} {L : List V4_} (h : sq_ c L) (e : lf3_ c u) : sq_ u L := by
  obtain ⟨h1, h2, h3⟩ := h
  exact ⟨(e.2.1 11 (by decide)).trans h1, h2, fun k p hp => by rw [e.2.2 159 (by decide)]; exact h3 k p hp⟩
theorem wt_l {c u : xm_Y} {W : V4_} (h : wt_ c W) (e : lf3_ c u) : wt_ u W := by
  unfold wt_; rw [e.2.2 181 (by decide)]; exact h
def snd_ (L : List V4_) (W : V4_) : Option (Int × Int) → Prop
  | none => True
  | some p => ∀ q, KK_ L q → p.1 * q.2.2.2 ≤ p.2 * dp_ W q
def ge_ (o : Option (Int × Int)) (v : Int) : Prop := match o with
  | none => False
  | some p => v * p.2 ≤ p.1
theorem nl_ge {o : Option (Int × Int)} {N D : Int} (hD : 0 < D) (ho : ∀ p, o = some p → 0 < p.2) : (∀ v, ge_ o v → ge_ (nl_ o N D) v) ∧ (∀ v, v * D ≤ N → ge_ (nl_ o N D) v) := by
  cases o with
  | none => exact ⟨fun v h => h.elim, fun v h => h⟩
  | some p =>
    have p2 := ho p rfl
    have e : nl_ (some p) N D = if p.1 * D < N * p.2 then some (N, D) else some p := rfl
    rw [e]
    by_cases q : p.1 * D < N * p.2
    · rw [if_pos q]
      refine ⟨fun v hv => ?_, fun v hv => hv⟩
      have hv : v * p.2 ≤ p.1 := hv
      show v * D ≤ N
      have m1 := Int.mul_le_mul_of_nonneg_right hv (Int.le_of_lt hD)
      have : (v * D) * p.2 ≤ N * p.2 := by grind
      exact Int.le_of_mul_le_mul_right this p2
    · rw [if_neg q]
      refine ⟨fun v hv => hv, fun v hv => ?_⟩
      show v * p.2 ≤ p.1
      have m1 := Int.mul_le_mul_of_nonneg_right hv (Int.le_of_lt p2)
      have : (v * p.2) * D ≤ p.1 * D := by grind
      exact Int.le_of_mul_le_mul_right this hD
/-- one offer -/
theorem ofstep {m : Nat} (hm : 10 ≤ m) {u : xm_Y} {L : List V4_} (h : sq_ u L) {i j k : Nat} {a b c : V4_} (ha : L[i]? = some a) (hb : L[j]? = some b) (hc : L[k]? = some c) (la : bl_ a) (lb : bl_ b) (lc : bl_ c) {A B C Y : Int} (nA : nb_ 20000000 A) (nB : nb_ 20000000 B) (nC : nb_ 20000000 C) (nY : nb_ 48000 Y) (hY : Y ≠ 0) {W : V4_} (w4 : W.2.2.2 = 0) (i1 : Y * W.1 = A * a.1 + B * b.1 + C * c.1) (i2 : Y * W.2.1 = A * a.2.1 + B * b.2.1 + C * c.2.1) (i3 : Y * W.2.2.1 = A * a.2.2.1 + B * b.2.2.1 + C * c.2.2.1) {o : Option (Int × Int)} (ho : lst_ u o) (so : snd_ L W o) : ∃ (u' : xm_Y) (o' : Option (Int × Int)), fn_X12_offer m (Int64.ofInt A) (Int64.ofInt B) (Int64.ofInt C) (Int64.ofInt Y) (nI i) (nI j) (nI k) u = some ((), u') ∧ lf3_ u u' ∧ lst_ u' o' ∧ snd_ L W o' ∧ (∀ v, ge_ o v → ge_ o' v) ∧ (∀ μ α β γ v : Int, 0 < μ → 0 ≤ α → 0 ≤ β → 0 ≤ γ → μ * A = α * Y → μ * B = β * Y → μ * C = γ * Y → μ * v ≤ -(α * a.2.2.2 + β * b.2.2.2 + γ * c.2.2.2) → ge_ o' v) := by
  obtain ⟨S, hS⟩ : ∃ S : Int, S = if 0 ≤ Y then 1 else -1 := ⟨_, rfl⟩
  obtain ⟨u', e1, e2, e3⟩ := ev_offer hm h ha hb hc la lb lc nA nB nC nY hY ho hS
  have D0 : 0 < S * Y := by rw [hS]; split <;> omega
  have op : ∀ p, o = some p → 0 < p.2 := fun p hp => by rw [hp] at ho; exact ho.2.2.2.2.2.1
  rcases e3 with ⟨ok, l1⟩ | ⟨nok, rfl⟩
  · obtain ⟨g1, g2⟩ := nl_ge (o := o) (N := S * A * -a.2.2.2 + S * B * -b.2.2.2 + S * C * -c.2.2.2) D0 op
    refine ⟨u', _, e1, e2, l1, ?_, g1, fun μ α β γ v pμ pα pβ pγ x1 x2 x3 x4 => g2 v ?_⟩
    · have new : ∀ q, KK_ L q → (S * A * -a.2.2.2 + S * B * -b.2.2.2 + S * C * -c.2.2.2) * q.2.2.2 ≤ S * Y * dp_ W q := by
        intro q hq
        have pa := Int.mul_nonneg ok.1 (hq.1 a (List.mem_of_getElem? ha))
        have pb := Int.mul_nonneg ok.2.1 (hq.1 b (List.mem_of_getElem? hb))
        have pc := Int.mul_nonneg ok.2.2 (hq.1 c (List.mem_of_getElem? hc))
        have e : S * Y * dp_ W q = A * S * dp_ a q + B * S * dp_ b q + C * S * dp_ c q + (S * A * -a.2.2.2 + S * B * -b.2.2.2 + S * C * -c.2.2.2) * q.2.2.2 := by
          unfold dp_
          rw [w4]
          have : S * Y * (W.1 * q.1 + W.2.1 * q.2.1 + W.2.2.1 * q.2.2.1 + 0 * q.2.2.2) = S * ((Y * W.1) * q.1 + (Y * W.2.1) * q.2.1 + (Y * W.2.2.1) * q.2.2.1) := by grind
          rw [this, i1, i2, i3]
          grind
        omega
      cases o with
      | none => exact new
      | some p =>
        have en : nl_ (some p) (S * A * -a.2.2.2 + S * B * -b.2.2.2 + S * C * -c.2.2.2) (S * Y) = if p.1 * (S * Y) < (S * A * -a.2.2.2 + S * B * -b.2.2.2 + S * C * -c.2.2.2) * p.2 then some (S * A * -a.2.2.2 + S * B * -b.2.2.2 + S * C * -c.2.2.2, S * Y) else some p := rfl
        rw [en]
        split
        · exact new
        · exact so
    · -- v D <= N
      have k := Int.mul_le_mul_of_nonneg_right x4 (Int.le_of_lt D0)
      have e : μ * (S * A * -a.2.2.2 + S * B * -b.2.2.2 + S * C * -c.2.2.2) = -(α * a.2.2.2 + β * b.2.2.2 + γ * c.2.2.2) * (S * Y) := by
        have : μ * (S * A * -a.2.2.2 + S * B * -b.2.2.2 + S * C * -c.2.2.2) = S * ((μ * A) * -a.2.2.2 + (μ * B) * -b.2.2.2 + (μ * C) * -c.2.2.2) := by grind
        rw [this, x1, x2, x3]
        grind
      have : (v * (S * Y)) * μ ≤ (S * A * -a.2.2.2 + S * B * -b.2.2.2 + S * C * -c.2.2.2) * μ := by grind
      exact Int.le_of_mul_le_mul_right this pμ
  · refine ⟨u', o, e1, e2, ho, so, fun _ h => h, fun μ α β γ v pμ pα pβ pγ x1 x2 x3 x4 => ?_⟩
    exfalso
    apply nok
    have nn : ∀ {X δ : Int}, 0 ≤ δ → μ * X = δ * Y → 0 ≤ X * S := fun {X δ} hδ hX => by
      have : μ * (X * S) = δ * (S * Y) := by grind
      have g := Int.mul_nonneg hδ (Int.le_of_lt D0)
      exact (sgnmul pμ).1.mp (by omega)
    exact ⟨nn pα x1, nn pβ x2, nn pγ x3⟩
theorem ev_detW {m : Nat} {u : xm_Y} {L : List V4_} (h : sq_ u L) {j k : Nat} {b c W : V4_} (hb : L[j]? = some b) (hc : L[k]? = some c) (hW : wt_ u W) : fn_X12_determinantWanted m (nI j) (nI k) u = some (Int64.ofInt (d3_ W b c), u) := by
  obtain ⟨x0, x1, x2⟩ := ev_crossd (m := m) h hb hc
  obtain ⟨w1, w2, w3⟩ := hW
  rw [fn_X12_determinantWanted, ck_t (by decide), x0]
  simp only [Option.bind_some]
  rw [ck_t (by decide), x1]
  simp only [Option.bind_some]
  rw [ck_t (by decide), x2]
  simp only [Option.bind_some]
  rw [show u.2 181 (Int32.toNatClampNeg 0) = _ from w1, show u.2 181 (Int32.toNatClampNeg 1) = _ from w2, show u.2 181 (Int32.toNatClampNeg 2) = _ from w3, om, om, om, oa, oa]
  rfl
theorem ev_crossW {m : Nat} {u : xm_Y} {L : List V4_} (h : sq_ u L) {i : Nat} {a W : V4_} (ha : L[i]? = some a) (hW : wt_ u W) {t : Nat} (ht : t < 3) : fn_X12_crossWanted m (nI i) (nI t) u = some (Int64.ofInt (ccm_ a W t), u) := by
  have il := lt_of ha
  have l12 := h.2.1
  obtain ⟨a1, a2, a3, -⟩ := h.2.2 i a ha
  obtain ⟨w1, w2, w3⟩ := hW
  have e4 : (4 : Int32) * nI i = nI (4 * i) := nI_mu 4 i
  have e1 : nI (4 * i) + 1 = nI (4 * i + 1) := nI_ad _ 1
  have e2 : nI (4 * i) + 2 = nI (4 * i + 2) := nI_ad _ 2
  have e0 : nI (4 * i) + 0 = nI (4 * i) := Int32.add_zero _
  have c0 : xm_in (nI (4 * i)) 48 := nI_xi (by omega) (by omega)
  have c1 : xm_in (nI (4 * i + 1)) 48 := nI_xi (by omega) (by omega)
  have c2 : xm_in (nI (4 * i + 2)) 48 := nI_xi (by omega) (by omega)
  have : t = 0 ∨ t = 1 ∨ t = 2 := by omega
  rcases this with rfl | rfl | rfl
  · rw [fn_X12_crossWanted, ck_t (by decide)]
    simp only [xm_let]
    rw [ck_t (by decide)]
    show xm_chk (xm_in ((4 : Int32) * nI i + 1) 48) (xm_chk (xm_in (2 : Int32) 3) (xm_chk (xm_in ((4 : Int32) * nI i + 2) 48) (xm_chk (xm_in (1 : Int32) 3) (some (u.2 159 ((4 : Int32) * nI i + 1).toNatClampNeg * u.2 181 (Int32.toNatClampNeg 2) - u.2 159 ((4 : Int32) * nI i + 2).toNatClampNeg * u.2 181 (Int32.toNatClampNeg 1), u))))) = _
    rw [e4, e1, e2, ck_t c1, ck_t (by decide), ck_t c2, ck_t (by decide), nI_cl (show 4 * i + 1 < 2 ^ 31 by omega), nI_cl (show 4 * i + 2 < 2 ^ 31 by omega), a2, a3, show u.2 181 (Int32.toNatClampNeg 2) = _ from w3, show u.2 181 (Int32.toNatClampNeg 1) = _ from w2, om, om, os]
    rfl
  · rw [fn_X12_crossWanted, ck_t (by decide)]
    simp only [xm_let]
    rw [ck_t (by decide)]
    show xm_chk (xm_in ((4 : Int32) * nI i + 2) 48) (xm_chk (xm_in (0 : Int32) 3) (xm_chk (xm_in ((4 : Int32) * nI i + 0) 48) (xm_chk (xm_in (2 : Int32) 3) (some (u.2 159 ((4 : Int32) * nI i + 2).toNatClampNeg * u.2 181 (Int32.toNatClampNeg 0) - u.2 159 ((4 : Int32) * nI i + 0).toNatClampNeg * u.2 181 (Int32.toNatClampNeg 2), u))))) = _
    rw [e4, e0, e2, ck_t c2, ck_t (by decide), ck_t c0, ck_t (by decide), nI_cl (show 4 * i < 2 ^ 31 by omega), nI_cl (show 4 * i + 2 < 2 ^ 31 by omega), a1, a3, show u.2 181 (Int32.toNatClampNeg 2) = _ from w3, show u.2 181 (Int32.toNatClampNeg 0) = _ from w1, om, om, os]
    rfl
  · rw [fn_X12_crossWanted, ck_t (by decide)]
    simp only [xm_let]
    rw [ck_t (by decide)]
    show xm_chk (xm_in ((4 : Int32) * nI i + 0) 48) (xm_chk (xm_in (1 : Int32) 3) (xm_chk (xm_in ((4 : Int32) * nI i + 1) 48) (xm_chk (xm_in (0 : Int32) 3) (some (u.2 159 ((4 : Int32) * nI i + 0).toNatClampNeg * u.2 181 (Int32.toNatClampNeg 1) - u.2 159 ((4 : Int32) * nI i + 1).toNatClampNeg * u.2 181 (Int32.toNatClampNeg 0), u))))) = _
    rw [e4, e0, e1, ck_t c0, ck_t (by decide), ck_t c1, ck_t (by decide), nI_cl (show 4 * i < 2 ^ 31 by omega), nI_cl (show 4 * i + 1 < 2 ^ 31 by omega), a1, a2, show u.2 181 (Int32.toNatClampNeg 1) = _ from w2, show u.2 181 (Int32.toNatClampNeg 0) = _ from w1, om, om, os]
    rfl
theorem cW_b {a W : V4_} (la : bl_ a) (wb : wb_ W) (t : Nat) : nb_ 280000 (ccm_ a W t) := by
  obtain ⟨a1, a2, a3, -⟩ := la
  obtain ⟨b1, b2, b3, -⟩ := wb
  unfold ccm_ cm_
  split
  · exact nb_s (nb_m a2 b3) (nb_m a3 b2)
  · split
    · exact nb_s (nb_m a3 b1) (nb_m a1 b3)
    · exact nb_s (nb_m a1 b2) (nb_m a2 b1)
theorem dW_b {b c W : V4_} (lb : bl_ b) (lc : bl_ c) (wb : wb_ W) : nb_ 20000000 (d3_ W b c) := by
  obtain ⟨x1, x2, x3⟩ := cx_b lb lc
  exact nb_w (nb_a (nb_a (nb_m wb.1 x1) (nb_m wb.2.1 x2)) (nb_m wb.2.2.1 x3)) (by decide)
/-- what a step of the search keeps -/
def stp_ (L : List V4_) (W : V4_) (u : xm_Y) (o : Option (Int × Int)) (u' : xm_Y) (o' : Option (Int × Int)) : Prop := lf3_ u u' ∧ lst_ u' o' ∧ snd_ L W o' ∧ ∀ v, ge_ o v → ge_ o' v
theorem stp_.rf {L : List V4_} {W : V4_} {u : xm_Y} {o : Option (Int × Int)} (ho : lst_ u o) (so : snd_ L W o) : stp_ L W u o u o := ⟨lf3_.rf u, ho, so, fun _ h => h⟩
theorem stp_.tr {L : List V4_} {W : V4_} {u v w : xm_Y} {o p q : Option (Int × Int)} (h : stp_ L W u o v p) (g : stp_ L W v p w q) : stp_ L W u o w q := ⟨h.1.tr g.1, g.2.1, g.2.2.1, fun x hx => g.2.2.2 x (h.2.2.2 x hx)⟩
def o1_ (W a : V4_) (v : Int) : Prop := ∃ μ α : Int, 0 < μ ∧ 0 < α ∧ ¬ z3_ a ∧ μ * W.1 = α * a.1 ∧ μ * W.2.1 = α * a.2.1 ∧ μ * W.2.2.1 = α * a.2.2.1 ∧ μ * v ≤ -(α * a.2.2.2)
def o2_ (W a b : V4_) (v : Int) : Prop := ∃ μ α β : Int, 0 < μ ∧ 0 < α ∧ 0 < β ∧ cx_ a b ≠ z4_ ∧ μ * W.1 = α * a.1 + β * b.1 ∧ μ * W.2.1 = α * a.2.1 + β * b.2.1 ∧ μ * W.2.2.1 = α * a.2.2.1 + β * b.2.2.1 ∧ μ * v ≤ -(α * a.2.2.2 + β * b.2.2.2)
def o3_ (W a b c : V4_) (v : Int) : Prop := ∃ μ α β γ : Int, 0 < μ ∧ 0 < α ∧ 0 < β ∧ 0 < γ ∧ d3_ a b c ≠ 0 ∧ μ * W.1 = α * a.1 + β * b.1 + γ * c.1 ∧ μ * W.2.1 = α * a.2.1 + β * b.2.1 + γ * c.2.1 ∧ μ * W.2.2.1 = α * a.2.2.1 + β * b.2.2.1 + γ * c.2.2.1 ∧ μ * v ≤ -(α * a.2.2.2 + β * b.2.2.2 + γ * c.2.2.2)
theorem wt_cm {u : xm_Y} {W : V4_} (h : wt_ u W) {t : Nat} (ht : t < 3) : u.2 181 t = Int64.ofInt (cm_ W t) := by
  have : t = 0 ∨ t = 1 ∨ t = 2 := by omega
  rcases this with rfl | rfl | rfl
  · exact h.1
  · exact h.2.1
  · exact h.2.2
theorem cmq3 {a b : V4_} {x y : Int} (h : ∀ s, s < 3 → x * cm_ a s = y * cm_ b s) : x * a.1 = y * b.1 ∧ x * a.2.1 = y * b.2.1 ∧ x * a.2.2.1 = y * b.2.2.1 := ⟨h 0 (by omega), h 1 (by omega), h 2 (by omega)⟩
theorem ev_one {m : Nat} (hm : 10 ≤ m) {u : xm_Y} {L : List V4_} (h : sq_ u L) {i : Nat} {a W : V4_} (ha : L[i]? = some a) (la : bl_ a) (hW : wt_ u W) (wb : wb_ W) {o : Option (Int × Int)} (ho : lst_ u o) (so : snd_ L W o) : ∃ (u' : xm_Y) (o' : Option (Int × Int)), fn_X12_byOne m (nI i) u = some ((), u') ∧ stp_ L W u o u' o' ∧ ∀ v, o1_ W a v → ge_ o' v := by
  have il := lt_of ha
  have l12 := h.2.1
  obtain ⟨rz, z1, -, z3⟩ := ev_isZero (m := m) h ha la
  have zc : ∀ t, Int64.ofInt (ccm_ a W t) = 0 ↔ ccm_ a W t = 0 := fun t => i64z (nb_w (cW_b la wb t) (by decide))
  have par : ∀ v, o1_ W a v → ∀ t, t < 3 → ccm_ a W t = 0 := by
    rintro v ⟨μ, α, pm, pa, nz, e1, e2, e3, -⟩ t ht
    have k : ∀ y : Int, μ * y = 0 → y = 0 := fun y hy => by
      rcases Int.mul_eq_zero.mp hy with q | q
      · omega
      · exact q
    apply k
    have : t = 0 ∨ t = 1 ∨ t = 2 := by omega
    rcases this with rfl | rfl | rfl
    · show μ * (a.2.1 * W.2.2.1 - a.2.2.1 * W.2.1) = 0; grind
    · show μ * (a.2.2.1 * W.1 - a.1 * W.2.2.1) = 0; grind
    · show μ * (a.1 * W.2.1 - a.2.1 * W.1) = 0; grind
  rw [fn_X12_byOne, z1]
  simp only [Option.bind_some]
  by_cases za : z3_ a
  · rw [if_neg (fun w => z3.mp w za)]
    exact ⟨u, o, rfl, stp_.rf ho so, fun v ⟨_, _, _, _, nz, _⟩ => absurd za nz⟩
  rw [if_pos (z3.mpr za), show fn_X12_crossWanted m (nI i) 0 u = _ from ev_crossW h ha hW (t := 0) (by omega)]
  simp only [Option.bind_some]
  by_cases q0 : ccm_ a W 0 = 0
  · rw [if_pos ((zc 0).mpr q0), show fn_X12_crossWanted m (nI i) 1 u = _ from ev_crossW h ha hW (t := 1) (by omega)]
    simp only [Option.bind_some]
    by_cases q1 : ccm_ a W 1 = 0
    · rw [if_pos ((zc 1).mpr q1), show fn_X12_crossWanted m (nI i) 2 u = _ from ev_crossW h ha hW (t := 2) (by omega)]
      simp only [Option.bind_some]
      by_cases q2 : ccm_ a W 2 = 0
      · rw [if_pos ((zc 2).mpr q2)]
        obtain ⟨t, t1, t2, t3⟩ := fstm za
        have tw := (two29 (m := m) h ha la t1 t2 t3 t 0 m (by omega) (by omega)).2
        rw [show lp_X12_byOne_44 m (nI i) u m (0 : Int32) = _ from tw]
        simp only [Option.bind_some]
        have ei : (4 : Int32) * nI i + nI t = nI (4 * i + t) := by rw [show (4 : Int32) = nI 4 from rfl, nI_mu, nI_ad]
        have cz : cx_ a W = z4_ := v4_ext q0 q1 q2 rfl
        rw [ei, ck_t (nI_xi t1 (by omega)), ck_t (nI_xi (by omega) (by omega)), nI_cl (show t < 2 ^ 31 by omega), nI_cl (show 4 * i + t < 2 ^ 31 by omega), sq_cm h ha t1, wt_cm hW t1]
        have wtb : nb_ 20000000 (cm_ W t) := by
          unfold cm_
          split
          · exact nb_w wb.1 (by decide)
          · split
            · exact nb_w wb.2.1 (by decide)
            · exact nb_w wb.2.2.1 (by decide)
        have n0 : nb_ 20000000 (0 : Int) := by unfold nb_; decide
        obtain ⟨j1, j2, j3⟩ := cmq3 (a := W) (b := a) (x := cm_ a t) (y := cm_ W t) (fun s hs => by
          have := cx_cm cz t s t1 hs
          rw [this, Int.mul_comm])
        obtain ⟨u', o', p1, p2, p3, p4, p5, p6⟩ := ofstep hm h ha ha ha la la la (A := cm_ W t) (B := 0) (C := 0) (Y := cm_ a t) wtb n0 n0 (nb_w (cm_b la t) (by decide)) t2 wb.2.2.2 (by omega) (by omega) (by omega) ho so
        rw [show fn_X12_offer m (Int64.ofInt (cm_ W t)) 0 0 (Int64.ofInt (cm_ a t)) (nI i) (nI i) (nI i) u = _ from p1]
        refine ⟨u', o', rfl, ⟨p2, p3, p4, p5⟩, ?_⟩
        rintro v ⟨μ, α, pm, pa, nz, e1, e2, e3, e4⟩
        refine p6 μ α 0 0 v pm (by omega) (by omega) (by omega) ?_ (by omega) (by omega) (by omega)
        have : t = 0 ∨ t = 1 ∨ t = 2 := by omega
        rcases this with rfl | rfl | rfl
        · exact e1
        · exact e2
        · exact e3
      · rw [if_neg (fun w => q2 ((zc 2).mp w))]
        exact ⟨u, o, rfl, stp_.rf ho so, fun v w => absurd (par v w 2 (by omega)) q2⟩
    · rw [if_neg (fun w => q1 ((zc 1).mp w))]
      exact ⟨u, o, rfl, stp_.rf ho so, fun v w => absurd (par v w 1 (by omega)) q1⟩
  · rw [if_neg (fun w => q0 ((zc 0).mp w))]
    exact ⟨u, o, rfl, stp_.rf ho so, fun v w => absurd (par v w 0 (by omega)) q0⟩
theorem two_lp {m : Nat} (hm : 10 ≤ m) {L : List V4_} {i j : Nat} {a b W : V4_} (ha : L[i]? = some a) (hb : L[j]? = some b) (la : bl_ a) (lb : bl_ b) (wb : wb_ W) (hd : d3_ W a b = 0) {u : xm_Y} (h : sq_ u L) (hW : wt_ u W) {o : Option (Int × Int)} (ho : lst_ u o) (so : snd_ L W o) : ∀ (r t f : Nat), t + r = 3 → r + 1 ≤ f → (∀ s, s < t → ccm_ a b s = 0) → ∃ (u' : xm_Y) (o' : Option (Int × Int)), (lp_X12_byTwo_14 m (nI i) (nI j) f (nI t) u).bind (Sum.elim (fun r => some r) (fun q10 => some ((), q10.2))) = some ((), u') ∧ stp_ L W u o u' o' ∧ ∀ v, o2_ W a b v → ge_ o' v
  | 0, t, f, ht, hf, hs => by
    obtain ⟨f', rfl⟩ : ∃ f', f = f' + 1 := ⟨f - 1, by omega⟩
    obtain rfl : t = 3 := by omega
    refine ⟨u, o, by rw [lp_X12_byTwo_14, if_pos (by decide)]; rfl, stp_.rf ho so, ?_⟩
    rintro v ⟨_, _, _, _, _, _, hcx, _⟩
    exact absurd (show cx_ a b = z4_ from v4_ext (hs 0 (by omega)) (hs 1 (by omega)) (hs 2 (by omega)) rfl) hcx
  | r + 1, t, f, ht, hf, hs => by
    obtain ⟨f', rfl⟩ : ∃ f', f = f' + 1 := ⟨f - 1, by omega⟩
    have t3 : t < 3 := by omega
    have nab := ccm_b la lb t
    rw [lp_X12_byTwo_14, if_neg (show ¬ (3 : Int32) ≤ nI t from fun q => absurd ((nIle (a := 3) (by omega) (by omega)).mp q) (by omega)), ev_ccm h ha hb t3]
    simp only [Option.bind_some, xm_let]
    by_cases q : ccm_ a b t = 0
    · rw [if_pos ((i64z (nb_w nab (by decide))).mpr q), ← nI_succ]
      exact two_lp hm ha hb la lb wb hd h hW ho so r (t + 1) f' (by omega) (by omega) (fun s h1 => by
        by_cases e : s = t
        · rw [e]; exact q
        · exact hs s (by omega))
    · rw [if_neg (fun w => q ((i64z (nb_w nab (by decide))).mp w)), ev_crossW h hb hW t3]
      simp only [Option.bind_some]
      rw [ev_crossW h ha hW t3]
      simp only [Option.bind_some]
      rw [ong]
      have n0 : nb_ 20000000 (0 : Int) := by unfold nb_; decide
      have id3 := ccm_d (a := W) (b := a) (c := b) hd t t3
      have sw : ccm_ W a t = -ccm_ a W t := by
        have : t = 0 ∨ t = 1 ∨ t = 2 := by omega
        rcases this with rfl | rfl | rfl
        · show W.2.1 * a.2.2.1 - W.2.2.1 * a.2.1 = -(a.2.1 * W.2.2.1 - a.2.2.1 * W.2.1); grind
        · show W.2.2.1 * a.1 - W.1 * a.2.2.1 = -(a.2.2.1 * W.1 - a.1 * W.2.2.1); grind
        · show W.1 * a.2.1 - W.2.1 * a.1 = -(a.1 * W.2.1 - a.2.1 * W.1); grind
      rw [sw] at id3
      obtain ⟨g1, g2, g3⟩ := id3
      obtain ⟨u', o', p1, p2, p3, p4, p5, p6⟩ := ofstep hm h ha hb ha la lb la (A := -ccm_ b W t) (B := ccm_ a W t) (C := 0) (Y := ccm_ a b t) (nb_w (nb_n (cW_b lb wb t)) (by decide)) (nb_w (cW_b la wb t) (by decide)) n0 nab q wb.2.2.2 (by grind) (by grind) (by grind) ho so
      rw [show fn_X12_offer m (Int64.ofInt (-ccm_ b W t)) (Int64.ofInt (ccm_ a W t)) 0 (Int64.ofInt (ccm_ a b t)) (nI i) (nI j) (nI i) u = _ from p1]
      refine ⟨u', o', rfl, ⟨p2, p3, p4, p5⟩, ?_⟩
      rintro v ⟨μ, α, β, pm, pa, pb, hcx, e1, e2, e3, e4⟩
      refine p6 μ α β 0 v pm (by omega) (by omega) (by omega) ?_ ?_ (by omega) (by omega)
      · have : t = 0 ∨ t = 1 ∨ t = 2 := by omega
        rcases this with rfl | rfl | rfl
        · show μ * -(b.2.1 * W.2.2.1 - b.2.2.1 * W.2.1) = α * (a.2.1 * b.2.2.1 - a.2.2.1 * b.2.1); grind
        · show μ * -(b.2.2.1 * W.1 - b.1 * W.2.2.1) = α * (a.2.2.1 * b.1 - a.1 * b.2.2.1); grind
        · show μ * -(b.1 * W.2.1 - b.2.1 * W.1) = α * (a.1 * b.2.1 - a.2.1 * b.1); grind
      · have : t = 0 ∨ t = 1 ∨ t = 2 := by omega
        rcases this with rfl | rfl | rfl
        · show μ * (a.2.1 * W.2.2.1 - a.2.2.1 * W.2.1) = β * (a.2.1 * b.2.2.1 - a.2.2.1 * b.2.1); grind
        · show μ * (a.2.2.1 * W.1 - a.1 * W.2.2.1) = β * (a.2.2.1 * b.1 - a.1 * b.2.2.1); grind
        · show μ * (a.1 * W.2.1 - a.2.1 * W.1) = β * (a.1 * b.2.1 - a.2.1 * b.1); grind
theorem ev_twoW {m : Nat} (hm : 10 ≤ m) {u : xm_Y} {L : List V4_} (h : sq_ u L) {i j : Nat} {a b W : V4_} (ha : L[i]? = some a) (hb : L[j]? = some b) (la : bl_ a) (lb : bl_ b) (hW : wt_ u W) (wb : wb_ W) {o : Option (Int × Int)} (ho : lst_ u o) (so : snd_ L W o) : ∃ (u' : xm_Y) (o' : Option (Int × Int)), fn_X12_byTwo m (nI i) (nI j) u = some ((), u') ∧ stp_ L W u o u' o' ∧ ∀ v, o2_ W a b v → ge_ o' v := by
  have db := dW_b la lb wb
  rw [fn_X12_byTwo, ev_detW h ha hb hW]
  simp only [Option.bind_some]
  by_cases q : d3_ W a b = 0
  · rw [if_pos ((i64z (nb_w db (by decide))).mpr q)]
    exact two_lp hm ha hb la lb wb q h hW ho so 3 0 m (by omega) (by omega) (fun s hs => by omega)
  · rw [if_neg (fun w => q ((i64z (nb_w db (by decide))).mp w))]
    refine ⟨u, o, rfl, stp_.rf ho so, ?_⟩
    rintro v ⟨μ, α, β, pm, pa, pb, hcx, e1, e2, e3, e4⟩
    exfalso
    apply q
    have k : ∀ y : Int, μ * y = 0 → y = 0 := fun y hy => by
      rcases Int.mul_eq_zero.mp hy with q | q
      · omega
      · exact q
    apply k
    unfold d3_ cx_
    grind
theorem l3_lp {m : Nat} (hm : 10 ≤ m) {L : List V4_} (hbl : ∀ p, p ∈ L → bl_ p) {i j : Nat} {a b W : V4_} (ha : L[i]? = some a) (hb : L[j]? = some b) (wb : wb_ W) : ∀ (r k f : Nat) (u : xm_Y) (o : Option (Int × Int)), k + r = L.length → r + 1 ≤ f → sq_ u L → wt_ u W → lst_ u o → snd_ L W o → ∃ (l : Int32) (u' : xm_Y) (o' : Option (Int × Int)), lp_X12_findLeast_102 m (nI i) (nI j) f (nI k) u = some (l, u') ∧ stp_ L W u o u' o' ∧ ∀ (k' : Nat) (c : V4_) (v : Int), k ≤ k' → L[k']? = some c → o3_ W a b c v → ge_ o' v
  | 0, k, f, u, o, hk, hf, h, hW, ho, so => by
    obtain ⟨f', rfl⟩ : ∃ f', f = f' + 1 := ⟨f - 1, by omega⟩
    have l12 := h.2.1
    refine ⟨nI k, u, o, by rw [lp_X12_findLeast_102, h.1, if_pos ((nIle (by omega) (by omega)).mpr (by omega))], stp_.rf ho so, fun k' c v h1 hc => ?_⟩
    rw [List.getElem?_eq_none (by omega)] at hc; cases hc
  | r + 1, k, f, u, o, hk, hf, h, hW, ho, so => by
    obtain ⟨f', rfl⟩ : ∃ f', f = f' + 1 := ⟨f - 1, by omega⟩
    have l12 := h.2.1
    have hc : L[k]? = some L[k] := List.getElem?_eq_getElem (by omega)
    have la := hbl _ (List.mem_of_getElem? ha)
    have lb := hbl _ (List.mem_of_getElem? hb)
    have lc := hbl _ (List.mem_of_getElem? hc)
    have dd := d3_b la lb lc
    have one : ∃ (u1 : xm_Y) (o1 : Option (Int × Int)), (if Int64.ofInt (d3_ a b L[k]) = 0 then some u else Option.bind (fn_X12_determinantWanted m (nI j) (nI k) u) fun q22 => Option.bind (fn_X12_determinantWanted m (nI k) (nI i) q22.2) fun q23 => Option.bind (fn_X12_determinantWanted m (nI i) (nI j) q23.2) fun q24 => Option.bind (fn_X12_offer m q22.1 q23.1 q24.1 (Int64.ofInt (d3_ a b L[k])) (nI i) (nI j) (nI k) q24.2) fun q25 => some q25.2) = some u1 ∧ stp_ L W u o u1 o1 ∧ ∀ v, o3_ W a b L[k] v → ge_ o1 v := by
      by_cases q : d3_ a b L[k] = 0
      · rw [if_pos ((i64z (nb_w dd (by decide))).mpr q)]
        exact ⟨u, o, rfl, stp_.rf ho so, fun v ⟨_, _, _, _, _, _, _, _, w, _⟩ => absurd q w⟩
      · rw [if_neg (fun w => q ((i64z (nb_w dd (by decide))).mp w)), ev_detW h hb hc hW]
        simp only [Option.bind_some]
        rw [ev_detW h hc ha hW]
        simp only [Option.bind_some]
        rw [ev_detW h ha hb hW]
        simp only [Option.bind_some]
        obtain ⟨u', o', p1, p2, p3, p4, p5, p6⟩ := ofstep hm h ha hb hc la lb lc (dW_b lb lc wb) (dW_b lc la wb) (dW_b la lb wb) dd q wb.2.2.2 (by unfold d3_ cx_; grind) (by unfold d3_ cx_; grind) (by unfold d3_ cx_; grind) ho so
        rw [p1]
        refine ⟨u', o', rfl, ⟨p2, p3, p4, p5⟩, ?_⟩
        rintro v ⟨μ, α, β, γ, pm, pa, pb, pc, hd, e1, e2, e3, e4⟩
        refine p6 μ α β γ v pm (by omega) (by omega) (by omega) ?_ ?_ ?_ e4
        · unfold d3_ cx_; grind
        · unfold d3_ cx_; grind
        · unfold d3_ cx_; grind
    obtain ⟨u1, o1, a1, a2, a3⟩ := one
    obtain ⟨l, u', o', p1, p2, p3⟩ := l3_lp hm hbl ha hb wb r (k + 1) f' u1 o1 (by omega) (by omega) (sq_l h a2.1) (wt_l hW a2.1) a2.2.1 a2.2.2.1
    refine ⟨l, u', o', ?_, a2.tr p2, fun k' c v h1 hc' ct => ?_⟩
    · rw [lp_X12_findLeast_102, h.1, if_neg (fun q => absurd ((nIle (by omega) (by omega)).mp q) (by omega)), ev_det h ha hb hc]
      simp only [Option.bind_some]
      rw [a1]
      simp only [Option.bind_some, xm_let]
      rw [← nI_succ]; exact p1
    · by_cases e : k' = k
      · subst e
        rw [hc] at hc'
        cases hc'
        exact p2.2.2.2 v (a3 v ct)
      · exact p3 k' c v (by omega) hc' ct
theorem l2_lp {m : Nat} (hm : 20 ≤ m) {L : List V4_} (hbl : ∀ p, p ∈ L → bl_ p) {i : Nat} {a W : V4_} (ha : L[i]? = some a) (wb : wb_ W) : ∀ (r j f : Nat) (u : xm_Y) (o : Option (Int × Int)), j + r = L.length → r + 1 ≤ f → sq_ u L → wt_ u W → lst_ u o → snd_ L W o → ∃ (l : Int32) (u' : xm_Y) (o' : Option (Int × Int)), lp_X12_findLeast_84 m (nI i) f (nI j) u = some (l, u') ∧ stp_ L W u o u' o' ∧ (∀ (j' : Nat) (b : V4_) (v : Int), j ≤ j' → L[j']? = some b → o2_ W a b v → ge_ o' v) ∧ (∀ (j' k' : Nat) (b c : V4_) (v : Int), j ≤ j' → j' < k' → L[j']? = some b → L[k']? = some c → o3_ W a b c v → ge_ o' v)
  | 0, j, f, u, o, hj, hf, h, hW, ho, so => by
    obtain ⟨f', rfl⟩ : ∃ f', f = f' + 1 := ⟨f - 1, by omega⟩
    have l12 := h.2.1
    refine ⟨nI j, u, o, by rw [lp_X12_findLeast_84, h.1, if_pos ((nIle (by omega) (by omega)).mpr (by omega))], stp_.rf ho so, fun j' b v h1 hb => ?_, fun j' k' b c v h1 _ hb => ?_⟩
    all_goals (rw [List.getElem?_eq_none (by omega)] at hb; cases hb)
  | r + 1, j, f, u, o, hj, hf, h, hW, ho, so => by
    obtain ⟨f', rfl⟩ : ∃ f', f = f' + 1 := ⟨f - 1, by omega⟩
    have l12 := h.2.1
    have hb : L[j]? = some L[j] := List.getElem?_eq_getElem (by omega)
    have la := hbl _ (List.mem_of_getElem? ha)
    have lb := hbl _ (List.mem_of_getElem? hb)
    obtain ⟨u1, o1, a1, a2, a3⟩ := ev_twoW (m := m) (by omega) h ha hb la lb hW wb ho so
    obtain ⟨l2, u2, o2, b1, b2, b3⟩ := l3_lp (m := m) (by omega) hbl ha hb wb r (j + 1) m u1 o1 (by omega) (by omega) (sq_l h a2.1) (wt_l hW a2.1) a2.2.1 a2.2.2.1
    have ab := a2.tr b2
    obtain ⟨l, u', o', p1, p2, p3, p4⟩ := l2_lp hm hbl ha wb r (j + 1) f' u2 o2 (by omega) (by omega) (sq_l h ab.1) (wt_l hW ab.1) ab.2.1 ab.2.2.1
    refine ⟨l, u', o', ?_, ab.tr p2, fun j' b v h1 hb' ct => ?_, fun j' k' b c v h1 h2 hb' hc ct => ?_⟩
    · rw [lp_X12_findLeast_84, h.1, if_neg (fun q => absurd ((nIle (by omega) (by omega)).mp q) (by omega)), a1]
      simp only [Option.bind_some, xm_let]
      rw [← nI_succ, b1]
      simp only [Option.bind_some]
      exact p1
    · by_cases e : j' = j
      · subst e
        rw [hb] at hb'
        cases hb'
        exact p2.2.2.2 v (b2.2.2.2 v (a3 v ct))
      · exact p3 j' b v (by omega) hb' ct
    · by_cases e : j' = j
      · subst e
        rw [hb] at hb'
        cases hb'
        exact p2.2.2.2 v (b3 k' c v (by omega) hc ct)
      · exact p4 j' k' b c v (by omega) h2 hb' hc ct
theorem l1_lp {m : Nat} (hm : 20 ≤ m) {L : List V4_} (hbl : ∀ p, p ∈ L → bl_ p) {W : V4_} (wb : wb_ W) : ∀ (r i f : Nat) (u : xm_Y) (o : Option (Int × Int)), i + r = L.length → r + 1 ≤ f → sq_ u L → wt_ u W → lst_ u o → snd_ L W o → ∃ (l : Int32) (u' : xm_Y) (o' : Option (Int × Int)), lp_X12_findLeast_67 m f (nI i) u = some (l, u') ∧ stp_ L W u o u' o' ∧ (∀ (i' : Nat) (a : V4_) (v : Int), i ≤ i' → L[i']? = some a → o1_ W a v → ge_ o' v) ∧ (∀ (i' j' : Nat) (a b : V4_) (v : Int), i ≤ i' → i' < j' → L[i']? = some a → L[j']? = some b → o2_ W a b v → ge_ o' v) ∧ (∀ (i' j' k' : Nat) (a b c : V4_) (v : Int), i ≤ i' → i' < j' → j' < k' → L[i']? = some a → L[j']? = some b → L[k']? = some c → o3_ W a b c v → ge_ o' v)
  | 0, i, f, u, o, hi, hf, h, hW, ho, so => by
    obtain ⟨f', rfl⟩ : ∃ f', f = f' + 1 := ⟨f - 1, by omega⟩
    have l12 := h.2.1
    refine ⟨nI i, u, o, by rw [lp_X12_findLeast_67, h.1, if_pos ((nIle (by omega) (by omega)).mpr (by omega))], stp_.rf ho so, fun i' a v h1 ha => ?_, fun i' j' a b v h1 _ ha => ?_, fun i' j' k' a b c v h1 _ _ ha => ?_⟩
    all_goals (rw [List.getElem?_eq_none (by omega)] at ha; cases ha)
  | r + 1, i, f, u, o, hi, hf, h, hW, ho, so => by
    obtain ⟨f', rfl⟩ : ∃ f', f = f' + 1 := ⟨f - 1, by omega⟩
    have l12 := h.2.1
    have ha : L[i]? = some L[i] := List.getElem?_eq_getElem (by omega)
    have la := hbl _ (List.mem_of_getElem? ha)
    obtain ⟨u1, o1, a1, a2, a3⟩ := ev_one (m := m) (by omega) h ha la hW wb ho so
    obtain ⟨l2, u2, o2, b1, b2, b3, b4⟩ := l2_lp (m := m) hm hbl ha wb r (i + 1) m u1 o1 (by omega) (by omega) (sq_l h a2.1) (wt_l hW a2.1) a2.2.1 a2.2.2.1
    have ab := a2.tr b2
    obtain ⟨l, u', o', p1, p2, p3, p4, p5⟩ := l1_lp hm hbl wb r (i + 1) f' u2 o2 (by omega) (by omega) (sq_l h ab.1) (wt_l hW ab.1) ab.2.1 ab.2.2.1
    refine ⟨l, u', o', ?_, ab.tr p2, fun i' a v h1 ha' ct => ?_, fun i' j' a b v h1 h2 ha' hb ct => ?_, fun i' j' k' a b c v h1 h2 h3 ha' hb hc ct => ?_⟩
    · rw [lp_X12_findLeast_67, h.1, if_neg (fun q => absurd ((nIle (by omega) (by omega)).mp q) (by omega)), a1]
      simp only [Option.bind_some, xm_let]
      rw [← nI_succ, b1]
      simp only [Option.bind_some]
      exact p1
    · by_cases e : i' = i
      · subst e
        rw [ha] at ha'
        cases ha'
        exact p2.2.2.2 v (b2.2.2.2 v (a3 v ct))
      · exact p3 i' a v (by omega) ha' ct
    · by_cases e : i' = i
      · subst e
        rw [ha] at ha'
        cases ha'
        exact p2.2.2.2 v (b3 j' b v (by omega) hb ct)
      · exact p4 i' j' a b v (by omega) h2 ha' hb ct
    · by_cases e : i' = i
      · subst e
        rw [ha] at ha'
        cases ha'
        exact p2.2.2.2 v (b4 j' k' b c v (by omega) h3 hb hc ct)
      · exact p5 i' j' k' a b c v (by omega) h2 h3 ha' hb hc ct
/-- bounded below by v -/
def lb_ (L : List V4_) (W : V4_) (v : Int) : Prop := ∀ q, KK_ L q → 0 ≤ dp_ (W.1, W.2.1, W.2.2.1, -v) q
theorem dpWv (W q : V4_) (v : Int) (h : W.2.2.2 = 0) : dp_ (W.1, W.2.1, W.2.2.1, -v) q = dp_ W q - v * q.2.2.2 := by
  unfold dp_; simp only; rw [h]; grind
theorem ev_least {m : Nat} (hm : 50 ≤ m) {u : xm_Y} {L : List V4_} (h : sq_ u L) (hbl : ∀ p, p ∈ L → bl_ p) {W : V4_} (hW : wt_ u W) (wb : wb_ W) (ne : ¬ Emp_ L) : ∃ (u' : xm_Y) (o : Option (Int × Int)), fn_X12_findLeast m u = some ((), u') ∧ lf3_ u u' ∧ lst_ u' o ∧ ∀ v, ge_ o v ↔ lb_ L W v := by
  obtain ⟨w1, w2, w3⟩ := id hW
  have ne' : ∃ q : V4_, 0 < q.2.2.2 ∧ ∀ g, g ∈ L → 0 ≤ dp_ g q := by
    apply Classical.byContradiction
    intro no
    exact ne (fun q hq q4 => no ⟨q, q4, hq⟩)
  have zz : ∀ {y : Int}, nb_ 7000 y → (Int64.ofInt y = 0 ↔ y = 0) := fun hy => i64z (nb_w hy (by decide))
  have flag : ∃ r : Int32, (if u.2 181 (Int32.toNatClampNeg 0) = 0 then xm_chk (xm_in (1 : Int32) 3) (if u.2 181 (Int32.toNatClampNeg 1) = 0 then xm_chk (xm_in (2 : Int32) 3) (if u.2 181 (Int32.toNatClampNeg 2) = 0 then some (1 : Int32) else some 0) else some 0) else some 0) = some r ∧ ((r = 1 ∧ z3_ W) ∨ (r = 0 ∧ ¬ z3_ W)) := by
    rw [show u.2 181 (Int32.toNatClampNeg 0) = _ from w1, show u.2 181 (Int32.toNatClampNeg 1) = _ from w2, show u.2 181 (Int32.toNatClampNeg 2) = _ from w3, ck_t (by decide), ck_t (by decide)]
    by_cases q1 : W.1 = 0
    · rw [if_pos ((zz wb.1).mpr q1)]
      by_cases q2 : W.2.1 = 0
      · rw [if_pos ((zz wb.2.1).mpr q2)]
        by_cases q3 : W.2.2.1 = 0
        · rw [if_pos ((zz wb.2.2.1).mpr q3)]
          exact ⟨1, rfl, Or.inl ⟨rfl, q1, q2, q3⟩⟩
        · rw [if_neg (fun t => q3 ((zz wb.2.2.1).mp t))]
          exact ⟨0, rfl, Or.inr ⟨rfl, fun t => q3 t.2.2⟩⟩
      · rw [if_neg (fun t => q2 ((zz wb.2.1).mp t))]
        exact ⟨0, rfl, Or.inr ⟨rfl, fun t => q2 t.2.1⟩⟩
    · rw [if_neg (fun t => q1 ((zz wb.1).mp t))]
      exact ⟨0, rfl, Or.inr ⟨rfl, fun t => q1 t.1⟩⟩
  obtain ⟨r, r1, r2⟩ := flag
  rw [fn_X12_findLeast, ck_t (by decide), r1]
  simp only [Option.bind_some]
  have fr : ∀ r : Int32, lf3_ u (w_J (w_J (w_J (w_I u 150 16 r) 150 13 0) 150 14 0) 150 15 1) := fun r => ⟨fun q hq => (show (w_I u 150 16 r).1 q = _ from rI_nc hq), fun e he => (show (w_I u 150 16 r).1 150 e = _ from rI_ne (by omega)), fun q hq => by rw [rJ_nc hq, rJ_nc hq, rJ_nc hq]; rfl⟩
  have r16 : ∀ r : Int32, (w_J (w_J (w_J (w_I u 150 16 r) 150 13 0) 150 14 0) 150 15 1).1 150 16 = r := fun r => (show (w_I u 150 16 r).1 150 16 = r from rI_eq)
  rcases r2 with ⟨rfl, wz⟩ | ⟨rfl, wz⟩
  · rw [ck_t (by decide)]
    simp only [xm_let]
    rw [r16, if_neg (by decide)]
    refine ⟨_, some (0, 1), rfl, fr 1, ⟨r16 1, ?_, ?_, ?_, by unfold nb_; decide, by decide, by unfold nb_; decide⟩, fun v => ?_⟩
    · rw [rJ_ne (by decide), rJ_ne (by decide), rJ_eq]; rfl
    · rw [rJ_ne (by decide), rJ_eq]; rfl
    · rw [rJ_eq]; rfl
    · have dz : ∀ q, dp_ W q = 0 := fun q => by unfold dp_; rw [wz.1, wz.2.1, wz.2.2, wb.2.2.2]; omega
      constructor
      · intro hv q hq
        have hv : v * 1 ≤ 0 := hv
        rw [dpWv W q v wb.2.2.2, dz]
        have := Int.mul_nonneg (show 0 ≤ -v by omega) hq.2
        have e : -v * q.2.2.2 = -(v * q.2.2.2) := by grind
        omega
      · intro hl
        obtain ⟨q, q4, hq⟩ := ne'
        have := hl q ⟨hq, Int.le_of_lt q4⟩
        rw [dpWv W q v wb.2.2.2, dz] at this
        show v * 1 ≤ 0
        apply Classical.byContradiction
        intro no
        have := Int.mul_pos (show 0 < v by omega) q4
        omega
  · rw [ck_t (by decide)]
    simp only [xm_let]
    rw [r16, if_pos rfl]
    have l12 := h.2.1
    obtain ⟨l, u', o', p1, p2, p3, p4, p5⟩ := l1_lp (m := m) (by omega) hbl wb L.length 0 m (w_J (w_J (w_J (w_I u 150 16 0) 150 13 0) 150 14 0) 150 15 1) none (by omega) (by omega) (sq_l h (fr 0)) (wt_l hW (fr 0)) (r16 0) trivial
    rw [show lp_X12_findLeast_67 m m (0 : Int32) _ = _ from p1]
    refine ⟨u', o', rfl, (fr 0).tr p2.1, p2.2.1, fun v => ⟨fun hv q hq => ?_, fun hl => ?_⟩⟩
    · cases o' with
      | none => exact hv.elim
      | some p =>
        have hv : v * p.2 ≤ p.1 := hv
        have sq := p2.2.2.1 q hq
        have p0 := p2.2.1.2.2.2.2.2.1
        rw [dpWv W q v wb.2.2.2]
        have m1 := Int.mul_le_mul_of_nonneg_right hv hq.2
        have : p.2 * (v * q.2.2.2) ≤ p.2 * dp_ W q := by grind
        have := Int.le_of_mul_le_mul_left this p0
        omega
    · have gs : ∀ i, i < L.length → L[i]? = some (gf_ L i) := fun i hi => by
        have : L[i]? = some L[i] := List.getElem?_eq_getElem hi
        rw [this, gf_s this]
      have ofi : ∀ (q : V4_), (∀ i, i < L.length → 0 ≤ dp_ (gf_ L i) q) → ∀ g, g ∈ L → 0 ≤ dp_ g q := fun q hq g hg => by
        obtain ⟨i, hi⟩ := List.getElem?_of_mem hg
        have := hq i (lt_of hi)
        rw [gf_s hi] at this; exact this
      obtain ⟨q0, q1, q2⟩ := ne'
      obtain ⟨μ, pm, alt⟩ := offered_ (n := L.length) (g := gf_ L) (w1 := W.1) (w2 := W.2.1) (w3 := W.2.2.1) (v := v) ⟨q0, q1, fun i hi => q2 _ (List.mem_of_getElem? (gs i hi))⟩ (fun x hx x4 => hl x ⟨ofi x hx, x4⟩)
      rcases alt with ⟨e1, e2, e3, -⟩ | ⟨i, α, h1, h2, h3, h4, h5, h6, h7⟩ | ⟨i, j, α, β, h1, h2, h3, h4, h5, h6, h7, h8, h9⟩ | ⟨i, j, k, α, β, γ, h1, h2, h3, h4, h5, h6, h7, h8, h9, h10, h11⟩
      · exact absurd ⟨e1, e2, e3⟩ wz
      · exact p3 i _ v (by omega) (gs i h1) ⟨μ, α, pm, h2, h3, h4, h5, h6, h7⟩
      · exact p4 i j _ _ v (by omega) h1 (gs i (by omega)) (gs j h2) ⟨μ, α, β, pm, h3, h4, h5, h6, h7, h8, h9⟩
      · exact p5 i j k _ _ _ v (by omega) h1 h2 (gs i (by omega)) (gs j (by omega)) (gs k h3) ⟨μ, α, β, γ, pm, h4, h5, h6, h7, h8, h9, h10, h11⟩
