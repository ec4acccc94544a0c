/-! dividing downward; offers -/
theorem xor_s {x y : Int} (hx : nb_ 1000000000000000000 x) (hy : nb_ 1000000000000000000 y) (h0 : 0 < y) : (0 : Int64) ≤ Int64.ofInt x ^^^ Int64.ofInt y ↔ 0 ≤ x := by
  have mx : (Int64.ofInt x).toBitVec.msb = decide (x < 0) := by
    rw [BitVec.msb_eq_toInt]
    show decide ((Int64.ofInt x).toInt < 0) = _
    rw [i64t hx]
  have my : (Int64.ofInt y).toBitVec.msb = decide (y < 0) := by
    rw [BitVec.msb_eq_toInt]
    show decide ((Int64.ofInt y).toInt < 0) = _
    rw [i64t hy]
  have mz : (Int64.ofInt x ^^^ Int64.ofInt y).toBitVec.msb = decide ((Int64.ofInt x ^^^ Int64.ofInt y).toInt < 0) := by
    rw [BitVec.msb_eq_toInt]; rfl
  rw [Int64.toBitVec_xor, BitVec.msb_xor, mx, my, decide_eq_false (show ¬ y < 0 by omega), Bool.xor_false] at mz
  rw [decide_eq_decide] at mz
  rw [Int64.le_iff_toInt_le]
  have z : (0 : Int64).toInt = 0 := rfl
  rw [z]
  omega
theorem ediv_neg {x y : Int} (hy : 0 < y) : (x % y = 0 → x / y = -(-x / y) ∧ (-x) % y = 0) ∧ (x % y ≠ 0 → x / y = -(-x / y) - 1 ∧ (-x) % y ≠ 0) := by
  have e1 := Int.mul_ediv_add_emod x y
  have e2 := Int.mul_ediv_add_emod (-x) y
  have a1 := Int.emod_nonneg x (show y ≠ 0 by omega)
  have a2 := Int.emod_lt_of_pos x hy
  have b1 := Int.emod_nonneg (-x) (show y ≠ 0 by omega)
  have b2 := Int.emod_lt_of_pos (-x) hy
  have s : y * (x / y + -x / y) = -(x % y + -x % y) := by rw [Int.mul_add]; omega
  generalize x / y = A at *
  generalize -x / y = B at *
  generalize x % y = r at *
  generalize -x % y = t at *
  have up : A + B ≤ 0 := by
    apply Classical.byContradiction
    intro no
    have := Int.mul_le_mul_of_nonneg_left (show 1 ≤ A + B by omega) (Int.le_of_lt hy)
    omega
  have lo : -1 ≤ A + B := by
    apply Classical.byContradiction
    intro no
    have := Int.mul_le_mul_of_nonneg_left (show A + B ≤ -2 by omega) (Int.le_of_lt hy)
    omega
  have : A + B = 0 ∨ A + B = -1 := by omega
  rcases this with q | q
  · rw [q] at s
    constructor
    · intro h; omega
    · intro h; omega
  · rw [q] at s
    constructor
    · intro h; omega
    · intro h; omega
theorem tdv {x y : Int} (hy : 0 < y) : (0 ≤ x → x.tdiv y = x / y) ∧ (x < 0 → x.tdiv y = -(-x / y)) := by
  refine ⟨fun h => Int.tdiv_eq_ediv_of_nonneg h, fun h => ?_⟩
  have := Int.neg_tdiv (-x) y
  rw [Int.neg_neg, Int.tdiv_eq_ediv_of_nonneg (show 0 ≤ -x by omega)] at this
  exact this
theorem div_nb {x y : Int} {A : Nat} (hx : nb_ A x) (hy : 0 < y) : nb_ A (x / y) ∧ nb_ A (-x / y) := by
  unfold nb_ at *
  have e : ∀ z : Int, z.natAbs ≤ A → (z / y).natAbs ≤ A := fun z hz => by
    have e1 := Int.mul_ediv_add_emod z y
    have a1 := Int.emod_nonneg z (show y ≠ 0 by omega)
    have a2 := Int.emod_lt_of_pos z hy
    by_cases q : 0 ≤ z / y
    · have := Int.mul_le_mul_of_nonneg_right (show 1 ≤ y by omega) q
      omega
    · have := Int.mul_le_mul_of_nonneg_right (show 1 ≤ y by omega) (show 0 ≤ -(z / y) - 1 by omega)
      have e3 : y * (-(z / y) - 1) = -(y * (z / y)) - y := by grind
      omega
  exact ⟨e x hx, e (-x) (by omega)⟩
theorem ev_fdiv {m : Nat} {x y : Int} (hx : nb_ 1000000000000000000 x) (hy : nb_ 1000000000000000000 y) (h0 : 0 < y) (u : xm_Y) : fn_J9_floorDiv_f86c9 m (Int64.ofInt x) (Int64.ofInt y) u = some (Int64.ofInt (x / y), u) ∧ fn_J9_floorMod_f86c9 m (Int64.ofInt x) (Int64.ofInt y) u = some (Int64.ofInt (x % y), u) := by
  have nz : ¬ Int64.ofInt y = 0 := fun q => by have := (i64z hy).mp q; omega
  obtain ⟨d1, d2⟩ := div_nb hx h0
  have dv : Int64.ofInt x / Int64.ofInt y = Int64.ofInt (x.tdiv y) := by
    have tb : nb_ 1000000000000000000 (x.tdiv y) := by
      by_cases q : 0 ≤ x
      · rw [(tdv h0).1 q]; exact d1
      · rw [(tdv h0).2 (by omega)]; exact nb_n d2
    apply Int64.toInt_inj.mp
    rw [Int64.toInt_div, i64t hx, i64t hy, i64t tb]
    unfold nb_ at tb
    exact bm64 (by omega) (by omega)
  have e1 := Int.mul_ediv_add_emod x y
  have e2 := Int.mul_ediv_add_emod (-x) y
  have a1 := Int.emod_nonneg x (show y ≠ 0 by omega)
  have a2 := Int.emod_lt_of_pos x h0
  rw [fn_J9_floorDiv_f86c9, fn_J9_floorMod_f86c9, ck_t nz, ck_t nz, dv]
  simp only [xm_let]
  rw [om, os]
  by_cases q : 0 ≤ x
  · rw [if_pos ((xor_s hx hy h0).mpr q), if_pos ((xor_s hx hy h0).mpr q), (tdv h0).1 q]
    refine ⟨rfl, ?_⟩
    rw [show x - x / y * y = x % y by rw [Int.mul_comm]; omega]
  · rw [if_neg (fun z => q ((xor_s hx hy h0).mp z)), if_neg (fun z => q ((xor_s hx hy h0).mp z)), (tdv h0).2 (by omega)]
    have rb : nb_ 1000000000000000000 (x - -(-x / y) * y) := by
      have : x - -(-x / y) * y = -((-x) % y) := by
        have : -(-x / y) * y = -(y * (-x / y)) := by grind
        omega
      rw [this]
      have b1 := Int.emod_nonneg (-x) (show y ≠ 0 by omega)
      have b2 := Int.emod_lt_of_pos (-x) h0
      unfold nb_ at *
      omega
    have mb : nb_ 1000000000000000000 (-(-x / y) * y) := by
      have : -(-x / y) * y = x + (-x) % y := by
        have : -(-x / y) * y = -(y * (-x / y)) := by grind
        omega
      rw [this]
      have b1 := Int.emod_nonneg (-x) (show y ≠ 0 by omega)
      have b2 := Int.emod_lt_of_pos (-x) h0
      have b3 : (-x) % y ≤ -x := by
        have d0 := Int.ediv_nonneg (show 0 ≤ -x by omega) (Int.le_of_lt h0)
        have d1 := Int.mul_nonneg (Int.le_of_lt h0) d0
        omega
      unfold nb_ at *
      omega
    have er : -(-x / y) * y = -(y * (-x / y)) := by grind
    by_cases r0 : x % y = 0
    · obtain ⟨k1, k2⟩ := (ediv_neg h0).1 r0
      have z1 : -(-x / y) * y = x := by omega
      rw [if_pos ((i64i mb hx).mpr z1), if_pos ((i64z rb).mpr (by omega))]
      refine ⟨by rw [k1], ?_⟩
      rw [z1, r0, Int.sub_self]
    · obtain ⟨k1, k2⟩ := (ediv_neg h0).2 r0
      have b1 := Int.emod_nonneg (-x) (show y ≠ 0 by omega)
      have b2 := Int.emod_lt_of_pos (-x) h0
      rw [if_neg (fun z => by have := (i64i mb hx).mp z; omega), if_neg (fun z => by have := (i64z rb).mp z; omega)]
      refine ⟨?_, ?_⟩
      · rw [show Int64.ofInt (-(-x / y)) - 1 = Int64.ofInt (-(-x / y) - 1) from os _ 1, k1]
      · rw [oa]
        have e6 : x - -(-x / y) * y + y = x % y := by
          clear mb rb dv d1 d2
          generalize -x / y = B at *
          generalize x / y = A at *
          generalize x % y = r at *
          subst k1
          have e5 : y * (-B - 1) = -(y * B) - y := by grind
          have e7 : -B * y = -(y * B) := by grind
          omega
        rw [e6]
theorem ev_above {m : Nat} {a l y v k o : Int} (h1 : nb_ 1000000000000 a) (h2 : nb_ 1000000000000 l) (h3 : nb_ 48000 y) (h4 : nb_ 1000000000000 v) (h5 : nb_ 1000000000000 k) (h6 : nb_ 48000 o) (u : xm_Y) : fn_X12_isAbove m (Int64.ofInt a) (Int64.ofInt l) (Int64.ofInt y) (Int64.ofInt v) (Int64.ofInt k) (Int64.ofInt o) u = some (if 0 < (a * o - v * y) * 1000000 + (l * o - k * y) then 1 else 0, u) := by
  have b1 : nb_ 96000000000000000 (a * o - v * y) := nb_s (nb_m h1 h6) (nb_m h4 h3)
  have b2 : nb_ 96000000000000000 (l * o - k * y) := nb_s (nb_m h2 h6) (nb_m h5 h3)
  have P6 : nb_ 1000000000000000000 (1000000 : Int) := by unfold nb_; decide
  obtain ⟨f1, f2⟩ := ev_fdiv (m := m) (x := l * o - k * y) (y := 1000000) (nb_w b2 (by decide)) P6 (by decide) u
  obtain ⟨d1, -⟩ := div_nb (y := 1000000) b2 (by decide)
  have e := Int.mul_ediv_add_emod (l * o - k * y) 1000000
  have r1 := Int.emod_nonneg (l * o - k * y) (show (1000000 : Int) ≠ 0 by decide)
  have r2 := Int.emod_lt_of_pos (l * o - k * y) (show (0 : Int) < 1000000 by decide)
  have sb : nb_ 1000000000000000000 (a * o - v * y + (l * o - k * y) / 1000000) := nb_w (nb_a b1 d1) (by decide)
  have mb : nb_ 1000000000000000000 ((l * o - k * y) % 1000000) := by unfold nb_; omega
  rw [fn_X12_isAbove]
  simp only [xm_let]
  rw [om, om, om, om, os, os, show (1000000 : Int64) = Int64.ofInt 1000000 from rfl, f1]
  simp only [Option.bind_some]
  rw [f2]
  simp only [Option.bind_some]
  rw [oa]
  have n0 : nb_ 1000000000000000000 (0 : Int) := by unfold nb_; decide
  generalize a * o - v * y = H at *
  generalize l * o - k * y = M at *
  by_cases q : 0 < H + M / 1000000
  · rw [if_pos (show (0 : Int64) < Int64.ofInt (H + M / 1000000) from (i64lt (a := 0) n0 sb).mpr q), if_pos (by omega)]; rfl
  · rw [if_neg (show ¬ (0 : Int64) < Int64.ofInt (H + M / 1000000) from fun z => q ((i64lt (a := 0) n0 sb).mp z))]
    by_cases z : H + M / 1000000 = 0
    · rw [if_pos (show Int64.ofInt (H + M / 1000000) = 0 from (i64z sb).mpr z)]
      by_cases p : M % 1000000 ≤ 0
      · rw [if_pos (show Int64.ofInt (M % 1000000) ≤ 0 from (i64le (b := 0) mb n0).mpr p), if_neg (by omega)]; rfl
      · rw [if_neg (show ¬ Int64.ofInt (M % 1000000) ≤ 0 from fun w => p ((i64le (b := 0) mb n0).mp w)), if_pos (by omega)]; rfl
    · rw [if_neg (show ¬ Int64.ofInt (H + M / 1000000) = 0 from fun w => z ((i64z sb).mp w)), if_neg (by omega)]; rfl
/-- the least so far: over, under -/
def lst_ (u : xm_Y) : Option (Int × Int) → Prop
  | none => u.1 150 16 = 0
  | some p => u.1 150 16 = 1 ∧ u.2 150 13 = Int64.ofInt (p.1 / 1000000) ∧ u.2 150 14 = Int64.ofInt (p.1 % 1000000) ∧ u.2 150 15 = Int64.ofInt p.2 ∧ nb_ 100000000000000000 p.1 ∧ 0 < p.2 ∧ nb_ 48000 p.2
def nl_ (o : Option (Int × Int)) (N D : Int) : Option (Int × Int) := match o with
  | none => some (N, D)
  | some p => if p.1 * D < N * p.2 then some (N, D) else some p
def of_ok (A B C S : Int) : Prop := 0 ≤ A * S ∧ 0 ≤ B * S ∧ 0 ≤ C * S
/-- only the least -/
def lf3_ (c u : xm_Y) : Prop := (∀ q, q ≠ 150 → u.1 q = c.1 q) ∧ (∀ e, e ≠ 16 → u.1 150 e = c.1 150 e) ∧ (∀ q, q ≠ 150 → u.2 q = c.2 q)
theorem lf3_.rf (c : xm_Y) : lf3_ c c := ⟨fun _ _ => rfl, fun _ _ => rfl, fun _ _ => rfl⟩
theorem lf3_.tr {a b c : xm_Y} (h : lf3_ a b) (g : lf3_ b c) : lf3_ a c := ⟨fun q hq => (g.1 q hq).trans (h.1 q hq), fun e he => (g.2.1 e he).trans (h.2.1 e he), fun q hq => (g.2.2 q hq).trans (h.2.2 q hq)⟩
theorem lst_w {u : xm_Y} {N D : Int} (hN : nb_ 100000000000000000 N) (h0 : 0 < D) (hD : nb_ 48000 D) : lst_ (w_J (w_J (w_J (w_I u 150 16 1) 150 13 (Int64.ofInt (N / 1000000))) 150 14 (Int64.ofInt (N % 1000000))) 150 15 (Int64.ofInt D)) (some (N, D)) ∧ lf3_ u (w_J (w_J (w_J (w_I u 150 16 1) 150 13 (Int64.ofInt (N / 1000000))) 150 14 (Int64.ofInt (N % 1000000))) 150 15 (Int64.ofInt D)) := by
  refine ⟨⟨(show (w_I u 150 16 1).1 150 16 = 1 from rI_eq), ?_, ?_, ?_, hN, h0, hD⟩, fun q hq => (show (w_I u 150 16 1).1 q = _ from rI_nc hq), fun e he => (show (w_I u 150 16 1).1 150 e = _ from rI_ne (by omega)), fun q hq => ?_⟩
  · rw [rJ_ne (by omega), rJ_ne (by omega), rJ_eq]
  · rw [rJ_ne (by omega), rJ_eq]
  · rw [rJ_eq]
  · rw [rJ_nc hq, rJ_nc hq, rJ_nc hq]; rfl
theorem ev_offer {m : Nat} (hm : 10 ≤ m) {u : xm_Y} {L : List V4_} (h : sq_ u L) {i j k : Nat} {a b c : V4_} (ha : L[i]? = some a) (hb : L[j]? = some b) (hc : L[k]? = some c) (la : bl_ a) (lb : bl_ b) (lc : bl_ c) {A B C Y : Int} (nA : nb_ 20000000 A) (nB : nb_ 20000000 B) (nC : nb_ 20000000 C) (nY : nb_ 48000 Y) (hY : Y ≠ 0) {o : Option (Int × Int)} (ho : lst_ u o) {S : Int} (hS : S = if 0 ≤ Y then 1 else -1) : ∃ u', fn_X12_offer m (Int64.ofInt A) (Int64.ofInt B) (Int64.ofInt C) (Int64.ofInt Y) (nI i) (nI j) (nI k) u = some ((), u') ∧ lf3_ u u' ∧ ((of_ok A B C S ∧ lst_ u' (nl_ o (S * A * -a.2.2.2 + S * B * -b.2.2.2 + S * C * -c.2.2.2) (S * Y))) ∨ (¬ of_ok A B C S ∧ u' = u)) := by
  have il := lt_of ha
  have jl := lt_of hb
  have kl := lt_of hc
  have l12 := h.2.1
  have S1 : S = 1 ∨ S = -1 := by rw [hS]; split <;> omega
  have nS : nb_ 1 S := by unfold nb_; rcases S1 with rfl | rfl <;> decide
  have D0 : 0 < S * Y := by
    rw [hS]
    split <;> omega
  have nD : nb_ 48000 (S * Y) := by have := nb_m nS nY; rw [Nat.one_mul] at this; exact this
  have n0 : nb_ 1000000000000000000 (0 : Int) := by unfold nb_; decide
  have sg : ((if (0 : Int64) ≤ Int64.ofInt Y then some (1 : Int64) else some (-1 : Int64)) : Option Int64) = some (Int64.ofInt S) := by
    rw [hS]
    by_cases q : 0 ≤ Y
    · rw [if_pos (show (0 : Int64) ≤ Int64.ofInt Y from (i64le (a := 0) n0 (nb_w nY (by decide))).mpr q), if_pos q]; rfl
    · rw [if_neg (show ¬ (0 : Int64) ≤ Int64.ofInt Y from fun z => q ((i64le (a := 0) n0 (nb_w nY (by decide))).mp z)), if_neg q]; rfl
  have nb1 : ∀ {X : Int}, nb_ 20000000 X → nb_ 1000000000000000000 (X * S) := fun hX => nb_w (nb_m hX nS) (by decide)
  have lt0 : ∀ {X : Int}, nb_ 20000000 X → (Int64.ofInt (X * S) < 0 ↔ X * S < 0) := fun hX => i64lt (b := 0) (nb1 hX) n0
  rw [fn_X12_offer, sg]
  simp only [Option.bind_some]
  rw [om, om, om]
  by_cases qA : A * S < 0
  · rw [if_pos ((lt0 nA).mpr qA)]
    exact ⟨u, rfl, lf3_.rf u, Or.inr ⟨fun z => by have := z.1; omega, rfl⟩⟩
  rw [if_neg (fun z => qA ((lt0 nA).mp z))]
  by_cases qB : B * S < 0
  · rw [if_pos ((lt0 nB).mpr qB)]
    exact ⟨u, rfl, lf3_.rf u, Or.inr ⟨fun z => by have := z.2.1; omega, rfl⟩⟩
  rw [if_neg (fun z => qB ((lt0 nB).mp z))]
  by_cases qC : 0 ≤ C * S
  · rw [if_pos (show (0 : Int64) ≤ Int64.ofInt (C * S) from (i64le (a := 0) n0 (nb1 nC)).mpr qC)]
    obtain ⟨-, -, -, a4⟩ := h.2.2 i a ha
    obtain ⟨-, -, -, b4⟩ := h.2.2 j b hb
    obtain ⟨-, -, -, c4⟩ := h.2.2 k c hc
    have e3 : ∀ k, (4 : Int32) * nI k + 3 = nI (4 * k + 3) := fun k => by rw [show (4 : Int32) = nI 4 from rfl, nI_mu]; exact nI_ad _ 3
    have P6 : nb_ 1000000000000000000 (1000000 : Int) := by unfold nb_; decide
    have fd : ∀ {y : Int}, nb_ 1000000000 y → ∀ v : xm_Y, fn_J9_floorDiv_f86c9 m (Int64.ofInt y) 1000000 v = some (Int64.ofInt (y / 1000000), v) ∧ fn_J9_floorMod_f86c9 m (Int64.ofInt y) 1000000 v = some (Int64.ofInt (y % 1000000), v) := fun hy v => ev_fdiv (y := 1000000) (nb_w hy (by decide)) P6 (by decide) v
    have loop : lp_X12_offer_54 m (Int64.ofInt A) (Int64.ofInt B) (Int64.ofInt C) (nI i) (nI j) (nI k) (Int64.ofInt S) m 0 0 0 u = some (Int64.ofInt (S * A * (-a.2.2.2 / 1000000) + S * B * (-b.2.2.2 / 1000000) + S * C * (-c.2.2.2 / 1000000)), Int64.ofInt (S * A * (-a.2.2.2 % 1000000) + S * B * (-b.2.2.2 % 1000000) + S * C * (-c.2.2.2 % 1000000)), 3, u) := by
      obtain ⟨g, hg⟩ : ∃ g, m = g + 4 := ⟨m - 4, by omega⟩
      subst hg
      rw [lp_X12_offer_54, if_neg (by decide), if_pos rfl]
      simp only [Option.bind_some, xm_let]
      rw [if_pos trivial]
      simp only [Option.bind_some]
      rw [e3, ck_t (nI_xi (by omega) (by omega)), nI_cl (show 4 * i + 3 < 2 ^ 31 by omega), a4, (fd (nb_n la.2.2.2) u).1]
      simp only [Option.bind_some]
      rw [(fd (nb_n la.2.2.2) u).2]
      simp only [Option.bind_some]
      rw [lp_X12_offer_54, if_neg (by decide), if_neg (by decide), if_pos (by decide)]
      simp only [Option.bind_some, xm_let]
      rw [if_neg (by decide), if_pos (by decide)]
      simp only [Option.bind_some]
      rw [e3, ck_t (nI_xi (by omega) (by omega)), nI_cl (show 4 * j + 3 < 2 ^ 31 by omega), b4, (fd (nb_n lb.2.2.2) u).1]
      simp only [Option.bind_some]
      rw [(fd (nb_n lb.2.2.2) u).2]
      simp only [Option.bind_some]
      rw [lp_X12_offer_54, if_neg (by decide), if_neg (by decide), if_neg (by decide)]
      simp only [Option.bind_some, xm_let]
      rw [if_neg (by decide), if_neg (by decide)]
      simp only [Option.bind_some]
      rw [e3, ck_t (nI_xi (by omega) (by omega)), nI_cl (show 4 * k + 3 < 2 ^ 31 by omega), c4, (fd (nb_n lc.2.2.2) u).1]
      simp only [Option.bind_some]
      rw [(fd (nb_n lc.2.2.2) u).2]
      simp only [Option.bind_some]
      rw [lp_X12_offer_54, if_pos (by decide)]
      rw [show (0 : Int64) = Int64.ofInt 0 from rfl, om, om, om, om, om, om, om, om, om, oa, oa, oa, oa, oa, oa, Int.zero_add, Int.zero_add]
      rfl
    rw [show lp_X12_offer_54 m (Int64.ofInt A) (Int64.ofInt B) (Int64.ofInt C) (nI i) (nI j) (nI k) (Int64.ofInt S) m (0 : Int64) (0 : Int64) (0 : Int32) u = _ from loop]
    simp only [Option.bind_some]
    have mA : nb_ 20000000 (S * A) := by have := nb_m nS nA; rw [Nat.one_mul] at this; exact this
    have mB : nb_ 20000000 (S * B) := by have := nb_m nS nB; rw [Nat.one_mul] at this; exact this
    have mC : nb_ 20000000 (S * C) := by have := nb_m nS nC; rw [Nat.one_mul] at this; exact this
    have rm : ∀ y : Int, nb_ 1000000 (y % 1000000) ∧ 1000000 * (y / 1000000) + y % 1000000 = y := fun y => ⟨by
      have r1 := Int.emod_nonneg y (show (1000000 : Int) ≠ 0 by decide)
      have r2 := Int.emod_lt_of_pos y (show (0 : Int) < 1000000 by decide)
      unfold nb_; omega, Int.mul_ediv_add_emod y 1000000⟩
    have mb : nb_ 60000000000000 (S * A * (-a.2.2.2 % 1000000) + S * B * (-b.2.2.2 % 1000000) + S * C * (-c.2.2.2 % 1000000)) := nb_a (nb_a (nb_m mA (rm _).1) (nb_m mB (rm _).1)) (nb_m mC (rm _).1)
    obtain ⟨F1, F2⟩ := ev_fdiv (m := m) (y := 1000000) (nb_w mb (by decide)) P6 (by decide) u
    rw [show (1000000 : Int64) = Int64.ofInt 1000000 from rfl, F1]
    simp only [Option.bind_some, xm_let]
    rw [F2]
    simp only [Option.bind_some]
    have nN : nb_ 60000000000000000 (S * A * -a.2.2.2 + S * B * -b.2.2.2 + S * C * -c.2.2.2) := nb_a (nb_a (nb_m mA (nb_n la.2.2.2)) (nb_m mB (nb_n lb.2.2.2))) (nb_m mC (nb_n lc.2.2.2))
    have eN : S * A * -a.2.2.2 + S * B * -b.2.2.2 + S * C * -c.2.2.2 = 1000000 * (S * A * (-a.2.2.2 / 1000000) + S * B * (-b.2.2.2 / 1000000) + S * C * (-c.2.2.2 / 1000000)) + (S * A * (-a.2.2.2 % 1000000) + S * B * (-b.2.2.2 % 1000000) + S * C * (-c.2.2.2 % 1000000)) := by
      have x1 := (rm (-a.2.2.2)).2
      have x2 := (rm (-b.2.2.2)).2
      have x3 := (rm (-c.2.2.2)).2
      generalize -a.2.2.2 / 1000000 = p1 at *
      generalize -a.2.2.2 % 1000000 = p2 at *
      generalize -b.2.2.2 / 1000000 = q1 at *
      generalize -b.2.2.2 % 1000000 = q2 at *
      generalize -c.2.2.2 / 1000000 = r1 at *
      generalize -c.2.2.2 % 1000000 = r2 at *
      rw [← x1, ← x2, ← x3]
      grind
    generalize S * A * (-a.2.2.2 / 1000000) + S * B * (-b.2.2.2 / 1000000) + S * C * (-c.2.2.2 / 1000000) = H at *
    generalize S * A * (-a.2.2.2 % 1000000) + S * B * (-b.2.2.2 % 1000000) + S * C * (-c.2.2.2 % 1000000) = M at *
    generalize S * A * -a.2.2.2 + S * B * -b.2.2.2 + S * C * -c.2.2.2 = N at *
    have hi : H + M / 1000000 = N / 1000000 := by omega
    have lo : M % 1000000 = N % 1000000 := by omega
    rw [oa, om, hi, lo]
    have ok : of_ok A B C S := ⟨by omega, by omega, qC⟩
    have nN' : nb_ 100000000000000000 N := nb_w nN (by decide)
    cases o with
    | none =>
      have ho : u.1 150 16 = 0 := ho
      rw [if_pos ho]
      obtain ⟨w1, w2⟩ := lst_w (u := u) nN' D0 nD
      exact ⟨_, rfl, w2, Or.inl ⟨ok, w1⟩⟩
    | some p =>
      obtain ⟨o1, o2, o3, o4, o5, o6, o7⟩ := id ho
      rw [if_neg (show ¬ u.1 150 16 = 0 by rw [o1]; decide), o2, o3, o4]
      have dN : nb_ 1000000000000 (N / 1000000) := by unfold nb_ at *; omega
      have dp : nb_ 1000000000000 (p.1 / 1000000) := by unfold nb_ at *; omega
      have rN : nb_ 1000000000000 (N % 1000000) := nb_w (rm N).1 (by decide)
      have rp : nb_ 1000000000000 (p.1 % 1000000) := nb_w (rm p.1).1 (by decide)
      rw [ev_above dN rN nD dp rp o7]
      simp only [Option.bind_some]
      have cmp : 0 < (N / 1000000 * p.2 - p.1 / 1000000 * (S * Y)) * 1000000 + (N % 1000000 * p.2 - p.1 % 1000000 * (S * Y)) ↔ p.1 * (S * Y) < N * p.2 := by
        have x1 := (rm N).2
        have x2 := (rm p.1).2
        have : (N / 1000000 * p.2 - p.1 / 1000000 * (S * Y)) * 1000000 + (N % 1000000 * p.2 - p.1 % 1000000 * (S * Y)) = N * p.2 - p.1 * (S * Y) := by
          generalize N / 1000000 = p1 at *
          generalize N % 1000000 = p2 at *
          generalize p.1 / 1000000 = q1 at *
          generalize p.1 % 1000000 = q2 at *
          rw [← x1, ← x2]
          grind
        omega
      by_cases big : p.1 * (S * Y) < N * p.2
      · rw [if_pos (cmp.mpr big), if_neg (by decide)]
        obtain ⟨w1, w2⟩ := lst_w (u := u) nN' D0 nD
        refine ⟨_, rfl, w2, Or.inl ⟨ok, ?_⟩⟩
        show lst_ _ (if p.1 * (S * Y) < N * p.2 then some (N, S * Y) else some p)
        rw [if_pos big]; exact w1
      · rw [if_neg (fun z => big (cmp.mp z)), if_pos rfl]
        refine ⟨u, rfl, lf3_.rf u, Or.inl ⟨ok, ?_⟩⟩
        show lst_ _ (if p.1 * (S * Y) < N * p.2 then some (N, S * Y) else some p)
        rw [if_neg big]; exact ho
  · rw [if_neg (show ¬ (0 : Int64) ≤ Int64.ofInt (C * S) from fun z => qC ((i64le (a := 0) n0 (nb1 nC)).mp z))]
    exact ⟨u, rfl, lf3_.rf u, Or.inr ⟨fun z => qC z.2.2, rfl⟩⟩
