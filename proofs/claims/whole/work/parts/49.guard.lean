/-! ints within their range -/
theorem bm32 {z : Int} (h1 : -2147483648 ≤ z) (h2 : z < 2147483648) : z.bmod (2 ^ 32) = z := by
  apply Int.bmod_eq_of_le <;> omega
theorem bm64 {z : Int} (h1 : -9223372036854775808 ≤ z) (h2 : z < 9223372036854775808) : z.bmod (2 ^ 64) = z := by
  apply Int.bmod_eq_of_le <;> omega
theorem ad32 {a b : Int32} (h1 : -2147483648 ≤ a.toInt + b.toInt) (h2 : a.toInt + b.toInt < 2147483648) : (a + b).toInt = a.toInt + b.toInt := by
  rw [Int32.toInt_add]; exact bm32 h1 h2
theorem sb32 {a b : Int32} (h1 : -2147483648 ≤ a.toInt - b.toInt) (h2 : a.toInt - b.toInt < 2147483648) : (a - b).toInt = a.toInt - b.toInt := by
  rw [Int32.toInt_sub]; exact bm32 h1 h2
theorem mu32 {a b : Int32} (h1 : -2147483648 ≤ a.toInt * b.toInt) (h2 : a.toInt * b.toInt < 2147483648) : (a * b).toInt = a.toInt * b.toInt := by
  rw [Int32.toInt_mul]; exact bm32 h1 h2
theorem dv32 {a b : Int32} {k : Int} (ha : 0 ≤ a.toInt) (hb : b.toInt = k) (hk : 0 < k) : (a / b).toInt = a.toInt / k := by
  have h1 : a.toInt / k ≤ a.toInt := Int.ediv_le_self k ha
  have h2 : 0 ≤ a.toInt / k := Int.ediv_nonneg ha (by omega)
  have h3 := Int32.toInt_lt a
  rw [Int32.toInt_div, hb, Int.tdiv_eq_ediv_of_nonneg ha]
  exact bm32 (by omega) (by omega)
/-- the rest of a division by 41 -/
theorem rm41 {a : Int32} (ha : 0 ≤ a.toInt) : (a - a / 41 * 41).toInt = a.toInt % 41 := by
  have e1 : (a / 41).toInt = a.toInt / 41 := dv32 ha rfl (by decide)
  have h3 := Int32.toInt_lt a
  have e2 : (a / 41 * 41).toInt = a.toInt / 41 * 41 := by
    rw [mu32 (by rw [e1]; show _ ≤ _ * (41 : Int); omega) (by rw [e1]; show _ * (41 : Int) < _; omega), e1]; rfl
  rw [sb32 (by rw [e2]; omega) (by rw [e2]; omega), e2]
  omega
theorem w20 {a : Int32} (h0 : 0 ≤ a.toInt) (h1 : a.toInt ≤ 40) : -20 ≤ (a - 20).toInt ∧ (a - 20).toInt ≤ 20 := by
  have z : (20 : Int32).toInt = 20 := rfl
  rw [sb32 (by rw [z]; omega) (by rw [z]; omega), z]
  omega
def pu_ (u : xm_Y) (a n : Nat) (x v : Int32) : xm_Y := w_I (w_I (w_I (w_I u (a + 1) 2 (if n ≤ 2 then 0 else (x - x / 41 * 41) - 20)) (a + 1) 1 (if n ≤ 1 then 0 else (x / 41 - x / 41 / 41 * 41) - 20)) (a + 1) 0 ((x / 41 / 41 - x / 41 / 41 / 41 * 41) - 20)) a 1 v
theorem ev_put (k a n : Nat) (h1 : 1 ≤ n) (h3 : n ≤ 3) (x v : Int32) (u : xm_Y) : fn_X0_put (k + 10) a x (nI n) v u = some ((), pu_ u a n x v) := by
  rcases lt3n h1 h3 with rfl | rfl | rfl <;> rfl
def la_z (z : xm_Y) (W A n : Nat) : xm_Y := if n ≤ 1 then w_I (w_I z W (A + 1) 0) W (A + 2) 0 else if n ≤ 2 then w_I z W (A + 2) 0 else z
def la_ (u : xm_Y) (W A n : Nat) (x v : Int32) : xm_Y := la_z (w_I (w_I (w_I (w_I u W A (x / 1681 - 20)) W (A + 1) ((x / 41 - x / 41 / 41 * 41) - 20)) W (A + 2) ((x - x / 41 * 41) - 20)) W (A + 3) v) W A n
theorem nI_pl (A j : Nat) : nI A + nI j = nI (A + j) := nI_ad A j
theorem ev_lay (k W wn A n : Nat) (h1 : 1 ≤ n) (h3 : n ≤ 3) (hW : W ≠ 150) (hA : A + 3 < wn) (hwn : wn < 2 ^ 31) (x v : Int32) (u : xm_Y) (hn : u.1 150 0 = nI n) : fn_X12_lay (k + 10) W wn (nI A) x v u = some ((), la_ u W A n x v) := by
  have i0 : xm_in (nI A) wn := nI_xi (by omega) hwn
  have e1 : nI A + (1 : Int32) = nI (A + 1) := nI_ad A 1
  have e2 : nI A + (2 : Int32) = nI (A + 2) := nI_ad A 2
  have e3 : nI A + (3 : Int32) = nI (A + 3) := nI_ad A 3
  have i1 : xm_in (nI (A + 1)) wn := nI_xi (by omega) hwn
  have i2 : xm_in (nI (A + 2)) wn := nI_xi (by omega) hwn
  have i3 : xm_in (nI (A + 3)) wn := nI_xi (by omega) hwn
  have c0 : (nI A).toNatClampNeg = A := nI_cl (by omega)
  have c1 : (nI (A + 1)).toNatClampNeg = A + 1 := nI_cl (by omega)
  have c2 : (nI (A + 2)).toNatClampNeg = A + 2 := nI_cl (by omega)
  have c3 : (nI (A + 3)).toNatClampNeg = A + 3 := nI_cl (by omega)
  rw [fn_X12_lay]
  simp only [xm_let]
  rw [ck_t (by decide), ck_t i0, ck_t (by decide), ck_t (by decide), e1, ck_t i1, ck_t (by decide), e2, ck_t i2, e3, ck_t i3, c0, c1, c2, c3]
  have hr : (w_I (w_I (w_I (w_I u W A (x / 1681 - 20)) W (A + 1) ((x / 41 - x / 41 / 41 * 41) - 20)) W (A + 2) ((x - x / 41 * 41) - 20)) W (A + 3) v).1 150 0 = nI n := by
    rw [rI_ne (by omega), rI_ne (by omega), rI_ne (by omega), rI_ne (by omega)]; exact hn
  rw [hr]
  unfold la_ la_z
  generalize (w_I (w_I (w_I (w_I u W A (x / 1681 - 20)) W (A + 1) ((x / 41 - x / 41 / 41 * 41) - 20)) W (A + 2) ((x - x / 41 * 41) - 20)) W (A + 3) v) = z
  have st : ∀ (f j : Nat) (y : xm_Y), j < 3 → lp_X12_lay_51 (k + 10) W wn (nI A) (f + 1) (nI j) y = lp_X12_lay_51 (k + 10) W wn (nI A) f (nI (j + 1)) (w_I y W (A + j) 0) := by
    intro f j y hj
    have ij : xm_in (nI (A + j)) wn := nI_xi (by omega) hwn
    rw [lp_X12_lay_51, if_neg (by
      rw [Int32.le_iff_toInt_le, nI_u (by omega)]
      show ¬ (3 : Int) ≤ j
      omega), nI_pl, ck_t ij, nI_cl (by omega)]
    simp only [xm_let]
    rw [nI_succ]
  have en : ∀ (f : Nat) (y : xm_Y), lp_X12_lay_51 (k + 10) W wn (nI A) (f + 1) (nI 3) y = some (nI 3, y) := fun f y => rfl
  rcases lt3n h1 h3 with rfl | rfl | rfl
  · rw [show k + 10 = (k + 7 + 1 + 1) + 1 from rfl, st _ 1 _ (by decide), st _ 2 _ (by decide)]; rfl
  · rw [show k + 10 = (k + 7 + 1 + 1) + 1 from rfl, st _ 2 _ (by decide)]; rfl
  · rfl
theorem row_new {u c : xm_Y} {a W A n : Nat} {x v : Int32} (hn1 : 1 ≤ n) (hn3 : n ≤ 3) (hx0 : 0 ≤ x.toInt) (hx1 : x.toInt < 68921) (hv0 : -1000 ≤ v.toInt) (hv1 : v.toInt ≤ 1000) : iv_row ((pu_ c a n x v).1 (a + 1)) ((pu_ c a n x v).1 a 1) ((la_ u W A n x v).1 W) A n := by
  have q1 : (x / 41).toInt = x.toInt / 41 := dv32 hx0 rfl (by decide)
  have q2 : (x / 41 / 41).toInt = x.toInt / 41 / 41 := by rw [dv32 (by rw [q1]; omega) (k := 41) rfl (by decide), q1]
  have q3 : (x / 1681).toInt = x.toInt / 1681 := dv32 hx0 rfl (by decide)
  have r0 := rm41 hx0
  have r1 := rm41 (a := x / 41) (by rw [q1]; omega)
  have r2 := rm41 (a := x / 41 / 41) (by rw [q2]; omega)
  rw [q1] at r1
  rw [q2] at r2
  have e0 : x / 41 / 41 - x / 41 / 41 / 41 * 41 = x / 1681 := by
    apply Int32.toInt_inj.mp
    rw [r2, q3]
    omega
  have b0 := w20 (a := x - x / 41 * 41) (by rw [r0]; omega) (by rw [r0]; omega)
  have b1 := w20 (a := x / 41 - x / 41 / 41 * 41) (by rw [r1]; omega) (by rw [r1]; omega)
  have b2 := w20 (a := x / 1681) (by rw [q3]; omega) (by rw [q3]; omega)
  have p0 : (pu_ c a n x v).1 (a + 1) 0 = x / 1681 - 20 := by
    unfold pu_
    rw [rI_ne (by omega), rI_eq, e0]
  have p1 : (pu_ c a n x v).1 (a + 1) 1 = if n ≤ 1 then 0 else (x / 41 - x / 41 / 41 * 41) - 20 := by
    unfold pu_
    rw [rI_ne (by omega), rI_ne (by omega), rI_eq]
  have p2 : (pu_ c a n x v).1 (a + 1) 2 = if n ≤ 2 then 0 else (x - x / 41 * 41) - 20 := by
    unfold pu_
    rw [rI_ne (by omega), rI_ne (by omega), rI_ne (by omega), rI_eq]
  have p3 : (pu_ c a n x v).1 a 1 = v := by
    unfold pu_
    rw [rI_eq]
  have l0 : (la_ u W A n x v).1 W A = x / 1681 - 20 := by
    unfold la_ la_z
    rcases lt3n hn1 hn3 with rfl | rfl | rfl
    · rw [if_pos (by decide), rI_ne (by omega), rI_ne (by omega), rI_ne (by omega), rI_ne (by omega), rI_ne (by omega), rI_eq]
    · rw [if_neg (by decide), if_pos (by decide), rI_ne (by omega), rI_ne (by omega), rI_ne (by omega), rI_ne (by omega), rI_eq]
    · rw [if_neg (by decide), if_neg (by decide), rI_ne (by omega), rI_ne (by omega), rI_ne (by omega), rI_eq]
  have l1 : (la_ u W A n x v).1 W (A + 1) = if n ≤ 1 then 0 else (x / 41 - x / 41 / 41 * 41) - 20 := by
    unfold la_ la_z
    rcases lt3n hn1 hn3 with rfl | rfl | rfl
    · rw [if_pos (show (1 : Nat) ≤ 1 by decide), if_pos (show (1 : Nat) ≤ 1 by decide), rI_ne (by omega), rI_eq]
    · rw [if_neg (show ¬ (2 : Nat) ≤ 1 by decide), if_pos (show (2 : Nat) ≤ 2 by decide), if_neg (show ¬ (2 : Nat) ≤ 1 by decide), rI_ne (by omega), rI_ne (by omega), rI_ne (by omega), rI_eq]
    · rw [if_neg (show ¬ (3 : Nat) ≤ 1 by decide), if_neg (show ¬ (3 : Nat) ≤ 2 by decide), if_neg (show ¬ (3 : Nat) ≤ 1 by decide), rI_ne (by omega), rI_ne (by omega), rI_eq]
  have l2 : (la_ u W A n x v).1 W (A + 2) = if n ≤ 2 then 0 else (x - x / 41 * 41) - 20 := by
    unfold la_ la_z
    rcases lt3n hn1 hn3 with rfl | rfl | rfl
    · rw [if_pos (show (1 : Nat) ≤ 1 by decide), if_pos (show (1 : Nat) ≤ 2 by decide), rI_eq]
    · rw [if_neg (show ¬ (2 : Nat) ≤ 1 by decide), if_pos (show (2 : Nat) ≤ 2 by decide), if_pos (show (2 : Nat) ≤ 2 by decide), rI_eq]
    · rw [if_neg (show ¬ (3 : Nat) ≤ 1 by decide), if_neg (show ¬ (3 : Nat) ≤ 2 by decide), if_neg (show ¬ (3 : Nat) ≤ 2 by decide), rI_ne (by omega), rI_eq]
  have l3 : (la_ u W A n x v).1 W (A + 3) = v := by
    unfold la_ la_z
    rcases lt3n hn1 hn3 with rfl | rfl | rfl
    · rw [if_pos (by decide), rI_ne (by omega), rI_ne (by omega), rI_eq]
    · rw [if_neg (by decide), if_pos (by decide), rI_ne (by omega), rI_eq]
    · rw [if_neg (by decide), if_neg (by decide), rI_eq]
  refine ⟨fun k hk => ?_, by rw [p3, l3], by rw [p3]; exact hv0, by rw [p3]; exact hv1⟩
  rcases lt3_ hk with rfl | rfl | rfl
  · rw [p0, show A + 0 = A from rfl, l0]
    exact ⟨rfl, b2.1, b2.2, fun q => absurd q (by omega)⟩
  · rw [p1, l1]
    by_cases h : n ≤ 1
    · rw [if_pos h]; exact ⟨rfl, i20_0.1, i20_0.2, fun _ => rfl⟩
    · rw [if_neg h]; exact ⟨rfl, b1.1, b1.2, fun q => absurd q h⟩
  · rw [p2, l2]
    by_cases h : n ≤ 2
    · rw [if_pos h]; exact ⟨rfl, i20_0.1, i20_0.2, fun _ => rfl⟩
    · rw [if_neg h]; exact ⟨rfl, b0.1, b0.2, fun q => absurd q h⟩
theorem pu_on (u : xm_Y) (a n : Nat) (x v : Int32) : on_ (fun k => k = a ∨ k = a + 1) u (pu_ u a n x v) := by
  unfold pu_
  exact ((((on_.rf u).wI (by simp)).wI (by simp)).wI (by simp)).wI (by simp)
theorem la_on (u : xm_Y) (W A n : Nat) (x v : Int32) : on_ (fun k => k = W) u (la_ u W A n x v) := by
  unfold la_ la_z
  by_cases h1 : n ≤ 1
  · rw [if_pos h1]
    exact ((((((on_.rf (S := fun k => k = W) u).wI rfl).wI rfl).wI rfl).wI rfl).wI rfl).wI rfl
  · rw [if_neg h1]
    by_cases h2 : n ≤ 2
    · rw [if_pos h2]
      exact (((((on_.rf (S := fun k => k = W) u).wI rfl).wI rfl).wI rfl).wI rfl).wI rfl
    · rw [if_neg h2]
      exact ((((on_.rf (S := fun k => k = W) u).wI rfl).wI rfl).wI rfl).wI rfl
theorem la_ne {u : xm_Y} {W A n k : Nat} {x v : Int32} (h : k < A ∨ A + 4 ≤ k) : (la_ u W A n x v).1 W k = u.1 W k := by
  unfold la_ la_z
  by_cases h1 : n ≤ 1
  · rw [if_pos h1, rI_ne (by omega), rI_ne (by omega), rI_ne (by omega), rI_ne (by omega), rI_ne (by omega), rI_ne (by omega)]
  · rw [if_neg h1]
    by_cases h2 : n ≤ 2
    · rw [if_pos h2, rI_ne (by omega), rI_ne (by omega), rI_ne (by omega), rI_ne (by omega), rI_ne (by omega)]
    · rw [if_neg h2, rI_ne (by omega), rI_ne (by omega), rI_ne (by omega), rI_ne (by omega)]
