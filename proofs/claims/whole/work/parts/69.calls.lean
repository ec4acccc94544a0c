/-! CALLS: the class's masks and the reference's digits -/
theorem nI_dv {a b : Nat} (ha : a < 2 ^ 31) (hb : b < 2 ^ 31) : nI a / nI b = nI (a / b) := by
  have hq : a / b ≤ a := Nat.div_le_self a b
  apply Int32.toInt_inj.mp
  rw [Int32.toInt_div, nI_toInt ha, nI_toInt hb, nI_toInt (by omega)]
  rw [show ((a : Int).tdiv (b : Int)) = ((a / b : Nat) : Int) from rfl]
  generalize a / b = z at hq
  rw [Int.bmod_def]
  split <;> omega
theorem nI_md {a b : Nat} (ha : a < 2 ^ 31) (hb : b < 2 ^ 31) : nI a - nI a / nI b * nI b = nI (a % b) := by
  have e := Nat.div_add_mod a b
  have hq : a / b ≤ a := Nat.div_le_self a b
  rw [nI_dv ha hb, nI_mu, nI_sb (by rw [Nat.mul_comm] at e; omega) (by omega)]
  congr 1
  rw [Nat.mul_comm] at e
  omega
theorem bv_ (q : Int32) {i : Nat} (hi : i < 32) : ((q >>> (nI i &&& 31)) &&& 1) = if q.toBitVec.getLsbD i = true then 1 else 0 := by
  by_cases h : q.toBitVec.getLsbD i = true
  · rw [if_pos h]
    apply Int32.toBitVec_inj.mp
    apply BitVec.eq_of_getLsbD_eq
    intro j hj
    rw [Int32.toBitVec_and, sr_ q hi, BitVec.getLsbD_and, b1_]
    by_cases z : j = 0
    · subst z
      rw [BitVec.getLsbD_sshiftRight, Nat.add_zero, if_pos hi, h]
      rfl
    · rw [decide_eq_false z, Bool.and_false]
  · rw [if_neg h]
    exact (bt_ q hi).mpr (Bool.eq_false_iff.mpr h)
theorem bit1 {i j : Nat} (hi : i < 32) (hj : j < 32) : ((1 : Int32) <<< (nI i &&& 31)).toBitVec.getLsbD j = decide (j = i) := by
  rw [shl_ 1 hi hj, b1_]
  by_cases h : j = i
  · subst h
    rw [decide_eq_false (show ¬ j < j by omega), decide_eq_true (show j - j = 0 by omega), decide_eq_true rfl]; rfl
  · rw [decide_eq_false h]
    by_cases q : j < i
    · rw [decide_eq_true q]; rfl
    · rw [decide_eq_false (show ¬ j - i = 0 by omega), Bool.and_false]
theorem ltm3 (T : Nat) : T % 3 = 0 ∨ T % 3 = 1 ∨ T % 3 = 2 := by omega
theorem mkd_b {n T : Nat} (hn : n < 16) (hT : T < 2 ^ 31) (l1 : Int32) {j : Nat} (hj : j < 32) : (mk_d l1 (nI T) n).toBitVec.getLsbD j = (l1.toBitVec.getLsbD j || (decide (j = n) && decide (1 ≤ T % 3)) || (decide (j = n + 16) && decide (2 ≤ T % 3))) := by
  have e : nI T - nI T / 3 * 3 = nI (T % 3) := nI_md (b := 3) hT (by omega)
  have e16 : nI n + 16 = nI (n + 16) := nI_ad n 16
  unfold mk_d
  rw [e, e16]
  rcases ltm3 T with h | h | h
  · rw [h]
    show l1.toBitVec.getLsbD j = _
    simp
  · rw [h]
    show (l1 ||| ((1 : Int32) <<< (nI n &&& 31))).toBitVec.getLsbD j = _
    rw [Int32.toBitVec_or, BitVec.getLsbD_or, bit1 (by omega) hj]
    simp
  · rw [h]
    show ((l1 ||| ((1 : Int32) <<< (nI n &&& 31))) ||| ((1 : Int32) <<< (nI (n + 16) &&& 31))).toBitVec.getLsbD j = _
    rw [Int32.toBitVec_or, BitVec.getLsbD_or, Int32.toBitVec_or, BitVec.getLsbD_or, bit1 (by omega) hj, bit1 (by omega) hj]
    simp
theorem mk_b : ∀ (n T : Nat) (l1 : Int32), n ≤ 16 → T < 2 ^ 31 → ∀ i, i < 16 → (mk_ n l1 (nI T)).toBitVec.getLsbD i = (l1.toBitVec.getLsbD i || (decide (i < n) && decide (1 ≤ T / 3 ^ (n - 1 - i) % 3))) ∧ (mk_ n l1 (nI T)).toBitVec.getLsbD (16 + i) = (l1.toBitVec.getLsbD (16 + i) || (decide (i < n) && decide (2 ≤ T / 3 ^ (n - 1 - i) % 3)))
  | 0, T, l1, hn, hT, i, hi => by
    rw [decide_eq_false (show ¬ i < 0 by omega)]
    simp [mk_]
  | n + 1, T, l1, hn, hT, i, hi => by
    have ih := mk_b n (T / 3) (mk_d l1 (nI T) n) (by omega) (by omega) i hi
    have e : nI T / 3 = nI (T / 3) := nI_dv (b := 3) hT (by omega)
    unfold mk_
    rw [e, ih.1, ih.2, mkd_b (by omega) hT l1 (by omega), mkd_b (by omega) hT l1 (by omega), decide_eq_false (show ¬ i = n + 16 by omega), decide_eq_false (show ¬ 16 + i = n by omega)]
    by_cases h : i < n
    · rw [decide_eq_true h, decide_eq_false (show ¬ i = n by omega), decide_eq_false (show ¬ 16 + i = n + 16 by omega), decide_eq_true (show i < n + 1 by omega)]
      rw [Nat.div_div_eq_div_mul, Nat.mul_comm 3, ← Nat.pow_succ, show (n - 1 - i).succ = n + 1 - 1 - i by omega]
      simp
    · by_cases q : i = n
      · subst q
        rw [decide_eq_false h, decide_eq_true (show i = i from rfl), decide_eq_true (show 16 + i = i + 16 by omega), decide_eq_true (show i < i + 1 by omega), show i + 1 - 1 - i = 0 by omega, Nat.pow_zero, Nat.div_one]
        simp
      · rw [decide_eq_false h, decide_eq_false q, decide_eq_false (show ¬ 16 + i = n + 16 by omega), decide_eq_false (show ¬ i < n + 1 by omega)]
        simp
theorem mk_ms {T : Nat} (hT : T < 2 ^ 31) : ms_ (mk_ 16 0 (nI T)) (dt_ T) := by
  intro i hi
  obtain ⟨a, b⟩ := mk_b 16 T 0 (by omega) hT i hi
  rw [a, b, b0_, b0_, decide_eq_true hi]
  unfold dt_
  rw [show 16 - 1 - i = 15 - i by omega]
  simp
theorem dt_3 (T i : Nat) : dt_ T i < 3 := Nat.mod_lt _ (by omega)
/-! two TELLS together -/
def mu_ (v w : Nat) : Nat := if v = 0 then 0 else if w = 0 then 0 else if v = 2 then 2 else if w = 2 then 2 else 1
def mxl_ (a b : Nat → Nat) (R j : Nat) : Nat → Nat
  | 0 => 0
  | k + 1 => if mxl_ a b R j k < mu_ (a (4 * R + k)) (b (4 * k + j)) then mu_ (a (4 * R + k)) (b (4 * k + j)) else mxl_ a b R j k
def tg_ (a b : Nat → Nat) (i : Nat) : Nat := mxl_ a b (i / 4) (i % 4) 4
theorem mu_3 (v w : Nat) : mu_ v w < 3 := by
  unfold mu_
  split
  · omega
  split
  · omega
  split
  · omega
  split <;> omega
theorem mxl_3 (a b : Nat → Nat) (R j : Nat) : ∀ k, mxl_ a b R j k < 3
  | 0 => by unfold mxl_; omega
  | k + 1 => by
    unfold mxl_
    split
    · exact mu_3 _ _
    · exact mxl_3 a b R j k
theorem tg_3 (a b : Nat → Nat) (i : Nat) : tg_ a b i < 3 := mxl_3 _ _ _ _ _
def lo_ (A B : Nat → Bool) (R j : Nat) : Nat → Bool
  | 0 => false
  | k + 1 => lo_ A B R j k || (A (4 * R + k) && B (4 * k + j))
def lh_ (A A' B B' : Nat → Bool) (R j : Nat) : Nat → Bool
  | 0 => false
  | k + 1 => lh_ A A' B B' R j k || (A (4 * R + k) && (if A' (4 * R + k) = true then B (4 * k + j) else B' (4 * k + j)))
theorem lo_mx {A B : Nat → Bool} {a b : Nat → Nat} (hA : ∀ i, i < 16 → A i = decide (1 ≤ a i)) (hB : ∀ i, i < 16 → B i = decide (1 ≤ b i)) {R j : Nat} (hR : R < 4) (hj : j < 4) : ∀ k, k ≤ 4 → lo_ A B R j k = decide (1 ≤ mxl_ a b R j k)
  | 0, _ => rfl
  | k + 1, hk => by
    unfold lo_ mxl_
    rw [lo_mx hA hB hR hj k (by omega), hA _ (by omega), hB _ (by omega)]
    generalize a (4 * R + k) = v
    generalize b (4 * k + j) = w
    generalize mxl_ a b R j k = z
    unfold mu_
    by_cases h1 : v = 0
    · subst h1; simp
    · by_cases h2 : w = 0
      · subst h2; simp
      · rw [if_neg h1, if_neg h2, decide_eq_true (show 1 ≤ v by omega), decide_eq_true (show 1 ≤ w by omega)]
        have : ∀ y : Nat, 1 ≤ y → 1 ≤ (if z < y then y else z) := fun y hy => by split <;> omega
        rw [decide_eq_true (this _ (by split; omega; split <;> omega))]
        simp
theorem lh_mx {A A' B B' : Nat → Bool} {a b : Nat → Nat} (hA : ∀ i, i < 16 → A i = decide (1 ≤ a i)) (hA' : ∀ i, i < 16 → A' i = decide (2 ≤ a i)) (hB : ∀ i, i < 16 → B i = decide (1 ≤ b i)) (hB' : ∀ i, i < 16 → B' i = decide (2 ≤ b i)) (ha3 : ∀ i, a i < 3) (hb3 : ∀ i, b i < 3) {R j : Nat} (hR : R < 4) (hj : j < 4) : ∀ k, k ≤ 4 → lh_ A A' B B' R j k = decide (2 ≤ mxl_ a b R j k)
  | 0, _ => rfl
  | k + 1, hk => by
    unfold lh_ mxl_
    rw [lh_mx hA hA' hB hB' ha3 hb3 hR hj k (by omega), hA _ (by omega), hB _ (by omega), hA' _ (by omega), hB' _ (by omega)]
    have v3 := ha3 (4 * R + k)
    have w3 := hb3 (4 * k + j)
    generalize a (4 * R + k) = v at v3
    generalize b (4 * k + j) = w at w3
    have z3 := mxl_3 a b R j k
    generalize mxl_ a b R j k = z at z3
    have hv : v = 0 ∨ v = 1 ∨ v = 2 := by omega
    have hw : w = 0 ∨ w = 1 ∨ w = 2 := by omega
    have hz : z = 0 ∨ z = 1 ∨ z = 2 := by omega
    rcases hv with rfl | rfl | rfl <;> rcases hw with rfl | rfl | rfl <;> rcases hz with rfl | rfl | rfl <;> decide
theorem ms_tg {K : Int32} {A A' B B' : Nat → Bool} {a b : Nat → Nat} (hA : ∀ i, i < 16 → A i = decide (1 ≤ a i)) (hA' : ∀ i, i < 16 → A' i = decide (2 ≤ a i)) (hB : ∀ i, i < 16 → B i = decide (1 ≤ b i)) (hB' : ∀ i, i < 16 → B' i = decide (2 ≤ b i)) (ha3 : ∀ i, a i < 3) (hb3 : ∀ i, b i < 3) (hK : ∀ i, i < 16 → K.toBitVec.getLsbD i = lo_ A B (i / 4) (i % 4) 4 ∧ K.toBitVec.getLsbD (16 + i) = lh_ A A' B B' (i / 4) (i % 4) 4) : ms_ K (tg_ a b) := by
  intro i hi
  obtain ⟨k1, k2⟩ := hK i hi
  rw [k1, k2, lo_mx hA hB (by omega) (by omega) 4 (by omega), lh_mx hA hA' hB hB' ha3 hb3 (by omega) (by omega) 4 (by omega)]
  exact ⟨rfl, rfl⟩
def gb_ (q : Int32) (i : Nat) : Bool := q.toBitVec.getLsbD i
theorem gb_or (a b : Int32) (j : Nat) : gb_ (a ||| b) j = (gb_ a j || gb_ b j) := by
  unfold gb_; rw [Int32.toBitVec_or, BitVec.getLsbD_or]
theorem tg1_lp {m R : Nat} (hR : R < 4) (x y : Int64) (u : xm_Y) : ∀ (r k f : Nat) (l6 l7 : Int32), k + r = 4 → r + 1 ≤ f → (∀ j, gb_ l6 j = (decide (j < 4) && lo_ (gb_ (tl_ x)) (gb_ (tl_ y)) R j k)) → (∀ j, gb_ l7 j = (decide (j < 4) && lh_ (gb_ (tl_ x)) (gb_ (le_ x)) (gb_ (tl_ y)) (gb_ (le_ y)) R j k)) → ∃ (a b l : Int32), lp_X3_together_21 m x y (nI R) f l6 l7 (nI k) u = some (a, b, l, u) ∧ (∀ j, gb_ a j = (decide (j < 4) && lo_ (gb_ (tl_ x)) (gb_ (tl_ y)) R j 4)) ∧ (∀ j, gb_ b j = (decide (j < 4) && lh_ (gb_ (tl_ x)) (gb_ (le_ x)) (gb_ (tl_ y)) (gb_ (le_ y)) R j 4))
  | 0, k, f, l6, l7, hk, hf, h6, h7 => by
    obtain ⟨f', rfl⟩ : ∃ f', f = f' + 1 := ⟨f - 1, by omega⟩
    obtain rfl : k = 4 := by omega
    exact ⟨l6, l7, nI 4, by rw [lp_X3_together_21, if_pos (by decide)], h6, h7⟩
  | r + 1, k, f, l6, l7, hk, hf, h6, h7 => by
    obtain ⟨f', rfl⟩ : ∃ f', f = f' + 1 := ⟨f - 1, by omega⟩
    have e1 : (4 : Int32) * nI R + nI k = nI (4 * R + k) := by rw [show (4 : Int32) = nI 4 from rfl, nI_mu, nI_ad]
    have e2 : (4 : Int32) * nI k = nI (4 * k) := nI_mu 4 k
    have rt : ∀ j, gb_ ((tl_ y >>> (nI (4 * k) &&& 31)) &&& 15) j = (decide (j < 4) && gb_ (tl_ y) (4 * k + j)) := fun j => rw_ (tl_ y) (by omega)
    have rl : ∀ j, gb_ ((le_ y >>> (nI (4 * k) &&& 31)) &&& 15) j = (decide (j < 4) && gb_ (le_ y) (4 * k + j)) := fun j => rw_ (le_ y) (by omega)
    rw [lp_X3_together_21, if_neg (show ¬ (4 : Int32) ≤ nI k from fun q => absurd ((nIle (a := 4) (by omega) (by omega)).mp q) (by omega))]
    simp only [xm_let, fn_X3_toldOf, fn_X3_lessOf, Option.bind_some]
    rw [e1, e2, ← nI_succ]
    show ∃ a b l, (Option.bind (if (tl_ x >>> (nI (4 * R + k) &&& 31)) &&& 1 = 0 then some (l6, l7, u) else Option.bind (if (le_ x >>> (nI (4 * R + k) &&& 31)) &&& 1 = 0 then some ((le_ y >>> (nI (4 * k) &&& 31)) &&& 15, u) else some ((tl_ y >>> (nI (4 * k) &&& 31)) &&& 15, u)) fun q12 => some (l6 ||| ((tl_ y >>> (nI (4 * k) &&& 31)) &&& 15), l7 ||| q12.1, q12.2)) fun q5 => lp_X3_together_21 m x y (nI R) f' q5.1 q5.2.1 (nI (k + 1)) q5.2.2) = some (a, b, l, u) ∧ _
    by_cases hA : gb_ (tl_ x) (4 * R + k) = true
    · rw [if_neg (fun z => absurd ((bt_ (tl_ x) (by omega)).mp z) (by unfold gb_ at hA; rw [hA]; decide))]
      by_cases hA' : gb_ (le_ x) (4 * R + k) = true
      · rw [if_neg (fun z => absurd ((bt_ (le_ x) (by omega)).mp z) (by unfold gb_ at hA'; rw [hA']; decide))]
        simp only [Option.bind_some]
        refine tg1_lp hR x y u r (k + 1) f' _ _ (by omega) (by omega) (fun j => ?_) (fun j => ?_)
        · rw [gb_or, h6, rt]
          show _ = (decide (j < 4) && (lo_ _ _ R j k || (gb_ (tl_ x) (4 * R + k) && gb_ (tl_ y) (4 * k + j))))
          rw [hA]
          cases decide (j < 4) <;> simp
        · rw [gb_or, h7, rt]
          show _ = (decide (j < 4) && (lh_ _ _ _ _ R j k || (gb_ (tl_ x) (4 * R + k) && (if gb_ (le_ x) (4 * R + k) = true then gb_ (tl_ y) (4 * k + j) else gb_ (le_ y) (4 * k + j)))))
          rw [hA, if_pos hA']
          cases decide (j < 4) <;> simp
      · rw [if_pos ((bt_ (le_ x) (by omega)).mpr (Bool.eq_false_iff.mpr hA'))]
        simp only [Option.bind_some]
        refine tg1_lp hR x y u r (k + 1) f' _ _ (by omega) (by omega) (fun j => ?_) (fun j => ?_)
        · rw [gb_or, h6, rt]
          show _ = (decide (j < 4) && (lo_ _ _ R j k || (gb_ (tl_ x) (4 * R + k) && gb_ (tl_ y) (4 * k + j))))
          rw [hA]
          cases decide (j < 4) <;> simp
        · rw [gb_or, h7, rl]
          show _ = (decide (j < 4) && (lh_ _ _ _ _ R j k || (gb_ (tl_ x) (4 * R + k) && (if gb_ (le_ x) (4 * R + k) = true then gb_ (tl_ y) (4 * k + j) else gb_ (le_ y) (4 * k + j)))))
          rw [hA, if_neg hA']
          cases decide (j < 4) <;> simp
    · rw [if_pos ((bt_ (tl_ x) (by omega)).mpr (Bool.eq_false_iff.mpr hA))]
      simp only [Option.bind_some]
      have hA := Bool.eq_false_iff.mpr hA
      refine tg1_lp hR x y u r (k + 1) f' _ _ (by omega) (by omega) (fun j => ?_) (fun j => ?_)
      · rw [h6]
        show _ = (decide (j < 4) && (lo_ _ _ R j k || (gb_ (tl_ x) (4 * R + k) && gb_ (tl_ y) (4 * k + j))))
        rw [hA]; simp
      · rw [h7]
        show _ = (decide (j < 4) && (lh_ _ _ _ _ R j k || (gb_ (tl_ x) (4 * R + k) && (if gb_ (le_ x) (4 * R + k) = true then gb_ (tl_ y) (4 * k + j) else gb_ (le_ y) (4 * k + j)))))
        rw [hA]; simp
theorem tg2_lp {m : Nat} (hm : 10 ≤ m) (x y : Int64) (u : xm_Y) : ∀ (r R f : Nat) (l4 : Int32), R + r = 4 → r + 1 ≤ f → (∀ i, i < 16 → gb_ l4 i = (decide (i < 4 * R) && lo_ (gb_ (tl_ x)) (gb_ (tl_ y)) (i / 4) (i % 4) 4) ∧ gb_ l4 (16 + i) = (decide (i < 4 * R) && lh_ (gb_ (tl_ x)) (gb_ (le_ x)) (gb_ (tl_ y)) (gb_ (le_ y)) (i / 4) (i % 4) 4)) → ∃ (K l : Int32), lp_X3_together_6 m x y f l4 (nI R) u = some (K, l, u) ∧ (∀ i, i < 16 → gb_ K i = lo_ (gb_ (tl_ x)) (gb_ (tl_ y)) (i / 4) (i % 4) 4 ∧ gb_ K (16 + i) = lh_ (gb_ (tl_ x)) (gb_ (le_ x)) (gb_ (tl_ y)) (gb_ (le_ y)) (i / 4) (i % 4) 4)
  | 0, R, f, l4, hk, hf, h => by
    obtain ⟨f', rfl⟩ : ∃ f', f = f' + 1 := ⟨f - 1, by omega⟩
    obtain rfl : R = 4 := by omega
    refine ⟨l4, nI 4, by rw [lp_X3_together_6, if_pos (by decide)], fun i hi => ?_⟩
    have := h i hi
    rw [decide_eq_true (show i < 4 * 4 by omega), Bool.true_and, Bool.true_and] at this
    exact this
  | r + 1, R, f, l4, hk, hf, h => by
    obtain ⟨f', rfl⟩ : ∃ f', f = f' + 1 := ⟨f - 1, by omega⟩
    obtain ⟨a, b, l, e, ha, hb⟩ := tg1_lp (m := m) (show R < 4 by omega) x y u 4 0 m 0 0 (by omega) (by omega) (fun j => by unfold gb_; rw [b0_]; simp [lo_]) (fun j => by unfold gb_; rw [b0_]; simp [lh_])
    have e2 : (4 : Int32) * nI R = nI (4 * R) := nI_mu 4 R
    have e3 : nI (4 * R) + 16 = nI (4 * R + 16) := nI_ad (4 * R) 16
    rw [lp_X3_together_6, if_neg (show ¬ (4 : Int32) ≤ nI R from fun q => absurd ((nIle (a := 4) (by omega) (by omega)).mp q) (by omega)), show lp_X3_together_21 m x y (nI R) m (0 : Int32) (0 : Int32) (0 : Int32) u = _ from e]
    simp only [Option.bind_some, xm_let]
    rw [e2, e3, ← nI_succ]
    refine tg2_lp hm x y u r (R + 1) f' _ (by omega) (by omega) (fun i hi => ?_)
    have s1 : ∀ j, j < 32 → gb_ (a <<< (nI (4 * R) &&& 31)) j = (!decide (j < 4 * R) && gb_ a (j - 4 * R)) := fun j hj => shl_ a (by omega) hj
    have s2 : ∀ j, j < 32 → gb_ (b <<< (nI (4 * R + 16) &&& 31)) j = (!decide (j < 4 * R + 16) && gb_ b (j - (4 * R + 16))) := fun j hj => shl_ b (by omega) hj
    obtain ⟨h1, h2⟩ := h i hi
    rw [gb_or, gb_or, gb_or, gb_or, h1, h2, s1 i (by omega), s2 i (by omega), s1 (16 + i) (by omega), s2 (16 + i) (by omega), ha, hb, ha, hb]
    by_cases q : i < 4 * R
    · rw [decide_eq_true q, decide_eq_true (show i < 4 * (R + 1) by omega), decide_eq_true (show i < 4 * R + 16 by omega), decide_eq_true (show 16 + i < 4 * R + 16 by omega)]
      have : ¬ 16 + i - 4 * R < 4 := by omega
      rw [decide_eq_false this]
      simp
    · by_cases q2 : i < 4 * (R + 1)
      · rw [decide_eq_false q, decide_eq_true q2, decide_eq_true (show i < 4 * R + 16 by omega), decide_eq_false (show ¬ 16 + i < 4 * R + 16 by omega), decide_eq_false (show ¬ 16 + i - 4 * R < 4 by omega), decide_eq_true (show i - 4 * R < 4 by omega), decide_eq_true (show 16 + i - (4 * R + 16) < 4 by omega), show 16 + i - (4 * R + 16) = i % 4 by omega, show i - 4 * R = i % 4 by omega, show i / 4 = R by omega]
        simp
      · rw [decide_eq_false q, decide_eq_false q2, decide_eq_false (show ¬ i - 4 * R < 4 by omega), decide_eq_false (show ¬ 16 + i - 4 * R < 4 by omega), decide_eq_false (show ¬ 16 + i - (4 * R + 16) < 4 by omega)]
        by_cases q3 : i < 4 * R + 16
        · rw [decide_eq_true q3]; simp
        · omega
