theorem sr_ (q : Int32) {i : Nat} (hi : i < 32) : (q >>> (nI i &&& 31)).toBitVec = q.toBitVec.sshiftRight i := by
  have h : (nI i &&& 31).toBitVec.smod 32 = BitVec.ofNat 32 i := by
    revert hi i; decide
  rw [Int32.toBitVec_shiftRight, h, BitVec.sshiftRight_eq']
  congr 1
  simp
  omega
theorem sl_ (q : Int32) {i : Nat} (hi : i < 32) : (q <<< (nI i &&& 31)).toBitVec = q.toBitVec <<< i := by
  have h : (nI i &&& 31).toBitVec.smod 32 = BitVec.ofNat 32 i := by
    revert hi i; decide
  rw [Int32.toBitVec_shiftLeft, h, BitVec.shiftLeft_eq']
  congr 1
  simp
  omega
theorem b1_ (j : Nat) : (Int32.toBitVec 1).getLsbD j = decide (j = 0) := by
  show (1#32).getLsbD j = _
  rw [BitVec.getLsbD_one]
  by_cases h : j = 0
  · subst h; rfl
  · rw [decide_eq_false h, Bool.and_eq_false_imp]
    intro _
    rfl
theorem b0_ (j : Nat) : (Int32.toBitVec 0).getLsbD j = false := by
  show (0#32).getLsbD j = _
  exact BitVec.getLsbD_zero
theorem bt_ (q : Int32) {i : Nat} (hi : i < 32) : ((q >>> (nI i &&& 31)) &&& 1 = 0) ↔ q.toBitVec.getLsbD i = false := by
  have g : ∀ j, ((q >>> (nI i &&& 31)) &&& 1).toBitVec.getLsbD j = (q.toBitVec.getLsbD i && decide (j = 0)) := by
    intro j
    rw [Int32.toBitVec_and, sr_ q hi, BitVec.getLsbD_and, b1_]
    by_cases h : j = 0
    · subst h
      rw [BitVec.getLsbD_sshiftRight, Nat.add_zero, if_pos hi]
      simp
    · rw [decide_eq_false h, Bool.and_false, Bool.and_false]
  constructor
  · intro h
    have := g 0
    rw [h, b0_] at this
    simpa using this.symm
  · intro h
    apply Int32.toBitVec_inj.mp
    apply BitVec.eq_of_getLsbD_eq
    intro j hj
    rw [g, h, b0_, Bool.false_and]
theorem m_bit {w k j : Nat} (hk : k ≤ w) : (BitVec.ofNat w (2 ^ k - 1)).getLsbD j = decide (j < k) := by
  rw [BitVec.getLsbD_ofNat, Nat.testBit_two_pow_sub_one]
  by_cases h : j < k
  · rw [decide_eq_true h, decide_eq_true (by omega)]; rfl
  · rw [decide_eq_false h, Bool.and_false]
theorem rw_ (q : Int32) {i j : Nat} (hi : i + 4 ≤ 32) : ((q >>> (nI i &&& 31)) &&& 15).toBitVec.getLsbD j = (decide (j < 4) && q.toBitVec.getLsbD (i + j)) := by
  rw [Int32.toBitVec_and, sr_ q (by omega), BitVec.getLsbD_and]
  have : (Int32.toBitVec 15).getLsbD j = decide (j < 4) := m_bit (w := 32) (k := 4) (by omega)
  rw [this]
  by_cases h : j < 4
  · rw [decide_eq_true h, BitVec.getLsbD_sshiftRight, if_pos (by omega), decide_eq_false (show ¬ 32 ≤ j by omega)]
    simp
  · rw [decide_eq_false h, Bool.and_false, Bool.false_and]
theorem shl_ (q : Int32) {i j : Nat} (hi : i < 32) (hj : j < 32) : (q <<< (nI i &&& 31)).toBitVec.getLsbD j = (!decide (j < i) && q.toBitVec.getLsbD (j - i)) := by
  rw [sl_ q hi, BitVec.getLsbD_shiftLeft, decide_eq_true hj, Bool.true_and]
def pk_ (f g K : Int32) : Int64 := (((Int32.toInt64 K) &&& 4294967295) ||| ((Int32.toInt64 f) <<< (Int32.toInt64 32 &&& 63))) ||| ((Int32.toInt64 g) <<< (Int32.toInt64 35 &&& 63))
theorem i8_ {f : Int32} (h0 : 0 ≤ f.toInt) (h1 : f.toInt < 8) : f = 0 ∨ f = 1 ∨ f = 2 ∨ f = 3 ∨ f = 4 ∨ f = 5 ∨ f = 6 ∨ f = 7 := by
  have : f.toInt = 0 ∨ f.toInt = 1 ∨ f.toInt = 2 ∨ f.toInt = 3 ∨ f.toInt = 4 ∨ f.toInt = 5 ∨ f.toInt = 6 ∨ f.toInt = 7 := by omega
  rcases this with h | h | h | h | h | h | h | h
  · exact Or.inl (Int32.toInt_inj.mp h)
  · exact Or.inr (Or.inl (Int32.toInt_inj.mp h))
  · exact Or.inr (Or.inr (Or.inl (Int32.toInt_inj.mp h)))
  · exact Or.inr (Or.inr (Or.inr (Or.inl (Int32.toInt_inj.mp h))))
  · exact Or.inr (Or.inr (Or.inr (Or.inr (Or.inl (Int32.toInt_inj.mp h)))))
  · exact Or.inr (Or.inr (Or.inr (Or.inr (Or.inr (Or.inl (Int32.toInt_inj.mp h))))))
  · exact Or.inr (Or.inr (Or.inr (Or.inr (Or.inr (Or.inr (Or.inl (Int32.toInt_inj.mp h)))))))
  · exact Or.inr (Or.inr (Or.inr (Or.inr (Or.inr (Or.inr (Or.inr (Int32.toInt_inj.mp h)))))))
/-- what stands above the masks -/
def hi_ (f g : Int32) : BitVec 64 := (((Int32.toInt64 f) <<< (Int32.toInt64 32 &&& 63)) ||| ((Int32.toInt64 g) <<< (Int32.toInt64 35 &&& 63))).toBitVec
theorem pk_b (f g K : Int32) (j : Nat) : (pk_ f g K).toBitVec.getLsbD j = ((decide (j < 32) && K.toBitVec.getLsbD j) || (hi_ f g).getLsbD j) := by
  unfold pk_ hi_
  have m : (Int64.toBitVec 4294967295).getLsbD j = decide (j < 32) := m_bit (w := 64) (k := 32) (by omega)
  rw [Int64.toBitVec_or, Int64.toBitVec_or, Int64.toBitVec_or, BitVec.getLsbD_or, BitVec.getLsbD_or, BitVec.getLsbD_or, Int64.toBitVec_and, BitVec.getLsbD_and, m, Int32.toBitVec_toInt64, Bool.or_assoc]
  congr 1
  by_cases h : j < 32
  · rw [decide_eq_true h, BitVec.getLsbD_signExtend, decide_eq_true (show j < 64 by omega), if_pos h]; simp
  · rw [decide_eq_false h, Bool.and_false, Bool.false_and]
theorem hi_n {f g : Int32} (f0 : 0 ≤ f.toInt) (f8 : f.toInt < 8) (g0 : 0 ≤ g.toInt) (g8 : g.toInt < 8) : hi_ f g = BitVec.ofNat 64 ((f.toInt.toNat + 8 * g.toInt.toNat) * 2 ^ 32) := by
  rcases i8_ f0 f8 with rfl | rfl | rfl | rfl | rfl | rfl | rfl | rfl <;> rcases i8_ g0 g8 with rfl | rfl | rfl | rfl | rfl | rfl | rfl | rfl <;> decide
theorem hi_lo {f g : Int32} (f0 : 0 ≤ f.toInt) (f8 : f.toInt < 8) (g0 : 0 ≤ g.toInt) (g8 : g.toInt < 8) {j : Nat} (hj : j < 32) : (hi_ f g).getLsbD j = false := by
  rw [hi_n f0 f8 g0 g8, BitVec.getLsbD_ofNat, Nat.testBit_mul_two_pow, decide_eq_false (show ¬ 32 ≤ j by omega)]
  simp
theorem ush_ (p : Int64) (s : Int32) (k : Nat) (hs : (Int64.toUInt64 (Int32.toInt64 s) &&& Int64.toUInt64 63).toBitVec % 64 = BitVec.ofNat 64 k) (hk : k < 64) (j : Nat) (hj : j < 32) : (Int64.toInt32 ((Int64.toUInt64 p >>> (Int64.toUInt64 (Int32.toInt64 s) &&& Int64.toUInt64 63)).toInt64)).toBitVec.getLsbD j = p.toBitVec.getLsbD (k + j) := by
  have e : ((Int64.toUInt64 p >>> (Int64.toUInt64 (Int32.toInt64 s) &&& Int64.toUInt64 63)).toInt64).toBitVec = p.toBitVec >>> k := by
    show (Int64.toUInt64 p >>> (Int64.toUInt64 (Int32.toInt64 s) &&& Int64.toUInt64 63)).toBitVec = _
    rw [UInt64.toBitVec_shiftRight, hs]
    show p.toBitVec >>> BitVec.ofNat 64 k = _
    rw [BitVec.ushiftRight_eq']
    congr 1
    simp
    omega
  rw [Int64.toBitVec_toInt32, BitVec.getLsbD_signExtend, decide_eq_true hj, Bool.true_and, if_pos (by omega), e, BitVec.getLsbD_ushiftRight]
def tl_ (p : Int64) : Int32 := (Int64.toInt32 p) &&& 65535
def le_ (p : Int64) : Int32 := (Int64.toInt32 ((Int64.toUInt64 p >>> (Int64.toUInt64 (Int32.toInt64 16) &&& Int64.toUInt64 63)).toInt64)) &&& 65535
def fr_ (p : Int64) : Int32 := (Int64.toInt32 ((Int64.toUInt64 p >>> (Int64.toUInt64 (Int32.toInt64 32) &&& Int64.toUInt64 63)).toInt64)) &&& 7
def to_ (p : Int64) : Int32 := (Int64.toInt32 ((Int64.toUInt64 p >>> (Int64.toUInt64 (Int32.toInt64 35) &&& Int64.toUInt64 63)).toInt64)) &&& 7
theorem m16 (j : Nat) : (Int32.toBitVec 65535).getLsbD j = decide (j < 16) := m_bit (w := 32) (k := 16) (by omega)
theorem m7 (j : Nat) : (Int32.toBitVec 7).getLsbD j = decide (j < 3) := m_bit (w := 32) (k := 3) (by omega)
theorem tl_b {f g K : Int32} (f0 : 0 ≤ f.toInt) (f8 : f.toInt < 8) (g0 : 0 ≤ g.toInt) (g8 : g.toInt < 8) {j : Nat} : (tl_ (pk_ f g K)).toBitVec.getLsbD j = (decide (j < 16) && K.toBitVec.getLsbD j) := by
  unfold tl_
  rw [Int32.toBitVec_and, BitVec.getLsbD_and, m16]
  by_cases h : j < 16
  · rw [Int64.toBitVec_toInt32, BitVec.getLsbD_signExtend, if_pos (show j < 64 by omega), pk_b, hi_lo f0 f8 g0 g8 (by omega), decide_eq_true h, decide_eq_true (show j < 32 by omega)]
    simp
  · rw [decide_eq_false h, Bool.and_false, Bool.false_and]
theorem le_b {f g K : Int32} (f0 : 0 ≤ f.toInt) (f8 : f.toInt < 8) (g0 : 0 ≤ g.toInt) (g8 : g.toInt < 8) {j : Nat} : (le_ (pk_ f g K)).toBitVec.getLsbD j = (decide (j < 16) && K.toBitVec.getLsbD (16 + j)) := by
  unfold le_
  rw [Int32.toBitVec_and, BitVec.getLsbD_and, m16]
  by_cases h : j < 16
  · rw [ush_ _ 16 16 (by decide) (by omega) j (by omega), pk_b, hi_lo f0 f8 g0 g8 (by omega), decide_eq_true h, decide_eq_true (show 16 + j < 32 by omega)]
    simp
  · rw [decide_eq_false h, Bool.and_false, Bool.false_and]
theorem fr_e {f g K : Int32} (f0 : 0 ≤ f.toInt) (f8 : f.toInt < 8) (g0 : 0 ≤ g.toInt) (g8 : g.toInt < 8) : fr_ (pk_ f g K) = f := by
  have h : fr_ (pk_ f g K) = fr_ (pk_ f g 0) := by
    apply Int32.toBitVec_inj.mp
    apply BitVec.eq_of_getLsbD_eq
    intro j hj
    unfold fr_
    rw [Int32.toBitVec_and, Int32.toBitVec_and, BitVec.getLsbD_and, BitVec.getLsbD_and, ush_ _ 32 32 (by decide) (by omega) j hj, ush_ _ 32 32 (by decide) (by omega) j hj, pk_b, pk_b, decide_eq_false (show ¬ 32 + j < 32 by omega), Bool.false_and, Bool.false_and]
  rw [h]
  rcases i8_ f0 f8 with rfl | rfl | rfl | rfl | rfl | rfl | rfl | rfl <;> rcases i8_ g0 g8 with rfl | rfl | rfl | rfl | rfl | rfl | rfl | rfl <;> decide
theorem to_e {f g K : Int32} (f0 : 0 ≤ f.toInt) (f8 : f.toInt < 8) (g0 : 0 ≤ g.toInt) (g8 : g.toInt < 8) : to_ (pk_ f g K) = g := by
  have h : to_ (pk_ f g K) = to_ (pk_ f g 0) := by
    apply Int32.toBitVec_inj.mp
    apply BitVec.eq_of_getLsbD_eq
    intro j hj
    unfold to_
    rw [Int32.toBitVec_and, Int32.toBitVec_and, BitVec.getLsbD_and, BitVec.getLsbD_and, ush_ _ 35 35 (by decide) (by omega) j hj, ush_ _ 35 35 (by decide) (by omega) j hj, pk_b, pk_b, decide_eq_false (show ¬ 35 + j < 32 by omega), Bool.false_and, Bool.false_and]
  rw [h]
  rcases i8_ f0 f8 with rfl | rfl | rfl | rfl | rfl | rfl | rfl | rfl <;> rcases i8_ g0 g8 with rfl | rfl | rfl | rfl | rfl | rfl | rfl | rfl <;> decide
/-! digits -/
/-- a mask that stands for digits -/
def ms_ (K : Int32) (d : Nat → Nat) : Prop := ∀ i, i < 16 → K.toBitVec.getLsbD i = decide (1 ≤ d i) ∧ K.toBitVec.getLsbD (16 + i) = decide (2 ≤ d i)
theorem ms_u {K L : Int32} {d : Nat → Nat} (h : ms_ K d) (g : ms_ L d) : K = L := by
  apply Int32.toBitVec_inj.mp
  apply BitVec.eq_of_getLsbD_eq
  intro j hj
  by_cases q : j < 16
  · rw [(h j q).1, (g j q).1]
  · have a := (h (j - 16) (by omega)).2
    have b := (g (j - 16) (by omega)).2
    rw [show 16 + (j - 16) = j by omega] at a b
    rw [a, b]
def dt_ (T i : Nat) : Nat := T / 3 ^ (15 - i) % 3
def hr_ (d : Nat → Nat) : Nat → Nat
  | 0 => 0
  | n + 1 => 3 * hr_ d n + d n
theorem hr_dt {T : Nat} (hT : T < 3 ^ 16) : ∀ n, n ≤ 16 → hr_ (dt_ T) n = T / 3 ^ (16 - n)
  | 0, _ => by
    rw [show 16 - 0 = 16 from rfl, Nat.div_eq_of_lt hT]; rfl
  | n + 1, hn => by
    unfold hr_
    rw [hr_dt hT n (by omega)]
    unfold dt_
    rw [show 16 - (n + 1) = 15 - n by omega, show 16 - n = (15 - n) + 1 by omega, Nat.pow_succ, ← Nat.div_div_eq_div_mul]
    omega
theorem hr_all {T : Nat} (hT : T < 3 ^ 16) : hr_ (dt_ T) 16 = T := by
  rw [hr_dt hT 16 (by omega)]; simp
theorem hr_up {d : Nat → Nat} (hd : ∀ i, i < 16 → d i < 3) : ∀ (k n : Nat), n + k ≤ 16 → hr_ d (n + k) / 3 ^ k = hr_ d n
  | 0, n, _ => by simp
  | k + 1, n, h => by
    rw [show n + (k + 1) = (n + k) + 1 by omega, Nat.pow_succ, Nat.mul_comm (3 ^ k), ← Nat.div_div_eq_div_mul]
    have := hd (n + k) (by omega)
    have e : hr_ d (n + k + 1) = 3 * hr_ d (n + k) + d (n + k) := rfl
    rw [show hr_ d (n + k + 1) / 3 = hr_ d (n + k) by omega]
    exact hr_up hd k n (by omega)
theorem dt_hr {d : Nat → Nat} (hd : ∀ i, i < 16 → d i < 3) {i : Nat} (hi : i < 16) : dt_ (hr_ d 16) i = d i := by
  unfold dt_
  have := hr_up hd (15 - i) (i + 1) (by omega)
  rw [show i + 1 + (15 - i) = 16 by omega] at this
  rw [this]
  unfold hr_
  have := hd i hi
  omega
theorem hr_lt {d : Nat → Nat} (hd : ∀ i, i < 16 → d i < 3) : ∀ n, n ≤ 16 → hr_ d n < 3 ^ n
  | 0, _ => Nat.one_pos
  | n + 1, h => by
    unfold hr_
    have := hr_lt hd n (by omega)
    have := hd n (by omega)
    rw [Nat.pow_succ]
    omega
theorem hr_c {d e : Nat → Nat} : ∀ n, (∀ i, i < n → d i = e i) → hr_ d n = hr_ e n
  | 0, _ => rfl
  | n + 1, h => by
    unfold hr_
    rw [hr_c n (fun i hi => h i (by omega)), h n (by omega)]
