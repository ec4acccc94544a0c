/-! a table with open places, in general -/
theorem pig_ : ∀ (k : Nat) (f : Nat → Nat), (∀ i, i ≤ k → f i < k) → ∃ i j, i < j ∧ j ≤ k ∧ f i = f j
  | 0, f, h => absurd (h 0 (by omega)) (by omega)
  | k + 1, f, h => by
    by_cases hx : ∃ i, i ≤ k ∧ f i = f (k + 1)
    · obtain ⟨i, h1, h2⟩ := hx
      exact ⟨i, k + 1, by omega, by omega, h2⟩
    · have hne : ∀ i, i ≤ k → f i ≠ f (k + 1) := fun i hi q => hx ⟨i, hi, q⟩
      obtain ⟨i, j, h1, h2, h3⟩ := pig_ k (fun i => if f i < f (k + 1) then f i else f i - 1) (fun i hi => by
        have a := h i (by omega)
        have b := h (k + 1) (by omega)
        have c := hne i hi
        split <;> omega)
      refine ⟨i, j, h1, by omega, ?_⟩
      have c1 := hne i (by omega)
      have c2 := hne j (by omega)
      split at h3 <;> split at h3 <;> omega
theorem frst_ {P : Nat → Prop} : ∀ (k : Nat), (∃ s, s ≤ k ∧ P s) → ∃ s, s ≤ k ∧ P s ∧ ∀ s', s' < s → ¬ P s'
  | 0, h => by
    obtain ⟨s, h1, h2⟩ := h
    exact ⟨s, h1, h2, fun s' hs' => absurd hs' (by omega)⟩
  | k + 1, h => by
    by_cases hx : ∃ s, s ≤ k ∧ P s
    · obtain ⟨s, h1, h2, h3⟩ := frst_ k hx
      exact ⟨s, by omega, h2, h3⟩
    · obtain ⟨s, h1, h2⟩ := h
      refine ⟨s, h1, h2, fun s' hs' q => hx ⟨s', by omega, q⟩⟩
def ht_ {K : Type} (Z : Nat) (hs : K → Nat) (key : Nat → K) (tb : Nat → Nat) (k : Nat) : Prop := (∀ h, h < Z → tb h ≤ k) ∧ (∀ j, j < k → ∃ s, s < Z ∧ tb ((hs (key j) + s) % Z) = j + 1 ∧ ∀ s', s' < s → tb ((hs (key j) + s') % Z) ≠ 0) ∧ (∀ h h', h < Z → h' < Z → tb h = tb h' → tb h ≠ 0 → h = h')
theorem md_inj {Z a s t : Nat} (hs : s < Z) (ht : t < Z) (h : (a + s) % Z = (a + t) % Z) : s = t := by
  have hZ : 0 < Z := by omega
  have e1 := Nat.div_add_mod (a + s) Z
  have e2 := Nat.div_add_mod (a + t) Z
  rw [h] at e1
  by_cases q : (a + s) / Z = (a + t) / Z
  · rw [q] at e1; omega
  · have : (a + s) / Z < (a + t) / Z ∨ (a + t) / Z < (a + s) / Z := by omega
    rcases this with r | r
    · have r' := Nat.mul_le_mul_left Z (Nat.succ_le_of_lt r)
      rw [Nat.mul_succ] at r'
      omega
    · have r' := Nat.mul_le_mul_left Z (Nat.succ_le_of_lt r)
      rw [Nat.mul_succ] at r'
      omega
theorem ht_find {K : Type} {Z k : Nat} {hs : K → Nat} {key : Nat → K} {tb : Nat → Nat} (h : ht_ Z hs key tb k) (hk : k < Z) (p : K) : ∃ s, s ≤ k ∧ (∀ s', s' < s → tb ((hs p + s') % Z) ≠ 0 ∧ key (tb ((hs p + s') % Z) - 1) ≠ p) ∧ ((tb ((hs p + s) % Z) = 0 ∧ ∀ j, j < k → key j ≠ p) ∨ (tb ((hs p + s) % Z) ≠ 0 ∧ key (tb ((hs p + s) % Z) - 1) = p)) := by
  obtain ⟨h1, h2, h3⟩ := h
  have ex : ∃ s, s ≤ k ∧ (tb ((hs p + s) % Z) = 0 ∨ key (tb ((hs p + s) % Z) - 1) = p) := Classical.byContradiction (fun no => by
    have nz : ∀ s, s ≤ k → tb ((hs p + s) % Z) ≠ 0 := fun s hs' q => no ⟨s, hs', Or.inl q⟩
    obtain ⟨i, j, q1, q2, q3⟩ := pig_ k (fun s => tb ((hs p + s) % Z) - 1) (fun i hi => by
      have a := nz i hi
      have b := h1 ((hs p + i) % Z) (Nat.mod_lt _ (by omega))
      omega)
    have a := nz i (by omega)
    have b := nz j (by omega)
    have e := h3 _ _ (Nat.mod_lt _ (by omega)) (Nat.mod_lt _ (by omega)) (show tb ((hs p + i) % Z) = tb ((hs p + j) % Z) by omega) a
    have := md_inj (by omega) (by omega) e
    omega)
  obtain ⟨s, q1, q2, q3⟩ := frst_ k ex
  refine ⟨s, q1, fun s' hs' => ⟨fun z => q3 s' hs' (Or.inl z), fun z => q3 s' hs' (Or.inr z)⟩, ?_⟩
  by_cases z : tb ((hs p + s) % Z) = 0
  · refine Or.inl ⟨z, fun j hj e => ?_⟩
    obtain ⟨t, t1, t2, t3⟩ := h2 j hj
    rw [e] at t2 t3
    have pt : tb ((hs p + t) % Z) = 0 ∨ key (tb ((hs p + t) % Z) - 1) = p := Or.inr (by rw [t2]; exact e)
    have le : ¬ t < s := fun w => q3 t w pt
    by_cases w : s = t
    · rw [w, t2] at z; omega
    · exact t3 s (by omega) z
  · exact Or.inr ⟨z, q2.resolve_left z⟩
theorem ht_put {K : Type} {Z k s : Nat} {hs : K → Nat} {key key' : Nat → K} {tb tb' : Nat → Nat} (h : ht_ Z hs key tb k) (hs0 : s < Z) (p : K) (hz : tb ((hs p + s) % Z) = 0) (hp : ∀ s', s' < s → tb ((hs p + s') % Z) ≠ 0) (hkey : ∀ j, j < k → key' j = key j) (hkp : key' k = p) (ht : ∀ h, h < Z → tb' h = if h = (hs p + s) % Z then k + 1 else tb h) : ht_ Z hs key' tb' (k + 1) := by
  obtain ⟨h1, h2, h3⟩ := h
  refine ⟨fun q hq => ?_, fun j hj => ?_, fun q q' hq hq' e ne => ?_⟩
  · rw [ht q hq]
    have := h1 q hq
    split <;> omega
  · by_cases hjk : j = k
    · subst hjk
      rw [hkp]
      refine ⟨s, hs0, ?_, fun s' hs' => ?_⟩
      · rw [ht _ (Nat.mod_lt _ (by omega)), if_pos rfl]
      · rw [ht _ (Nat.mod_lt _ (by omega))]
        have := hp s' hs'
        split
        · omega
        · exact this
    · obtain ⟨t, t1, t2, t3⟩ := h2 j (by omega)
      rw [hkey j (by omega)]
      refine ⟨t, t1, ?_, fun s' hs' => ?_⟩
      · rw [ht _ (Nat.mod_lt _ (by omega)), if_neg (fun q => by rw [q, hz] at t2; omega)]
        exact t2
      · rw [ht _ (Nat.mod_lt _ (by omega))]
        have := t3 s' hs'
        split
        · omega
        · exact this
  · rw [ht q hq, ht q' hq'] at e
    rw [ht q hq] at ne
    have b1 := h1 q hq
    have b2 := h1 q' hq'
    split at e
    · rename_i a
      split at e
      · rename_i b; rw [a, b]
      · omega
    · split at e
      · omega
      · rename_i a b
        rw [if_neg a] at ne
        exact h3 q q' hq hq' e ne
theorem ht_new {K : Type} {Z : Nat} {hs : K → Nat} {key : Nat → K} {tb : Nat → Nat} (h : ∀ q, q < Z → tb q = 0) : ht_ Z hs key tb 0 := ⟨fun q hq => by rw [h q hq]; omega, fun j hj => absurd hj (by omega), fun q q' hq hq' e ne => absurd (h q hq) ne⟩
/-- a mask is a rest -/
theorem an32 {a k : Nat} (ha : a < 2 ^ 31) (hk : k < 31) : nI a &&& nI (2 ^ k - 1) = nI (a % 2 ^ k) := by
  have hk2 : 2 ^ k ≤ 2 ^ 30 := Nat.pow_le_pow_right (by omega) (by omega)
  have hk1 : 0 < 2 ^ k := Nat.two_pow_pos k
  have hm : a % 2 ^ k < 2 ^ k := Nat.mod_lt _ hk1
  have tn : ∀ j : Nat, j < 2 ^ 31 → (nI j).toBitVec.toNat = j := by
    intro j hj
    show (Int32.ofInt (j : Int)).toBitVec.toNat = j
    rw [Int32.toBitVec_ofInt, BitVec.toNat_ofInt]
    omega
  apply Int32.toBitVec_inj.mp
  apply BitVec.eq_of_toNat_eq
  rw [Int32.toBitVec_and, BitVec.toNat_and, tn a ha, tn _ (by omega), tn _ (by omega), Nat.and_two_pow_sub_one_eq_mod]
