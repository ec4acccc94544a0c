/-! fewer at a time -/
def cz_ (c : Nat → Int) : Nat → Nat
  | 0 => 0
  | k + 1 => cz_ c k + (if c k = 0 then 0 else 1)
theorem cz_le {c c' : Nat → Int} : ∀ k, (∀ i, i < k → c i = 0 → c' i = 0) → cz_ c' k ≤ cz_ c k
  | 0, _ => Nat.le_refl _
  | k + 1, h => by
    have ih := cz_le k (fun i hi => h i (by omega))
    have hk := h k (by omega)
    unfold cz_
    by_cases z : c k = 0
    · rw [if_pos z, if_pos (hk z)]; omega
    · rw [if_neg z]; split <;> omega
theorem cz_lt {c c' : Nat → Int} : ∀ k, (∀ i, i < k → c i = 0 → c' i = 0) → (∃ i, i < k ∧ c i ≠ 0 ∧ c' i = 0) → cz_ c' k < cz_ c k
  | 0, _, hx => by obtain ⟨i, hi, _⟩ := hx; omega
  | k + 1, h, hx => by
    have le := cz_le k (fun i hi => h i (by omega))
    have hk := h k (by omega)
    unfold cz_
    by_cases z : c k ≠ 0 ∧ c' k = 0
    · rw [if_neg z.1, if_pos z.2]; omega
    · have : ∃ i, i < k ∧ c i ≠ 0 ∧ c' i = 0 := by
        obtain ⟨i, i1, i2⟩ := hx
        by_cases e : i = k
        · rw [e] at i2; exact absurd i2 z
        · exact ⟨i, by omega, i2⟩
      have ih := cz_lt k (fun i hi => h i (by omega)) this
      by_cases w : c k = 0
      · rw [if_pos w, if_pos (hk w)]; omega
      · rw [if_neg w]; split <;> omega
/-- first met, by numbers -/
theorem mrn_ (num den : Nat → Int) : ∀ (k : Nat), (∃ h, h < k ∧ 0 < den h) → (∀ h, h < k → 0 < den h → 0 ≤ num h) → ∃ h0, h0 < k ∧ 0 < den h0 ∧ ∀ h, h < k → 0 < den h → num h0 * den h ≤ num h * den h0
  | 0, hx, _ => by obtain ⟨h, q, _⟩ := hx; omega
  | k + 1, hx, hn => by
    by_cases hr : ∃ h, h < k ∧ 0 < den h
    · obtain ⟨h0, q1, q2, q3⟩ := mrn_ num den k hr (fun h hh => hn h (by omega))
      by_cases ha : 0 < den k ∧ num k * den h0 < num h0 * den k
      · refine ⟨k, by omega, ha.1, fun h hh hd => ?_⟩
        by_cases e : h = k
        · rw [e]; exact Int.le_refl _
        · have w := q3 h (by omega) hd
          have m1 : (num k * den h) * den h0 ≤ (num h0 * den h) * den k := by
            have := Int.mul_le_mul_of_nonneg_right (Int.le_of_lt ha.2) (Int.le_of_lt hd)
            grind
          have m2 : (num h0 * den h) * den k ≤ (num h * den h0) * den k := Int.mul_le_mul_of_nonneg_right w (Int.le_of_lt ha.1)
          have m3 : (num k * den h) * den h0 ≤ (num h * den k) * den h0 := by grind
          exact Int.le_of_mul_le_mul_right m3 q2
      · refine ⟨h0, by omega, q2, fun h hh hd => ?_⟩
        by_cases e : h = k
        · rw [e] at hd ⊢
          have : ¬ num k * den h0 < num h0 * den k := fun z => ha ⟨hd, z⟩
          omega
        · exact q3 h (by omega) hd
    · obtain ⟨h, q1, q2⟩ := hx
      have e : h = k := Classical.byContradiction fun z => hr ⟨h, by omega, q2⟩
      subst e
      refine ⟨h, by omega, q2, fun h' hh hd => ?_⟩
      by_cases e : h' = h
      · rw [e]; exact Int.le_refl _
      · exact absurd ⟨h', by omega, hd⟩ hr
def s1_ (k : Nat) (g : Nat → V4_) (c : Nat → Int) : Int := sm_ k c (fun i => (g i).1)
def s2_ (k : Nat) (g : Nat → V4_) (c : Nat → Int) : Int := sm_ k c (fun i => (g i).2.1)
def s3_ (k : Nat) (g : Nat → V4_) (c : Nat → Int) : Int := sm_ k c (fun i => (g i).2.2.1)
def s4_ (k : Nat) (g : Nat → V4_) (c : Nat → Int) : Int := sm_ k c (fun i => (g i).2.2.2)
/-- a combination that gives nothing -/
def dep_ (k : Nat) (g : Nat → V4_) (c : Nat → Int) : Prop := s1_ k g c = 0 ∧ s2_ k g c = 0 ∧ s3_ k g c = 0
theorem dep_n {k : Nat} {g : Nat → V4_} {c : Nat → Int} (h : dep_ k g c) : dep_ k g (fun i => -1 * c i + 0 * c i) ∧ s4_ k g (fun i => -1 * c i + 0 * c i) = -s4_ k g c := by
  obtain ⟨h1, h2, h3⟩ := h
  unfold dep_ s1_ s2_ s3_ s4_ at *
  rw [sm_l, sm_l, sm_l, sm_l, h1, h2, h3]
  omega
/-- moving along c -/
theorem mv0_ {k : Nat} {g : Nat → V4_} {L c : Nat → Int} (hL : ∀ i, i < k → 0 ≤ L i) (hs : ∀ i, i < k → L i = 0 → c i = 0) (hd : dep_ k g c) (h4 : s4_ k g c ≤ 0) (hn : ∃ i, i < k ∧ c i < 0) : ∃ (L' : Nat → Int) (s : Int), 0 < s ∧ (∀ i, i < k → 0 ≤ L' i) ∧ cz_ L' k < cz_ L k ∧ s1_ k g L' = s * s1_ k g L ∧ s2_ k g L' = s * s2_ k g L ∧ s3_ k g L' = s * s3_ k g L ∧ s4_ k g L' ≤ s * s4_ k g L := by
  obtain ⟨i0, i1, i2, i3⟩ := mrn_ L (fun i => -c i) k (by obtain ⟨i, a, b⟩ := hn; exact ⟨i, a, by show 0 < -c i; omega⟩) (fun h hh _ => hL h hh)
  have i2 : 0 < -c i0 := i2
  have i3 : ∀ h, h < k → 0 < -c h → L i0 * -c h ≤ L h * -c i0 := i3
  obtain ⟨d1, d2, d3⟩ := hd
  refine ⟨fun i => -c i0 * L i + L i0 * c i, -c i0, i2, fun i hi => ?_, cz_lt k (fun i hi hz => ?_) ⟨i0, i1, fun z => ?_, ?_⟩, ?_, ?_, ?_, ?_⟩
  · show 0 ≤ -c i0 * L i + L i0 * c i
    by_cases s : 0 < -c i
    · have := i3 i hi s
      grind
    · have a1 := Int.mul_nonneg (Int.le_of_lt i2) (hL i hi)
      have a2 := Int.mul_nonneg (hL i0 i1) (show 0 ≤ c i by omega)
      omega
  · show -c i0 * L i + L i0 * c i = 0
    rw [hz, hs i hi hz]; omega
  · have := hs i0 i1 z; omega
  · show -c i0 * L i0 + L i0 * c i0 = 0
    grind
  · unfold s1_ at *; rw [sm_l, d1]; omega
  · unfold s2_ at *; rw [sm_l, d2]; omega
  · unfold s3_ at *; rw [sm_l, d3]; omega
  · have e : s4_ k g (fun i => -c i0 * L i + L i0 * c i) = -c i0 * s4_ k g L + L i0 * s4_ k g c := by unfold s4_; rw [sm_l]
    rw [e]
    have := Int.mul_nonneg (hL i0 i1) (show 0 ≤ -s4_ k g c by omega)
    have : L i0 * -s4_ k g c = -(L i0 * s4_ k g c) := by grind
    omega
/-- with a point in it -/
theorem mv1_ {k : Nat} {g : Nat → V4_} {L c : Nat → Int} (hne : ∃ q : V4_, 0 < q.2.2.2 ∧ ∀ i, i < k → 0 ≤ dp_ (g i) q) (hL : ∀ i, i < k → 0 ≤ L i) (hs : ∀ i, i < k → L i = 0 → c i = 0) (hd : dep_ k g c) (hn : ∃ i, i < k ∧ c i ≠ 0) : ∃ (L' : Nat → Int) (s : Int), 0 < s ∧ (∀ i, i < k → 0 ≤ L' i) ∧ cz_ L' k < cz_ L k ∧ s1_ k g L' = s * s1_ k g L ∧ s2_ k g L' = s * s2_ k g L ∧ s3_ k g L' = s * s3_ k g L ∧ s4_ k g L' ≤ s * s4_ k g L := by
  have pos : ∀ c : Nat → Int, dep_ k g c → (∀ i, i < k → 0 ≤ c i) → 0 ≤ s4_ k g c := by
    intro c hd hc
    obtain ⟨q, q1, q2⟩ := hne
    have a := sm_n k hc q2
    rw [sm_dp] at a
    have e1 : sm_ k c (fun i => (g i).1) = 0 := hd.1
    have e2 : sm_ k c (fun i => (g i).2.1) = 0 := hd.2.1
    have e3 : sm_ k c (fun i => (g i).2.2.1) = 0 := hd.2.2
    rw [e1, e2, e3] at a
    have a : 0 ≤ s4_ k g c * q.2.2.2 := by unfold s4_; omega
    apply Classical.byContradiction
    intro z
    have := Int.mul_pos (show 0 < -s4_ k g c by omega) q1
    have e : -s4_ k g c * q.2.2.2 = -(s4_ k g c * q.2.2.2) := by grind
    omega
  obtain ⟨n1, n2⟩ := dep_n hd
  have hs' : ∀ i, i < k → L i = 0 → -1 * c i + 0 * c i = 0 := fun i hi hz => by rw [hs i hi hz]; omega
  by_cases u : ∃ i, i < k ∧ c i < 0
  · by_cases w : s4_ k g c ≤ 0
    · exact mv0_ hL hs hd w u
    · -- then the other way
      refine mv0_ hL hs' n1 (by omega) ?_
      apply Classical.byContradiction
      intro no
      have := pos (fun i => -1 * c i + 0 * c i) n1 (fun i hi => Classical.byContradiction fun z => no ⟨i, hi, by omega⟩)
      omega
  · have cp : ∀ i, i < k → 0 ≤ c i := fun i hi => Classical.byContradiction fun z => u ⟨i, hi, by omega⟩
    have := pos c hd cp
    refine mv0_ hL hs' n1 (by omega) ?_
    obtain ⟨i, i1, i2⟩ := hn
    have := cp i i1
    exact ⟨i, i1, by show -1 * c i + 0 * c i < 0; omega⟩
theorem least1_ {k : Nat} {g : Nat → V4_} (hne : ∃ q : V4_, 0 < q.2.2.2 ∧ ∀ i, i < k → 0 ≤ dp_ (g i) q) : ∀ (n : Nat) (L : Nat → Int), cz_ L k ≤ n → (∀ i, i < k → 0 ≤ L i) → ∃ (L' : Nat → Int) (s : Int), 0 < s ∧ (∀ i, i < k → 0 ≤ L' i) ∧ s1_ k g L' = s * s1_ k g L ∧ s2_ k g L' = s * s2_ k g L ∧ s3_ k g L' = s * s3_ k g L ∧ s4_ k g L' ≤ s * s4_ k g L ∧ ∀ c : Nat → Int, (∀ i, i < k → L' i = 0 → c i = 0) → dep_ k g c → ∀ i, i < k → c i = 0 := by
  intro n
  induction n with
  | zero =>
    intro L hn hL
    refine ⟨L, 1, by omega, hL, by omega, by omega, by omega, by omega, fun c hs hd i hi => ?_⟩
    apply Classical.byContradiction
    intro z
    obtain ⟨L', s, _, _, h, _⟩ := mv1_ hne hL hs hd ⟨i, hi, z⟩
    omega
  | succ n ih =>
    intro L hn hL
    by_cases hx : ∃ c : Nat → Int, (∀ i, i < k → L i = 0 → c i = 0) ∧ dep_ k g c ∧ ∃ i, i < k ∧ c i ≠ 0
    · obtain ⟨c, c1, c2, c3⟩ := hx
      obtain ⟨L1, s, h1, h2, h3, h4, h5, h6, h7⟩ := mv1_ hne hL c1 c2 c3
      obtain ⟨L2, s2, k1, k2, k3, k4, k5, k6, k7⟩ := ih L1 (by omega) h2
      refine ⟨L2, s2 * s, Int.mul_pos k1 h1, k2, by rw [k3, h4]; grind, by rw [k4, h5]; grind, by rw [k5, h6]; grind, ?_, k7⟩
      have := Int.mul_le_mul_of_nonneg_left h7 (Int.le_of_lt k1)
      grind
    · refine ⟨L, 1, by omega, hL, by omega, by omega, by omega, by omega, fun c hs hd i hi => ?_⟩
      exact Classical.byContradiction fun z => hx ⟨c, hs, hd, i, hi, z⟩
/-- without one -/
theorem mv2_ {k : Nat} {g : Nat → V4_} {L c : Nat → Int} (hL : ∀ i, i < k → 0 ≤ L i) (hd0 : dep_ k g L) (h40 : s4_ k g L < 0) (hs : ∀ i, i < k → L i = 0 → c i = 0) (hd : dep_ k g c) (hn : ∃ i, i < k ∧ c i ≠ 0) (hz : ∃ i, i < k ∧ L i ≠ 0 ∧ c i = 0) : ∃ L' : Nat → Int, (∀ i, i < k → 0 ≤ L' i) ∧ cz_ L' k < cz_ L k ∧ dep_ k g L' ∧ s4_ k g L' < 0 := by
  have via : ∀ c : Nat → Int, (∀ i, i < k → L i = 0 → c i = 0) → dep_ k g c → s4_ k g c ≤ 0 → (∃ i, i < k ∧ c i < 0) → ∃ L' : Nat → Int, (∀ i, i < k → 0 ≤ L' i) ∧ cz_ L' k < cz_ L k ∧ dep_ k g L' ∧ s4_ k g L' < 0 := by
    intro c hs hd h4 hn
    obtain ⟨L', s, h1, h2, h3, h4, h5, h6, h7⟩ := mv0_ hL hs hd h4 hn
    refine ⟨L', h2, h3, ⟨by rw [h4, hd0.1]; omega, by rw [h5, hd0.2.1]; omega, by rw [h6, hd0.2.2]; omega⟩, ?_⟩
    have := Int.mul_pos h1 (show 0 < -s4_ k g L by omega)
    have e : s * -s4_ k g L = -(s * s4_ k g L) := by grind
    omega
  have main : ∀ c : Nat → Int, (∀ i, i < k → L i = 0 → c i = 0) → dep_ k g c → s4_ k g c ≤ 0 → (∃ i, i < k ∧ c i ≠ 0) → (∃ i, i < k ∧ L i ≠ 0 ∧ c i = 0) → ∃ L' : Nat → Int, (∀ i, i < k → 0 ≤ L' i) ∧ cz_ L' k < cz_ L k ∧ dep_ k g L' ∧ s4_ k g L' < 0 := by
    intro c hs hd h4 hn hz
    by_cases u : ∃ i, i < k ∧ c i < 0
    · exact via c hs hd h4 u
    · have cp : ∀ i, i < k → 0 ≤ c i := fun i hi => Classical.byContradiction fun z => u ⟨i, hi, by omega⟩
      by_cases w : s4_ k g c < 0
      · exact ⟨c, cp, cz_lt k hs hz, hd, w⟩
      · obtain ⟨n1, n2⟩ := dep_n hd
        refine via _ (fun i hi hz => by show -1 * c i + 0 * c i = 0; rw [hs i hi hz]; omega) n1 (by omega) ?_
        obtain ⟨i, i1, i2⟩ := hn
        have := cp i i1
        exact ⟨i, i1, by show -1 * c i + 0 * c i < 0; omega⟩
  by_cases w : s4_ k g c ≤ 0
  · exact main c hs hd w hn hz
  · obtain ⟨n1, n2⟩ := dep_n hd
    obtain ⟨i, i1, i2⟩ := hn
    obtain ⟨j, j1, j2, j3⟩ := hz
    exact main _ (fun i hi hz => by show -1 * c i + 0 * c i = 0; rw [hs i hi hz]; omega) n1 (by omega) ⟨i, i1, by show -1 * c i + 0 * c i ≠ 0; omega⟩ ⟨j, j1, j2, by show -1 * c j + 0 * c j = 0; omega⟩
theorem least2_ {k : Nat} {g : Nat → V4_} : ∀ (n : Nat) (L : Nat → Int), cz_ L k ≤ n → (∀ i, i < k → 0 ≤ L i) → dep_ k g L → s4_ k g L < 0 → ∃ L' : Nat → Int, (∀ i, i < k → 0 ≤ L' i) ∧ dep_ k g L' ∧ s4_ k g L' < 0 ∧ ∀ c : Nat → Int, (∀ i, i < k → L' i = 0 → c i = 0) → dep_ k g c → (∃ i, i < k ∧ L' i ≠ 0 ∧ c i = 0) → ∀ i, i < k → c i = 0 := by
  intro n
  induction n with
  | zero =>
    intro L hn hL hd h4
    refine ⟨L, hL, hd, h4, fun c hs hdc hz i hi => ?_⟩
    apply Classical.byContradiction
    intro z
    obtain ⟨L', _, h, _⟩ := mv2_ hL hd h4 hs hdc ⟨i, hi, z⟩ hz
    omega
  | succ n ih =>
    intro L hn hL hd h4
    by_cases hx : ∃ c : Nat → Int, (∀ i, i < k → L i = 0 → c i = 0) ∧ dep_ k g c ∧ (∃ i, i < k ∧ c i ≠ 0) ∧ (∃ i, i < k ∧ L i ≠ 0 ∧ c i = 0)
    · obtain ⟨c, c1, c2, c3, c4⟩ := hx
      obtain ⟨L1, h1, h2, h3, h5⟩ := mv2_ hL hd h4 c1 c2 c3 c4
      exact ih L1 (by omega) h1 h3 h5
    · refine ⟨L, hL, hd, h4, fun c hs hdc hz i hi => ?_⟩
      exact Classical.byContradiction fun z => hx ⟨c, hs, hdc, ⟨i, hi, z⟩, hz⟩
