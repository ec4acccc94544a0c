/-- nothing in it: at most four say so -/
theorem nonein_ {n : Nat} {g : Nat → V4_} (hno : ∀ q : V4_, (∀ i, i < n → 0 ≤ dp_ (g i) q) → ¬ 0 < q.2.2.2) : (∃ i, i < n ∧ (g i).1 = 0 ∧ (g i).2.1 = 0 ∧ (g i).2.2.1 = 0 ∧ (g i).2.2.2 < 0) ∨ (∃ i j α β, i < j ∧ j < n ∧ 0 < α ∧ 0 < β ∧ ¬ ((g i).1 = 0 ∧ (g i).2.1 = 0 ∧ (g i).2.2.1 = 0) ∧ α * (g i).1 + β * (g j).1 = 0 ∧ α * (g i).2.1 + β * (g j).2.1 = 0 ∧ α * (g i).2.2.1 + β * (g j).2.2.1 = 0 ∧ α * (g i).2.2.2 + β * (g j).2.2.2 < 0) ∨ (∃ i j k α β γ, i < j ∧ j < k ∧ k < n ∧ 0 < α ∧ 0 < β ∧ 0 < γ ∧ cx_ (g i) (g j) ≠ z4_ ∧ α * (g i).1 + β * (g j).1 + γ * (g k).1 = 0 ∧ α * (g i).2.1 + β * (g j).2.1 + γ * (g k).2.1 = 0 ∧ α * (g i).2.2.1 + β * (g j).2.2.1 + γ * (g k).2.2.1 = 0 ∧ α * (g i).2.2.2 + β * (g j).2.2.2 + γ * (g k).2.2.2 < 0) ∨ (∃ i j k l α β γ δ, i < j ∧ j < k ∧ k < l ∧ l < n ∧ 0 < α ∧ 0 < β ∧ 0 < γ ∧ 0 < δ ∧ d3_ (g i) (g j) (g k) ≠ 0 ∧ α * (g i).1 + β * (g j).1 + γ * (g k).1 + δ * (g l).1 = 0 ∧ α * (g i).2.1 + β * (g j).2.1 + γ * (g k).2.1 + δ * (g l).2.1 = 0 ∧ α * (g i).2.2.1 + β * (g j).2.2.1 + γ * (g k).2.2.1 + δ * (g l).2.2.1 = 0 ∧ α * (g i).2.2.2 + β * (g j).2.2.2 + γ * (g k).2.2.2 + δ * (g l).2.2.2 < 0) := by
  obtain ⟨μ, c, m1, m2, m3⟩ := fk_ n g (0, 0, 0, -1) (fun x hx => by
    have := hno x hx
    unfold dp_; simp; omega)
  have f1 : s1_ n g c = 0 := by have := m3 (1, 0, 0, 0); rw [sm_dp] at this; unfold dp_ at this; unfold s1_; simp at this; omega
  have f2 : s2_ n g c = 0 := by have := m3 (0, 1, 0, 0); rw [sm_dp] at this; unfold dp_ at this; unfold s2_; simp at this; omega
  have f3 : s3_ n g c = 0 := by have := m3 (0, 0, 1, 0); rw [sm_dp] at this; unfold dp_ at this; unfold s3_; simp at this; omega
  have f4 : s4_ n g c < 0 := by have := m3 (0, 0, 0, 1); rw [sm_dp] at this; unfold dp_ at this; unfold s4_; simp at this; omega
  obtain ⟨L, l1, l2, l3, l4⟩ := least2_ (cz_ c n) c (Nat.le_refl _) m2 ⟨f1, f2, f3⟩ f4
  have lp : ∀ i, i < n → L i ≠ 0 → 0 < L i := fun i hi hz => by have := l1 i hi; omega
  have hind : ∀ r, r < n → L r ≠ 0 → ind_ n g (fun p => L p ≠ 0 ∧ p ≠ r) := fun r hr hr0 c hc hd => l4 c (fun i hi hz => hc i hi (fun y => y.1 hz)) hd ⟨r, hr, hr0, hc r hr (fun y => y.2 rfl)⟩
  obtain ⟨d1, d2, d3⟩ := l2
  rcases nxp_ (fun p => L p ≠ 0) n 0 with ⟨i, -, i2, i3, i4⟩ | no
  · rcases nxp_ (fun p => L p ≠ 0) n (i + 1) with ⟨j, j1, j2, j3, j4⟩ | no
    · right
      rcases nxp_ (fun p => L p ≠ 0) n (j + 1) with ⟨k, k1, k2, k3, k4⟩ | no
      · right
        rcases nxp_ (fun p => L p ≠ 0) n (k + 1) with ⟨l, o1, o2, o3, o4⟩ | no
        · right
          rcases nxp_ (fun p => L p ≠ 0) n (l + 1) with ⟨r, r1, r2, r3, r4⟩ | no
          · exact (i4_ (hind r r2 r3) i2 ⟨i3, by omega⟩ j2 ⟨j3, by omega⟩ k2 ⟨k3, by omega⟩ o2 ⟨o3, by omega⟩ (by omega) (by omega) (by omega) (by omega) (by omega) (by omega)).elim
          · have fw : ∀ p, p < n → L p = q4_ i j k l (L i) (L j) (L k) (L l) p := by
              intro p hp
              unfold q4_
              by_cases e1 : p = i
              · subst e1; rw [if_pos rfl, if_neg (by omega), if_neg (by omega), if_neg (by omega)]; omega
              · by_cases e2 : p = j
                · subst e2; rw [if_neg e1, if_pos rfl, if_neg (by omega), if_neg (by omega)]; omega
                · by_cases e3 : p = k
                  · subst e3; rw [if_neg e1, if_neg e2, if_pos rfl, if_neg (by omega)]; omega
                  · by_cases e4 : p = l
                    · subst e4; rw [if_neg e1, if_neg e2, if_neg e3, if_pos rfl]; omega
                    · rw [if_neg e1, if_neg e2, if_neg e3, if_neg e4]
                      have : L p = 0 := Classical.byContradiction fun z => by
                        by_cases a1 : p < i
                        · exact i4 p (by omega) a1 z
                        · by_cases a2 : p < j
                          · exact j4 p (by omega) a2 z
                          · by_cases a3 : p < k
                            · exact k4 p (by omega) a3 z
                            · by_cases a4 : p < l
                              · exact o4 p (by omega) a4 z
                              · exact no p (by omega) hp z
                      omega
            unfold s1_ at d1; rw [few_ i2 j2 k2 o2 fw] at d1
            unfold s2_ at d2; rw [few_ i2 j2 k2 o2 fw] at d2
            unfold s3_ at d3; rw [few_ i2 j2 k2 o2 fw] at d3
            unfold s4_ at l3; rw [few_ i2 j2 k2 o2 fw] at l3
            exact ⟨i, j, k, l, L i, L j, L k, L l, by omega, by omega, by omega, o2, lp i i2 i3, lp j j2 j3, lp k k2 k3, lp l o2 o3, i3_ (hind l o2 o3) i2 ⟨i3, by omega⟩ j2 ⟨j3, by omega⟩ k2 ⟨k3, by omega⟩ (by omega) (by omega) (by omega), d1, d2, d3, l3⟩
        · left
          have fw : ∀ p, p < n → L p = q4_ i j k k (L i) (L j) (L k) 0 p := by
            intro p hp
            unfold q4_
            by_cases e1 : p = i
            · subst e1; rw [if_pos rfl, if_neg (by omega), if_neg (by omega), if_neg (by omega)]; omega
            · by_cases e2 : p = j
              · subst e2; rw [if_neg e1, if_pos rfl, if_neg (by omega), if_neg (by omega)]; omega
              · by_cases e3 : p = k
                · subst e3; rw [if_neg e1, if_neg e2, if_pos rfl, if_pos rfl]; omega
                · rw [if_neg e1, if_neg e2, if_neg e3, if_neg e3]
                  have : L p = 0 := Classical.byContradiction fun z => by
                    by_cases a1 : p < i
                    · exact i4 p (by omega) a1 z
                    · by_cases a2 : p < j
                      · exact j4 p (by omega) a2 z
                      · by_cases a3 : p < k
                        · exact k4 p (by omega) a3 z
                        · exact no p (by omega) hp z
                  omega
          unfold s1_ at d1; rw [few_ i2 j2 k2 k2 fw] at d1
          unfold s2_ at d2; rw [few_ i2 j2 k2 k2 fw] at d2
          unfold s3_ at d3; rw [few_ i2 j2 k2 k2 fw] at d3
          unfold s4_ at l3; rw [few_ i2 j2 k2 k2 fw] at l3
          exact ⟨i, j, k, L i, L j, L k, by omega, by omega, k2, lp i i2 i3, lp j j2 j3, lp k k2 k3, i2_ (hind k k2 k3) i2 ⟨i3, by omega⟩ j2 ⟨j3, by omega⟩ (by omega), by omega, by omega, by omega, by omega⟩
      · left
        have fw : ∀ p, p < n → L p = q4_ i j j j (L i) (L j) 0 0 p := by
          intro p hp
          unfold q4_
          by_cases e1 : p = i
          · subst e1; rw [if_pos rfl, if_neg (by omega), if_neg (by omega)]; omega
          · by_cases e2 : p = j
            · subst e2; rw [if_neg e1, if_pos rfl, if_pos rfl]; omega
            · rw [if_neg e1, if_neg e2, if_neg e2]
              have : L p = 0 := Classical.byContradiction fun z => by
                by_cases a1 : p < i
                · exact i4 p (by omega) a1 z
                · by_cases a2 : p < j
                  · exact j4 p (by omega) a2 z
                  · exact no p (by omega) hp z
              omega
        unfold s1_ at d1; rw [few_ i2 j2 j2 j2 fw] at d1
        unfold s2_ at d2; rw [few_ i2 j2 j2 j2 fw] at d2
        unfold s3_ at d3; rw [few_ i2 j2 j2 j2 fw] at d3
        unfold s4_ at l3; rw [few_ i2 j2 j2 j2 fw] at l3
        exact ⟨i, j, L i, L j, by omega, j2, lp i i2 i3, lp j j2 j3, i1_ (hind j j2 j3) i2 ⟨i3, by omega⟩, by omega, by omega, by omega, by omega⟩
    · left
      have fw : ∀ p, p < n → L p = q4_ i i i i (L i) 0 0 0 p := by
        intro p hp
        unfold q4_
        by_cases e1 : p = i
        · subst e1; rw [if_pos rfl, if_pos rfl]; omega
        · rw [if_neg e1, if_neg e1]
          have : L p = 0 := Classical.byContradiction fun z => by
            by_cases a1 : p < i
            · exact i4 p (by omega) a1 z
            · exact no p (by omega) hp z
          omega
      unfold s1_ at d1; rw [few_ i2 i2 i2 i2 fw] at d1
      unfold s2_ at d2; rw [few_ i2 i2 i2 i2 fw] at d2
      unfold s3_ at d3; rw [few_ i2 i2 i2 i2 fw] at d3
      unfold s4_ at l3; rw [few_ i2 i2 i2 i2 fw] at l3
      have li := lp i i2 i3
      have nz : ∀ w : Int, L i * w = 0 → w = 0 := fun w hw => by
        rcases Int.mul_eq_zero.mp hw with q | q
        · omega
        · exact q
      refine ⟨i, i2, nz _ (by omega), nz _ (by omega), nz _ (by omega), ?_⟩
      apply Classical.byContradiction
      intro q
      have := Int.mul_nonneg (Int.le_of_lt li) (show 0 ≤ (g i).2.2.2 by omega)
      omega
  · have z : s4_ n g L = 0 := by
      unfold s4_
      rw [sm_c (c' := fun _ => 0 * 0 + 0 * 0) (t' := fun i => (g i).2.2.2) n (fun p hp => ⟨Classical.byContradiction fun z => no p (by omega) hp z, rfl⟩), sm_l 0 (fun _ => 0) 0 (fun _ => 0)]
      omega
    omega
