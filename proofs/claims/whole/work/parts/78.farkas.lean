/-! sums, and FARKAS by Bartl's induction -/
def sm_ : Nat → (Nat → Int) → (Nat → Int) → Int
  | 0, _, _ => 0
  | k + 1, c, t => sm_ k c t + c k * t k
theorem sm_s (k : Nat) (c t : Nat → Int) : sm_ (k + 1) c t = sm_ k c t + c k * t k := rfl
theorem sm_c {c c' t t' : Nat → Int} : ∀ k, (∀ i, i < k → c i = c' i ∧ t i = t' i) → sm_ k c t = sm_ k c' t'
  | 0, _ => rfl
  | k + 1, h => by
    unfold sm_
    rw [sm_c k (fun i hi => h i (by omega)), (h k (by omega)).1, (h k (by omega)).2]
theorem sm_l (s : Int) (c : Nat → Int) (u : Int) (e : Nat → Int) (t : Nat → Int) : ∀ k, sm_ k (fun i => s * c i + u * e i) t = s * sm_ k c t + u * sm_ k e t
  | 0 => by unfold sm_; omega
  | k + 1 => by
    unfold sm_
    rw [sm_l s c u e t k]
    grind
theorem sm_r (c t t' : Nat → Int) (s u : Int) : ∀ k, sm_ k c (fun i => s * t i + u * t' i) = s * sm_ k c t + u * sm_ k c t'
  | 0 => by unfold sm_; omega
  | k + 1 => by
    unfold sm_
    rw [sm_r c t t' s u k]
    grind
theorem sm_n {c t : Nat → Int} : ∀ k, (∀ i, i < k → 0 ≤ c i) → (∀ i, i < k → 0 ≤ t i) → 0 ≤ sm_ k c t
  | 0, _, _ => Int.le_refl 0
  | k + 1, h1, h2 => by
    unfold sm_
    have a := sm_n k (fun i hi => h1 i (by omega)) (fun i hi => h2 i (by omega))
    have b := Int.mul_nonneg (h1 k (by omega)) (h2 k (by omega))
    omega
theorem sm_dp (c : Nat → Int) (g : Nat → V4_) (x : V4_) : ∀ k, sm_ k c (fun i => dp_ (g i) x) = sm_ k c (fun i => (g i).1) * x.1 + sm_ k c (fun i => (g i).2.1) * x.2.1 + sm_ k c (fun i => (g i).2.2.1) * x.2.2.1 + sm_ k c (fun i => (g i).2.2.2) * x.2.2.2
  | 0 => by unfold sm_; omega
  | k + 1 => by
    unfold sm_
    rw [sm_dp c g x k]
    unfold dp_
    grind
theorem fk_ : ∀ (k : Nat) (A : Nat → V4_) (γ : V4_), (∀ x, (∀ i, i < k → 0 ≤ dp_ (A i) x) → 0 ≤ dp_ γ x) → ∃ (μ : Int) (c : Nat → Int), 0 < μ ∧ (∀ i, i < k → 0 ≤ c i) ∧ ∀ x, μ * dp_ γ x = sm_ k c (fun i => dp_ (A i) x)
  | 0, A, γ, h => by
    refine ⟨1, fun _ => 0, by omega, fun i hi => absurd hi (by omega), fun x => ?_⟩
    have a := h x (fun i hi => absurd hi (by omega))
    have b := h (ng_ x) (fun i hi => absurd hi (by omega))
    rw [dp_c, dp_ng, dp_c] at b
    unfold sm_
    omega
  | k + 1, A, γ, h => by
    by_cases hk : ∀ x, (∀ i, i < k → 0 ≤ dp_ (A i) x) → 0 ≤ dp_ γ x
    · obtain ⟨μ, c, h1, h2, h3⟩ := fk_ k A γ hk
      refine ⟨μ, fun i => if i < k then c i else 0, h1, fun i hi => ?_, fun x => ?_⟩
      · show 0 ≤ if i < k then c i else 0
        split
        · exact h2 i (by assumption)
        · omega
      · rw [h3 x, sm_s, sm_c (c' := c) (t' := fun i => dp_ (A i) x) k (fun i hi => ⟨if_pos hi, rfl⟩)]
        rw [if_neg (show ¬ k < k by omega)]
        omega
    · have ex : ∃ x, (∀ i, i < k → 0 ≤ dp_ (A i) x) ∧ dp_ γ x < 0 := by
        apply Classical.byContradiction
        intro no
        apply hk
        intro x hx
        apply Classical.byContradiction
        intro z
        exact no ⟨x, hx, by omega⟩
      obtain ⟨x1, y1, y2⟩ := ex
      have s0 : dp_ (A k) x1 < 0 := by
        apply Classical.byContradiction
        intro z
        have := h x1 (fun i hi => by
          by_cases e : i = k
          · rw [e]; omega
          · exact y1 i (by omega))
        omega
      have dl : ∀ (a x : V4_), dp_ (lc_ (-dp_ (A k) x1) a (dp_ a x1) (A k)) x = dp_ a (lc_ (-dp_ (A k) x1) x (dp_ (A k) x) x1) := by
        intro a x
        rw [dp_lc, dp_c, dp_lc, dp_c x a, dp_c x (A k)]
        grind
      obtain ⟨μ, c, h1, h2, h3⟩ := fk_ k (fun i => lc_ (-dp_ (A k) x1) (A i) (dp_ (A i) x1) (A k)) (lc_ (-dp_ (A k) x1) γ (dp_ γ x1) (A k)) (fun x hx => by
        rw [dl]
        apply h
        intro i hi
        by_cases e : i = k
        · rw [e, dp_lc]
          have : -dp_ (A k) x1 * dp_ (A k) x + dp_ (A k) x * dp_ (A k) x1 = 0 := by grind
          omega
        · rw [← dl]; exact hx i (by omega))
      have p1 := sm_n (c := c) (t := fun i => dp_ (A i) x1) k h2 y1
      have p2 := Int.mul_pos h1 (show 0 < -dp_ γ x1 by omega)
      refine ⟨μ * -dp_ (A k) x1, fun i => if i < k then c i * -dp_ (A k) x1 else sm_ k c (fun i => dp_ (A i) x1) - μ * dp_ γ x1, Int.mul_pos h1 (by omega), fun i hi => ?_, fun x => ?_⟩
      · show 0 ≤ if i < k then c i * -dp_ (A k) x1 else sm_ k c (fun i => dp_ (A i) x1) - μ * dp_ γ x1
        split
        · exact Int.mul_nonneg (h2 i (by assumption)) (by omega)
        · have : μ * -dp_ γ x1 = -(μ * dp_ γ x1) := by grind
          omega
      · have e := h3 x
        rw [dp_c, dp_lc, dp_c x γ, dp_c x (A k)] at e
        have e2 : sm_ k c (fun i => dp_ (lc_ (-dp_ (A k) x1) (A i) (dp_ (A i) x1) (A k)) x) = -dp_ (A k) x1 * sm_ k c (fun i => dp_ (A i) x) + dp_ (A k) x * sm_ k c (fun i => dp_ (A i) x1) := by
          rw [← sm_r]
          refine sm_c k (fun i hi => ⟨rfl, ?_⟩)
          rw [dp_c, dp_lc, dp_c x (A i), dp_c x (A k)]
          grind
        rw [e2] at e
        rw [sm_s]
        rw [if_neg (show ¬ k < k by omega)]
        have e3 : sm_ k (fun i => if i < k then c i * -dp_ (A k) x1 else sm_ k c (fun i => dp_ (A i) x1) - μ * dp_ γ x1) (fun i => dp_ (A i) x) = -dp_ (A k) x1 * sm_ k c (fun i => dp_ (A i) x) := by
          rw [sm_c (c' := fun i => -dp_ (A k) x1 * c i + 0 * c i) (t' := fun i => dp_ (A i) x) k (fun i hi => ⟨by rw [if_pos hi]; grind, rfl⟩), sm_l]
          omega
        rw [e3]
        grind
