/-! runs as rows of points, in general -/
abbrev T_ := Int64 × Int64 × Int64
def nx_ (S : T_ → Option (Option T_)) : Option T_ → Option T_
  | none => none
  | some y => match S y with
    | some (some t) => some t
    | _ => none
def ob_ (S : T_ → Option (Option T_)) (X : T_) : Nat → Option T_
  | 0 => some X
  | k + 1 => nx_ S (ob_ S X k)
section OB_
variable {S : T_ → Option (Option T_)} {X : T_}
theorem ob_mono : ∀ (s k : Nat), ob_ S X k = none → ob_ S X (k + s) = none
  | 0, k, h => h
  | s + 1, k, h => by
    show nx_ S (ob_ S X (k + s)) = none
    rw [ob_mono s k h]; rfl
theorem ob_nn {i k : Nat} (h : ob_ S X i ≠ none) (hk : k ≤ i) : ob_ S X k ≠ none := fun q => h (by
  have := ob_mono (i - k) k q
  rwa [show k + (i - k) = i by omega] at this)
theorem ob_sh {i j : Nat} (h : ob_ S X i = ob_ S X j) : ∀ s, ob_ S X (i + s) = ob_ S X (j + s)
  | 0 => h
  | s + 1 => by
    show nx_ S (ob_ S X (i + s)) = nx_ S (ob_ S X (j + s))
    rw [ob_sh h s]
theorem ob_inf {i j : Nat} (hij : i < j) (h : ob_ S X i = ob_ S X j) (hn : ob_ S X i ≠ none) : ∀ k, ob_ S X k ≠ none := by
  intro k
  induction k using Nat.strongRecOn with
  | _ k ih =>
    by_cases hk : k ≤ j
    · exact ob_nn (by rw [← h]; exact hn) hk
    · have e := ob_sh h (k - j)
      rw [show j + (k - j) = k by omega] at e
      rw [← e]
      exact ih (i + (k - j)) (by omega)
theorem ob_fail {K : Nat} {y : T_} (h : ob_ S X K = some y) (hS : ∀ t, S y ≠ some (some t)) : ob_ S X (K + 1) = none := by
  show nx_ S (ob_ S X K) = none
  rw [h]
  show (match S y with | some (some t) => some t | _ => none) = none
  cases e : S y with
  | none => rfl
  | some o =>
    cases o with
    | none => rfl
    | some t => exact absurd e (hS t)
theorem ob_per {μ l i j : Nat} (hl : 1 ≤ l) (h : ob_ S X μ = ob_ S X (μ + l)) (hd : ∀ i j, i < j → j < μ + l → ob_ S X i ≠ ob_ S X j) : i < j → ob_ S X i = ob_ S X j → μ ≤ i ∧ ∃ c, 1 ≤ c ∧ j = i + c * l := by
  induction j using Nat.strongRecOn generalizing i with
  | _ j ih =>
    intro hij e
    by_cases hj : j < μ + l
    · exact absurd e (hd i j hij hj)
    · have e1 := ob_sh h (j - l - μ)
      rw [show μ + (j - l - μ) = j - l by omega, show μ + l + (j - l - μ) = j by omega] at e1
      rcases Nat.lt_trichotomy i (j - l) with q | q | q
      · obtain ⟨a, c, c1, c2⟩ := ih (j - l) (by omega) q (e.trans e1.symm)
        refine ⟨a, c + 1, by omega, ?_⟩
        rw [Nat.add_mul]
        omega
      · exact ⟨by omega, 1, by omega, by omega⟩
      · obtain ⟨a, c, c1, c2⟩ := ih i hij q (e1.trans e.symm)
        have : 1 * l ≤ c * l := Nat.mul_le_mul_right l c1
        omega
theorem ob_len {μ l M r : Nat} (hl : 1 ≤ l) (hr : 1 ≤ r) (h : ob_ S X μ = ob_ S X (μ + l)) (hd : ∀ i j, i < j → j < μ + l → ob_ S X i ≠ ob_ S X j) (hM : ob_ S X (M + r) = ob_ S X M) (hmin : ∀ s, 0 < s → s < r → ob_ S X (M + s) ≠ ob_ S X M) : r = l := by
  obtain ⟨a, c, c1, c2⟩ := ob_per hl h hd (show M < M + r by omega) hM.symm
  have cl : r = c * l := by omega
  have e := ob_sh h (M - μ)
  rw [show μ + (M - μ) = M by omega, show μ + l + (M - μ) = M + l by omega] at e
  have : ¬ l < r := fun q => hmin l (by omega) q e.symm
  have : 1 * l ≤ c * l := Nat.mul_le_mul_right l c1
  omega
/-- what ring must answer, and what stands ahead of the ring -/
def rr_ (S : T_ → Option (Option T_)) (X : T_) (N : Nat) (r : Int32) (lead : Option Nat) : Prop := (∃ μ l, 1 ≤ l ∧ μ + l ≤ N ∧ ob_ S X μ = ob_ S X (μ + l) ∧ ob_ S X μ ≠ none ∧ (∀ i j, i < j → j < μ + l → ob_ S X i ≠ ob_ S X j) ∧ r = nI l ∧ lead = some μ) ∨ (∃ K y, K < N ∧ ob_ S X K = some y ∧ S y = none ∧ r = 0 ∧ lead = none) ∨ (∃ K y, K < N ∧ ob_ S X K = some y ∧ S y = some none ∧ r = -4 ∧ lead = none) ∨ (ob_ S X N ≠ none ∧ (∀ i j, i < j → j ≤ N → ob_ S X i ≠ ob_ S X j) ∧ r = 0 ∧ lead = none)
/-- what the first walk of the class finds -/
def lw_r (S : T_ → Option (Option T_)) (X : T_) (N : Nat) (r : Int32) : Prop := (∃ M l, 1 ≤ l ∧ l ≤ N ∧ ob_ S X (M + l) = ob_ S X M ∧ ob_ S X M ≠ none ∧ (∀ s, 0 < s → s < l → ob_ S X (M + s) ≠ ob_ S X M) ∧ r = nI l) ∨ (∃ K y, K < N ∧ ob_ S X K = some y ∧ S y = some none ∧ r = -4) ∨ (r = 0 ∧ ∃ K y, ob_ S X K = some y ∧ (S y = none ∨ (S y = some none ∧ N ≤ K))) ∨ (r = 0 ∧ ob_ S X (2 * N) ≠ none ∧ ∀ s, N < s → s ≤ 2 * N → ob_ S X s ≠ ob_ S X N)
/-- what the second walk finds -/
def ld_r (S : T_ → Option (Option T_)) (X : T_) (N l : Nat) (r : Int32) : Prop := (∃ t, t + l ≤ N ∧ ob_ S X (t + l) = ob_ S X t ∧ (∀ s, s < t → ob_ S X (s + l) ≠ ob_ S X s) ∧ r = nI t) ∨ ((∀ s, s + l ≤ N → ob_ S X (s + l) ≠ ob_ S X s) ∧ r = -1)
theorem ob_one {K K' : Nat} {y y' : T_} (h : ob_ S X K = some y) (h' : ob_ S X K' = some y') (f : ∀ t, S y ≠ some (some t)) (f' : ∀ t, S y' ≠ some (some t)) : K = K' ∧ y = y' := by
  have a := ob_fail h f
  have b := ob_fail h' f'
  have : K = K' := by
    rcases Nat.lt_trichotomy K K' with q | q | q
    · exact absurd a (ob_nn (i := K') (by rw [h']; exact fun z => by cases z) (by omega))
    · exact q
    · exact absurd b (ob_nn (i := K) (by rw [h]; exact fun z => by cases z) (by omega))
  subst this
  rw [h] at h'
  cases h'
  exact ⟨rfl, rfl⟩
theorem ob_all {N : Nat} {r : Int32} {lead : Option Nat} (h : rr_ S X N r lead) (k : Int32) (hk : lw_r S X N k) : (k = r ∧ lead = none ∧ ¬ 0 < k) ∨ (∃ l, 1 ≤ l ∧ l ≤ N ∧ k = nI l ∧ (∀ q, ob_ S X q ≠ none) ∧ ∀ z, ld_r S X N l z → (∃ μ, z = nI μ ∧ μ ≤ N ∧ r = nI l ∧ lead = some μ) ∨ (z = -1 ∧ r = 0 ∧ lead = none)) := by
  have nf : ∀ {y : T_}, S y = none → ∀ t, S y ≠ some (some t) := fun e t q => by rw [e] at q; cases q
  have nf2 : ∀ {y : T_}, S y = some none → ∀ t, S y ≠ some (some t) := fun e t q => by rw [e] at q; cases q
  rcases hk with ⟨M, l, l1, l2, e, nn, mi, rfl⟩ | ⟨K, y, K1, Ky, Ks, rfl⟩ | ⟨rfl, K, y, Ky, Ks⟩ | ⟨rfl, nn, no⟩
  · have inf := ob_inf (show M < M + l by omega) e.symm nn
    have nofail : ∀ (K : Nat) (y : T_), ob_ S X K = some y → (∀ t, S y ≠ some (some t)) → False := fun K y h1 h2 => inf (K + 1) (ob_fail h1 h2)
    right
    refine ⟨l, l1, l2, rfl, inf, fun z hz => ?_⟩
    rcases h with ⟨μ, l', a1, a2, a3, a4, a5, rfl, rfl⟩ | ⟨K, y, -, b2, b3, -, -⟩ | ⟨K, y, -, b2, b3, -, -⟩ | ⟨b1, b2, rfl, rfl⟩
    · obtain rfl : l = l' := ob_len a1 l1 a3 a5 e mi
      left
      rcases hz with ⟨t, t1, t2, t3, rfl⟩ | ⟨t1, rfl⟩
      · refine ⟨μ, ?_, by omega, rfl, rfl⟩
        have c1 : ¬ t < μ := fun q => a5 t (t + l) (by omega) (by omega) t2.symm
        have c2 : ¬ μ < t := fun q => t3 μ q a3.symm
        rw [show t = μ by omega]
      · exact absurd a3.symm (t1 μ a2)
    · exact (nofail K y b2 (nf b3)).elim
    · exact (nofail K y b2 (nf2 b3)).elim
    · right
      rcases hz with ⟨t, t1, t2, t3, rfl⟩ | ⟨t1, rfl⟩
      · exact absurd t2.symm (b2 t (t + l) (by omega) t1)
      · exact ⟨rfl, rfl, rfl⟩
  · left
    rcases h with ⟨μ, l', a1, a2, a3, a4, a5, rfl, rfl⟩ | ⟨K', y', b1, b2, b3, rfl, rfl⟩ | ⟨K', y', b1, b2, b3, rfl, rfl⟩ | ⟨b1, b2, rfl, rfl⟩
    · exact absurd (ob_fail Ky (nf2 Ks)) (ob_inf (show μ < μ + l' by omega) a3 a4 _)
    · obtain ⟨rfl, rfl⟩ := ob_one Ky b2 (nf2 Ks) (nf b3)
      rw [Ks] at b3; cases b3
    · exact ⟨rfl, rfl, by decide⟩
    · exact absurd (ob_fail Ky (nf2 Ks)) (ob_nn b1 (by omega))
  · left
    have fl : ∀ t, S y ≠ some (some t) := by
      rcases Ks with q | q
      · exact nf q
      · exact nf2 q.1
    rcases h with ⟨μ, l', a1, a2, a3, a4, a5, rfl, rfl⟩ | ⟨K', y', b1, b2, b3, rfl, rfl⟩ | ⟨K', y', b1, b2, b3, rfl, rfl⟩ | ⟨b1, b2, rfl, rfl⟩
    · exact absurd (ob_fail Ky fl) (ob_inf (show μ < μ + l' by omega) a3 a4 _)
    · exact ⟨rfl, rfl, by decide⟩
    · obtain ⟨rfl, rfl⟩ := ob_one Ky b2 fl (nf2 b3)
      rcases Ks with q | q
      · rw [q] at b3; cases b3
      · omega
    · exact ⟨rfl, rfl, by decide⟩
  · left
    rcases h with ⟨μ, l', a1, a2, a3, a4, a5, rfl, rfl⟩ | ⟨K', y', b1, b2, b3, rfl, rfl⟩ | ⟨K', y', b1, b2, b3, rfl, rfl⟩ | ⟨b1, b2, rfl, rfl⟩
    · have e := ob_sh a3 (N - μ)
      rw [show μ + (N - μ) = N by omega, show μ + l' + (N - μ) = N + l' by omega] at e
      exact absurd e.symm (no (N + l') (by omega) (by omega))
    · exact ⟨rfl, rfl, by decide⟩
    · exact absurd (ob_fail b2 (nf2 b3)) (ob_nn nn (by omega))
    · exact ⟨rfl, rfl, by decide⟩
end OB_
