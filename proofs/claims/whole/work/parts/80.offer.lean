/-! at most three, at most four -/
def q4_ (i j k l : Nat) (α β γ δ : Int) : Nat → Int := fun p => (if p = i then α else 0) + (if p = j then β else 0) + (if p = k then γ else 0) + (if p = l then δ else 0)
theorem sm_one (i : Nat) (α : Int) (t : Nat → Int) : ∀ n, sm_ n (fun p => if p = i then α else 0) t = if i < n then α * t i else 0
  | 0 => rfl
  | n + 1 => by
    rw [sm_s, sm_one i α t n]
    by_cases h : n = i
    · subst h
      rw [if_neg (by omega), if_pos (show n < n + 1 by omega), if_pos rfl]; omega
    · rw [if_neg h]
      by_cases q : i < n
      · rw [if_pos q, if_pos (show i < n + 1 by omega)]; omega
      · rw [if_neg q, if_neg (show ¬ i < n + 1 by omega)]; omega
theorem sm_ad (c e t : Nat → Int) : ∀ n, sm_ n (fun p => c p + e p) t = sm_ n c t + sm_ n e t
  | 0 => rfl
  | n + 1 => by
    rw [sm_s, sm_s, sm_s, sm_ad c e t n]
    grind
theorem sm_q4 {n i j k l : Nat} (hi : i < n) (hj : j < n) (hk : k < n) (hl : l < n) (α β γ δ : Int) (t : Nat → Int) : sm_ n (q4_ i j k l α β γ δ) t = α * t i + β * t j + γ * t k + δ * t l := by
  unfold q4_
  rw [sm_ad (fun p => (if p = i then α else 0) + (if p = j then β else 0) + (if p = k then γ else 0)) (fun p => if p = l then δ else 0), sm_ad (fun p => (if p = i then α else 0) + (if p = j then β else 0)) (fun p => if p = k then γ else 0), sm_ad (fun p => if p = i then α else 0) (fun p => if p = j then β else 0), sm_one, sm_one, sm_one, sm_one, if_pos hi, if_pos hj, if_pos hk, if_pos hl]
def ind_ (n : Nat) (g : Nat → V4_) (S : Nat → Prop) : Prop := ∀ c : Nat → Int, (∀ p, p < n → ¬ S p → c p = 0) → dep_ n g c → ∀ p, p < n → c p = 0
theorem q4_s {n i j k l : Nat} {S : Nat → Prop} (hi : S i) (hj : S j) (hk : S k) (hl : S l) (α β γ δ : Int) : ∀ p, p < n → ¬ S p → q4_ i j k l α β γ δ p = 0 := by
  intro p _ hp
  unfold q4_
  rw [if_neg (fun z => hp (by rw [z]; exact hi)), if_neg (fun z => hp (by rw [z]; exact hj)), if_neg (fun z => hp (by rw [z]; exact hk)), if_neg (fun z => hp (by rw [z]; exact hl))]
  rfl
theorem q4_d {n i j k l : Nat} {g : Nat → V4_} (hi : i < n) (hj : j < n) (hk : k < n) (hl : l < n) {α β γ δ : Int} (h1 : α * (g i).1 + β * (g j).1 + γ * (g k).1 + δ * (g l).1 = 0) (h2 : α * (g i).2.1 + β * (g j).2.1 + γ * (g k).2.1 + δ * (g l).2.1 = 0) (h3 : α * (g i).2.2.1 + β * (g j).2.2.1 + γ * (g k).2.2.1 + δ * (g l).2.2.1 = 0) : dep_ n g (q4_ i j k l α β γ δ) := by
  unfold dep_ s1_ s2_ s3_
  rw [sm_q4 hi hj hk hl, sm_q4 hi hj hk hl, sm_q4 hi hj hk hl]
  exact ⟨h1, h2, h3⟩
theorem i1_ {n i : Nat} {g : Nat → V4_} {S : Nat → Prop} (h : ind_ n g S) (hi : i < n) (si : S i) : ¬ ((g i).1 = 0 ∧ (g i).2.1 = 0 ∧ (g i).2.2.1 = 0) := by
  rintro ⟨z1, z2, z3⟩
  have := h (q4_ i i i i 1 0 0 0) (q4_s si si si si _ _ _ _) (q4_d hi hi hi hi (by rw [z1]; omega) (by rw [z2]; omega) (by rw [z3]; omega)) i hi
  unfold q4_ at this
  simp at this
theorem i2_ {n i j : Nat} {g : Nat → V4_} {S : Nat → Prop} (h : ind_ n g S) (hi : i < n) (si : S i) (hj : j < n) (sj : S j) (hij : i ≠ j) : cx_ (g i) (g j) ≠ z4_ := by
  intro z
  simp only [cx_, z4_, Prod.mk.injEq] at z
  obtain ⟨z1, z2, z3, -⟩ := z
  apply i1_ h hi si
  have at_ : ∀ α β : Int, dep_ n g (q4_ i j i i α β 0 0) → β = 0 := by
    intro α β hd
    have := h _ (q4_s si sj si si α β 0 0) hd j hj
    unfold q4_ at this
    rw [if_neg (Ne.symm hij), if_neg (Ne.symm hij), if_pos rfl] at this
    omega
  refine ⟨?_, ?_, ?_⟩
  · have := at_ (g j).1 (-(g i).1) (q4_d hi hj hi hi (by grind) (by grind) (by grind)); omega
  · have := at_ (g j).2.1 (-(g i).2.1) (q4_d hi hj hi hi (by grind) (by grind) (by grind)); omega
  · have := at_ (g j).2.2.1 (-(g i).2.2.1) (q4_d hi hj hi hi (by grind) (by grind) (by grind)); omega
theorem i3_ {n i j k : Nat} {g : Nat → V4_} {S : Nat → Prop} (h : ind_ n g S) (hi : i < n) (si : S i) (hj : j < n) (sj : S j) (hk : k < n) (sk : S k) (hij : i ≠ j) (hik : i ≠ k) (hjk : j ≠ k) : d3_ (g i) (g j) (g k) ≠ 0 := by
  intro z
  apply i2_ h hi si hj sj hij
  unfold d3_ cx_ at z
  have at_ : ∀ α β γ : Int, dep_ n g (q4_ i j k i α β γ 0) → γ = 0 := by
    intro α β γ hd
    have := h _ (q4_s si sj sk si α β γ 0) hd k hk
    unfold q4_ at this
    rw [if_neg (Ne.symm hik), if_neg (Ne.symm hjk), if_pos rfl, if_neg (Ne.symm hik)] at this
    omega
  unfold z4_
  have a1 := at_ (cx_ (g j) (g k)).1 (cx_ (g k) (g i)).1 (cx_ (g i) (g j)).1 (q4_d hi hj hk hi (by unfold cx_; grind) (by unfold cx_; grind) (by unfold cx_; grind))
  have a2 := at_ (cx_ (g j) (g k)).2.1 (cx_ (g k) (g i)).2.1 (cx_ (g i) (g j)).2.1 (q4_d hi hj hk hi (by unfold cx_; grind) (by unfold cx_; grind) (by unfold cx_; grind))
  have a3 := at_ (cx_ (g j) (g k)).2.2.1 (cx_ (g k) (g i)).2.2.1 (cx_ (g i) (g j)).2.2.1 (q4_d hi hj hk hi (by unfold cx_; grind) (by unfold cx_; grind) (by unfold cx_; grind))
  exact v4_ext a1 a2 a3 rfl
theorem i4_ {n i j k l : Nat} {g : Nat → V4_} {S : Nat → Prop} (h : ind_ n g S) (hi : i < n) (si : S i) (hj : j < n) (sj : S j) (hk : k < n) (sk : S k) (hl : l < n) (sl : S l) (hij : i ≠ j) (hik : i ≠ k) (hjk : j ≠ k) (hil : i ≠ l) (hjl : j ≠ l) (hkl : k ≠ l) : False := by
  apply i3_ h hi si hj sj hk sk hij hik hjk
  have hd : dep_ n g (q4_ i j k l (d3_ (g j) (g k) (g l)) (-d3_ (g i) (g k) (g l)) (d3_ (g i) (g j) (g l)) (-d3_ (g i) (g j) (g k))) := q4_d hi hj hk hl (by unfold d3_ cx_; grind) (by unfold d3_ cx_; grind) (by unfold d3_ cx_; grind)
  have := h _ (q4_s si sj sk sl _ _ _ _) hd l hl
  unfold q4_ at this
  rw [if_neg (Ne.symm hil), if_neg (Ne.symm hjl), if_neg (Ne.symm hkl), if_pos rfl] at this
  omega
theorem fst_ (S : Nat → Prop) : ∀ (d b : Nat), (∃ p, b ≤ p ∧ p < b + d ∧ S p) → ∃ p, b ≤ p ∧ p < b + d ∧ S p ∧ ∀ q, b ≤ q → q < p → ¬ S q
  | 0, b, h => by obtain ⟨p, h1, h2, _⟩ := h; omega
  | d + 1, b, h => by
    by_cases hb : S b
    · exact ⟨b, by omega, by omega, hb, fun q h1 h2 => by omega⟩
    · obtain ⟨p, h1, h2, h3⟩ := h
      obtain ⟨p', k1, k2, k3, k4⟩ := fst_ S d (b + 1) ⟨p, by
        by_cases e : p = b
        · rw [e] at h3; exact absurd h3 hb
        · omega, by omega, h3⟩
      refine ⟨p', by omega, by omega, k3, fun q q1 q2 => ?_⟩
      by_cases e : q = b
      · rw [e]; exact hb
      · exact k4 q (by omega) q2
/-- the next of them, or none -/
theorem nxp_ (S : Nat → Prop) (n b : Nat) : (∃ p, b ≤ p ∧ p < n ∧ S p ∧ ∀ q, b ≤ q → q < p → ¬ S q) ∨ ∀ q, b ≤ q → q < n → ¬ S q := by
  by_cases h : ∃ p, b ≤ p ∧ p < n ∧ S p
  · left
    obtain ⟨p, h1, h2, h3⟩ := h
    obtain ⟨p', k1, k2, k3, k4⟩ := fst_ S (n - b) b ⟨p, h1, by omega, h3⟩
    exact ⟨p', k1, by omega, k3, k4⟩
  · right
    exact fun q h1 h2 h3 => h ⟨q, h1, h2, h3⟩
/-- a sum over few -/
theorem few_ {n i j k l : Nat} (hi : i < n) (hj : j < n) (hk : k < n) (hl : l < n) {L : Nat → Int} {α β γ δ : Int} (h : ∀ p, p < n → L p = q4_ i j k l α β γ δ p) (t : Nat → Int) : sm_ n L t = α * t i + β * t j + γ * t k + δ * t l := by
  rw [sm_c (c' := q4_ i j k l α β γ δ) (t' := t) n (fun p hp => ⟨h p hp, rfl⟩), sm_q4 hi hj hk hl]
/-- the LEAST is offered -/
theorem offered_ {n : Nat} {g : Nat → V4_} {w1 w2 w3 v : Int} (hne : ∃ q : V4_, 0 < q.2.2.2 ∧ ∀ i, i < n → 0 ≤ dp_ (g i) q) (hlb : ∀ x : V4_, (∀ i, i < n → 0 ≤ dp_ (g i) x) → 0 ≤ x.2.2.2 → 0 ≤ dp_ (w1, w2, w3, -v) x) : ∃ μ : Int, 0 < μ ∧ ((w1 = 0 ∧ w2 = 0 ∧ w3 = 0 ∧ v ≤ 0) ∨ (∃ i α, i < n ∧ 0 < α ∧ ¬ ((g i).1 = 0 ∧ (g i).2.1 = 0 ∧ (g i).2.2.1 = 0) ∧ μ * w1 = α * (g i).1 ∧ μ * w2 = α * (g i).2.1 ∧ μ * w3 = α * (g i).2.2.1 ∧ μ * v ≤ -(α * (g i).2.2.2)) ∨ (∃ i j α β, i < j ∧ j < n ∧ 0 < α ∧ 0 < β ∧ cx_ (g i) (g j) ≠ z4_ ∧ μ * w1 = α * (g i).1 + β * (g j).1 ∧ μ * w2 = α * (g i).2.1 + β * (g j).2.1 ∧ μ * w3 = α * (g i).2.2.1 + β * (g j).2.2.1 ∧ μ * v ≤ -(α * (g i).2.2.2 + β * (g j).2.2.2)) ∨ (∃ i j k α β γ, i < j ∧ j < k ∧ k < n ∧ 0 < α ∧ 0 < β ∧ 0 < γ ∧ d3_ (g i) (g j) (g k) ≠ 0 ∧ μ * w1 = α * (g i).1 + β * (g j).1 + γ * (g k).1 ∧ μ * w2 = α * (g i).2.1 + β * (g j).2.1 + γ * (g k).2.1 ∧ μ * w3 = α * (g i).2.2.1 + β * (g j).2.2.1 + γ * (g k).2.2.1 ∧ μ * v ≤ -(α * (g i).2.2.2 + β * (g j).2.2.2 + γ * (g k).2.2.2))) := by
  obtain ⟨μ, c, m1, m2, m3⟩ := fk_ (n + 1) (fun i => if i < n then g i else e3_) (w1, w2, w3, -v) (fun x hx => by
    refine hlb x (fun i hi => ?_) ?_
    · have := hx i (by omega)
      rw [if_pos hi] at this; exact this
    · have := hx n (by omega)
      rw [if_neg (by omega), dp_e3] at this; exact this)
  have m4 : ∀ x, μ * dp_ (w1, w2, w3, -v) x = sm_ n c (fun i => dp_ (g i) x) + c n * x.2.2.2 := by
    intro x
    rw [m3 x, sm_s, if_neg (show ¬ n < n by omega), dp_e3]
    rw [sm_c (c' := c) (t' := fun i => dp_ (g i) x) n (fun i hi => ⟨rfl, by rw [if_pos hi]⟩)]
  have cn := m2 n (by omega)
  have f1 : μ * w1 = s1_ n g c := by have := m4 (1, 0, 0, 0); rw [sm_dp] at this; unfold dp_ at this; unfold s1_; simp at this; omega
  have f2 : μ * w2 = s2_ n g c := by have := m4 (0, 1, 0, 0); rw [sm_dp] at this; unfold dp_ at this; unfold s2_; simp at this; omega
  have f3 : μ * w3 = s3_ n g c := by have := m4 (0, 0, 1, 0); rw [sm_dp] at this; unfold dp_ at this; unfold s3_; simp at this; omega
  have f4 : s4_ n g c ≤ -(μ * v) := by
    have := m4 (0, 0, 0, 1); rw [sm_dp] at this; unfold dp_ at this; unfold s4_; simp at this
    have e : μ * -v = -(μ * v) := by grind
    omega
  obtain ⟨L, s, l1, l2, l3, l4, l5, l6, l7⟩ := least1_ hne (cz_ c n) c (Nat.le_refl _) (fun i hi => m2 i (by omega))
  have hind : ind_ n g (fun p => L p ≠ 0) := fun c hc hd => l7 c (fun i hi hz => hc i hi (fun y => y hz)) hd
  have pm := Int.mul_pos l1 m1
  rw [← f1] at l3; rw [← f2] at l4; rw [← f3] at l5
  have l6' : s * μ * v ≤ -s4_ n g L := by
    have := Int.mul_le_mul_of_nonneg_left f4 (Int.le_of_lt l1)
    grind
  have l3' : s * μ * w1 = s1_ n g L := by rw [l3]; grind
  have l4' : s * μ * w2 = s2_ n g L := by rw [l4]; grind
  have l5' : s * μ * w3 = s3_ n g L := by rw [l5]; grind
  have lp : ∀ i, i < n → L i ≠ 0 → 0 < L i := fun i hi hz => by have := l2 i hi; omega
  refine ⟨s * μ, pm, ?_⟩
  rcases nxp_ (fun p => L p ≠ 0) n 0 with ⟨i, -, i2, i3, i4⟩ | no
  · right
    rcases nxp_ (fun p => L p ≠ 0) n (i + 1) with ⟨j, j1, j2, j3, j4⟩ | no
    · right
      rcases nxp_ (fun p => L p ≠ 0) n (j + 1) with ⟨k, k1, k2, k3, k4⟩ | no
      · right
        rcases nxp_ (fun p => L p ≠ 0) n (k + 1) with ⟨l, o1, o2, o3, o4⟩ | no
        · exact (i4_ hind i2 i3 j2 j3 k2 k3 o2 o3 (by omega) (by omega) (by omega) (by omega) (by omega) (by omega)).elim
        · have fw : ∀ p, p < n → L p = q4_ i j k k (L i) (L j) (L k) 0 p := by
            intro p hp
            unfold q4_
            by_cases e1 : p = i
            · subst e1; rw [if_pos rfl, if_neg (by omega), if_neg (by omega), if_neg (by omega)]; omega
            · by_cases e2 : p = j
              · subst e2; rw [if_neg e1, if_pos rfl, if_neg (by omega), if_neg (by omega)]; omega
              · by_cases e3 : p = k
                · subst e3; rw [if_neg e1, if_neg e2, if_pos rfl, if_pos rfl]; omega
                · rw [if_neg e1, if_neg e2, if_neg e3, if_neg e3]
                  have : L p = 0 := Classical.byContradiction fun z => by
                    by_cases a1 : p < i
                    · exact i4 p (by omega) a1 z
                    · by_cases a2 : p < j
                      · exact j4 p (by omega) a2 z
                      · by_cases a3 : p < k
                        · exact k4 p (by omega) a3 z
                        · exact no p (by omega) hp z
                  omega
          refine ⟨i, j, k, L i, L j, L k, by omega, by omega, k2, lp i i2 i3, lp j j2 j3, lp k k2 k3, i3_ hind i2 i3 j2 j3 k2 k3 (by omega) (by omega) (by omega), ?_, ?_, ?_, ?_⟩
          · rw [l3']; unfold s1_; rw [few_ i2 j2 k2 k2 fw]; omega
          · rw [l4']; unfold s2_; rw [few_ i2 j2 k2 k2 fw]; omega
          · rw [l5']; unfold s3_; rw [few_ i2 j2 k2 k2 fw]; omega
          · have : s4_ n g L = L i * (g i).2.2.2 + L j * (g j).2.2.2 + L k * (g k).2.2.2 := by unfold s4_; rw [few_ i2 j2 k2 k2 fw]; omega
            omega
      · left
        have fw : ∀ p, p < n → L p = q4_ i j j j (L i) (L j) 0 0 p := by
          intro p hp
          unfold q4_
          by_cases e1 : p = i
          · subst e1; rw [if_pos rfl, if_neg (by omega), if_neg (by omega)]; omega
          · by_cases e2 : p = j
            · subst e2; rw [if_neg e1, if_pos rfl, if_pos rfl]; omega
            · rw [if_neg e1, if_neg e2, if_neg e2]
              have : L p = 0 := Classical.byContradiction fun z => by
                by_cases a1 : p < i
                · exact i4 p (by omega) a1 z
                · by_cases a2 : p < j
                  · exact j4 p (by omega) a2 z
                  · exact no p (by omega) hp z
              omega
        refine ⟨i, j, L i, L j, by omega, j2, lp i i2 i3, lp j j2 j3, i2_ hind i2 i3 j2 j3 (by omega), ?_, ?_, ?_, ?_⟩
        · rw [l3']; unfold s1_; rw [few_ i2 j2 j2 j2 fw]; omega
        · rw [l4']; unfold s2_; rw [few_ i2 j2 j2 j2 fw]; omega
        · rw [l5']; unfold s3_; rw [few_ i2 j2 j2 j2 fw]; omega
        · have : s4_ n g L = L i * (g i).2.2.2 + L j * (g j).2.2.2 := by unfold s4_; rw [few_ i2 j2 j2 j2 fw]; omega
          omega
    · left
      have fw : ∀ p, p < n → L p = q4_ i i i i (L i) 0 0 0 p := by
        intro p hp
        unfold q4_
        by_cases e1 : p = i
        · subst e1; rw [if_pos rfl, if_pos rfl]; omega
        · rw [if_neg e1, if_neg e1]
          have : L p = 0 := Classical.byContradiction fun z => by
            by_cases a1 : p < i
            · exact i4 p (by omega) a1 z
            · exact no p (by omega) hp z
          omega
      refine ⟨i, L i, i2, lp i i2 i3, i1_ hind i2 i3, ?_, ?_, ?_, ?_⟩
      · rw [l3']; unfold s1_; rw [few_ i2 i2 i2 i2 fw]; omega
      · rw [l4']; unfold s2_; rw [few_ i2 i2 i2 i2 fw]; omega
      · rw [l5']; unfold s3_; rw [few_ i2 i2 i2 i2 fw]; omega
      · have : s4_ n g L = L i * (g i).2.2.2 := by unfold s4_; rw [few_ i2 i2 i2 i2 fw]; omega
        omega
  · left
    have z : ∀ t : Nat → Int, sm_ n L t = 0 := by
      intro t
      rw [sm_c (c' := fun _ => 0 * 0 + 0 * 0) (t' := t) n (fun p hp => ⟨Classical.byContradiction fun z => no p (by omega) hp z, rfl⟩), sm_l 0 (fun _ => 0) 0 (fun _ => 0)]
      omega
    have z1 : s1_ n g L = 0 := z _
    have z2 : s2_ n g L = 0 := z _
    have z3 : s3_ n g L = 0 := z _
    have z4 : s4_ n g L = 0 := z _
    rw [z1] at l3'; rw [z2] at l4'; rw [z3] at l5'; rw [z4] at l6'
    have nz : ∀ w : Int, s * μ * w = 0 → w = 0 := fun w hw => by
      rcases Int.mul_eq_zero.mp hw with q | q
      · omega
      · exact q
    refine ⟨nz _ l3', nz _ l4', nz _ l5', ?_⟩
    apply Classical.byContradiction
    intro q
    have := Int.mul_pos pm (show 0 < v by omega)
    omega
