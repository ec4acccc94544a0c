/-! the invariant between the class's cells (in c) and the reference's cells (in d) -/
def iv_row (w : Nat → Int32) (k0 : Int32) (D : Nat → Int32) (at_ n : Nat) : Prop := (∀ k, k < 3 → w k = D (at_ + k) ∧ -20 ≤ (w k).toInt ∧ (w k).toInt ≤ 20 ∧ (n ≤ k → w k = 0)) ∧ k0 = D (at_ + 3) ∧ -1000 ≤ k0.toInt ∧ k0.toInt ≤ 1000
def iv_1 (c d : xm_Y) (n nb : Nat) : Prop := c.1 1 1 = nI n ∧ d.1 150 0 = nI n ∧ 1 ≤ n ∧ n ≤ 3 ∧ c.1 1 2 = nI nb ∧ d.1 150 1 = nI nb ∧ nb ≤ 5
def iv_2 (c d : xm_Y) (n nb : Nat) (gc : Nat → Nat) : Prop := ∀ b, b < nb → c.1 (3 + 24 * b) 4 = nI (gc b) ∧ d.1 151 b = nI (gc b) ∧ gc b ≤ 6 ∧ (∀ g, g < gc b → iv_row (c.1 (9 + 24 * b + 2 * g + 1)) (c.1 (9 + 24 * b + 2 * g) 1) (d.1 152) ((6 * b + g) * 4) n) ∧ (∀ i, i < n → iv_row (c.1 (21 + 24 * b + 2 * i + 1)) (c.1 (21 + 24 * b + 2 * i) 1) (d.1 153) ((3 * b + i) * 4) n) ∧ (∀ i, n ≤ i → i < 3 → (∀ k, k < 3 → c.1 (21 + 24 * b + 2 * i + 1) k = if k = i then 1 else 0) ∧ c.1 (21 + 24 * b + 2 * i) 1 = 0)
def iv_3 (c d : xm_Y) (n : Nat) : Prop := ∀ i, i < 3 → c.2 123 i = d.2 154 i ∧ -1000000000000 ≤ (d.2 154 i).toInt ∧ (d.2 154 i).toInt ≤ 1000000000000 ∧ (n ≤ i → d.2 154 i = 0)
def iv_4 (c d : xm_Y) (n : Nat) : Prop := ∀ k, k < 6 → ((d.1 158 k = 1 ∧ c.2 130 k = -3000000000000 ∧ k < 2 * n) ∨ (d.1 158 k = 0 ∧ c.2 130 k = d.2 157 k ∧ -1000000 ≤ (d.2 157 k).toInt ∧ (d.2 157 k).toInt ≤ 1000000 ∧ (2 * n ≤ k → d.2 157 k = 0)))
def iv_5 (c d : xm_Y) (n : Nat) : Prop := ∀ k, k < 6 → (k < 2 * n → ((d.1 156 k = 1 ∧ c.2 128 k = -3000000000000) ∨ (d.1 156 k = 0 ∧ c.2 128 k = d.2 155 k ∧ -1000000000 ≤ (d.2 155 k).toInt ∧ (d.2 155 k).toInt ≤ 1000000000))) ∧ (2 * n ≤ k → d.1 156 k = 1 ∧ c.2 128 k = 0)
def iv_6 (c d : xm_Y) : Prop := c.1 124 2 = d.1 150 26
def iv_7 (c d : xm_Y) (nb : Nat) : Prop := (∃ f : Nat, f ≤ 5 ∧ c.1 139 2 = nI f ∧ d.1 150 19 = nI f ∧ ∀ k, k < 3 * f → c.1 142 k = d.1 161 k) ∧ ∀ b, b < 5 → c.1 143 b = d.1 163 b ∧ (nb ≤ b → d.1 163 b = -1)
def iv_8 (PL : xm_Y → Nat → Prop) (FL : xm_Y → xm_Y → Prop) (c d : xm_Y) (nb : Nat) : Prop := ((c.1 139 6 = 0 ∧ d.1 150 21 = 0) ∨ (c.1 139 6 = 1 ∧ d.1 150 21 = 1 ∧ (∀ i, i < 3 → c.1 144 i = d.1 162 i) ∧ FL c d)) ∧ ∀ b, b < 5 → c.1 (6 + 24 * b) 3 = 0 ∨ (c.1 (6 + 24 * b) 3 = 1 ∧ b < nb ∧ PL c b)
def iv_call (p : Int64) (f g t : Int32) : Prop := (0 ≤ f.toInt ∧ f.toInt < 8) ∧ (0 ≤ g.toInt ∧ g.toInt < 8) ∧ (0 ≤ t.toInt ∧ t.toInt < 43046721) ∧ ∃ k : Int32, (∀ (m : Nat) (u : xm_Y), 100 ≤ m → fn_X3_masksOf m t u = some (k, u)) ∧ p = (((Int32.toInt64 k) &&& 4294967295) ||| ((Int32.toInt64 f) <<< (Int32.toInt64 32 &&& 63))) ||| ((Int32.toInt64 g) <<< (Int32.toInt64 35 &&& 63))
def iv_9 (c d : xm_Y) : Prop := ∃ q : Nat, q ≤ 40 ∧ c.1 146 1 = nI q ∧ d.1 150 36 = nI q ∧ ∀ k, k < q → iv_call (c.2 147 k) (d.1 173 k) (d.1 174 k) (d.1 175 k)
def iv_10 (c d : xm_Y) : Prop := c.1 146 5 = d.1 150 40 ∧ c.1 146 6 = d.1 150 42 ∧ c.1 146 7 = d.1 150 43
def iv_ (PL : xm_Y → Nat → Prop) (FL : xm_Y → xm_Y → Prop) (c d : xm_Y) : Prop := ∃ (n nb : Nat) (gc : Nat → Nat), iv_1 c d n nb ∧ iv_2 c d n nb gc ∧ iv_3 c d n ∧ iv_4 c d n ∧ iv_5 c d n ∧ iv_6 c d ∧ iv_7 c d nb ∧ iv_8 PL FL c d nb ∧ iv_9 c d ∧ iv_10 c d
/-- the reference's cells are the same; the class's cells are the same -/
def md_ (c c' : xm_Y) : Prop := ∀ k, 150 ≤ k → c'.1 k = c.1 k ∧ c'.2 k = c.2 k
def cl_ (d d' : xm_Y) : Prop := ∀ k, k < 150 → d'.1 k = d.1 k ∧ d'.2 k = d.2 k
theorem md_.rf (c : xm_Y) : md_ c c := fun _ _ => ⟨rfl, rfl⟩
theorem cl_.rf (c : xm_Y) : cl_ c c := fun _ _ => ⟨rfl, rfl⟩
theorem md_.tr {a b c : xm_Y} (h : md_ a b) (g : md_ b c) : md_ a c := fun k hk => ⟨(g k hk).1.trans (h k hk).1, (g k hk).2.trans (h k hk).2⟩
theorem cl_.tr {a b c : xm_Y} (h : cl_ a b) (g : cl_ b c) : cl_ a c := fun k hk => ⟨(g k hk).1.trans (h k hk).1, (g k hk).2.trans (h k hk).2⟩
theorem md_.wI {c c' : xm_Y} (h : md_ c c') {k j : Nat} {v : Int32} (hk : k < 150) : md_ c (w_I c' k j v) := fun q hq => ⟨(show xm_u2 c'.1 k j v q = c.1 q by rw [xm_u2_ne (by omega)]; exact (h q hq).1), (h q hq).2⟩
theorem md_.wJ {c c' : xm_Y} (h : md_ c c') {k j : Nat} {v : Int64} (hk : k < 150) : md_ c (w_J c' k j v) := fun q hq => ⟨(h q hq).1, (show xm_u2 c'.2 k j v q = c.2 q by rw [xm_u2_ne (by omega)]; exact (h q hq).2)⟩
theorem cl_.wI {c c' : xm_Y} (h : cl_ c c') {k j : Nat} {v : Int32} (hk : 150 ≤ k) : cl_ c (w_I c' k j v) := fun q hq => ⟨(show xm_u2 c'.1 k j v q = c.1 q by rw [xm_u2_ne (by omega)]; exact (h q hq).1), (h q hq).2⟩
theorem cl_.wJ {c c' : xm_Y} (h : cl_ c c') {k j : Nat} {v : Int64} (hk : 150 ≤ k) : cl_ c (w_J c' k j v) := fun q hq => ⟨(h q hq).1, (show xm_u2 c'.2 k j v q = c.2 q by rw [xm_u2_ne (by omega)]; exact (h q hq).2)⟩
/-- what a pair of calls must do -/
def tf_ (PL : xm_Y → Nat → Prop) (FL : xm_Y → xm_Y → Prop) {α : Type} (fc fm : xm_Y → Option (α × xm_Y)) : Prop := ∀ c d, iv_ PL FL c d → ∃ (r : α) (c' d' : xm_Y), fc c = some (r, c') ∧ md_ c c' ∧ fm d = some (r, d') ∧ cl_ d d' ∧ iv_ PL FL c' d'
theorem iv_c {PL : xm_Y → Nat → Prop} {FL : xm_Y → xm_Y → Prop} (hPL : ∀ c c' b, cl_ c c' → PL c b → PL c' b) (hFL : ∀ c c' d, cl_ c c' → FL c d → FL c' d) {c c' d : xm_Y} (h : cl_ c c') (iv : iv_ PL FL c d) : iv_ PL FL c' d := by
  obtain ⟨n, nb, gc, h1, h2, h3, h4, h5, h6, h7, h8, h9, h10⟩ := iv
  have e1 : ∀ k, k < 150 → c'.1 k = c.1 k := fun k hk => (h k hk).1
  have e2 : ∀ k, k < 150 → c'.2 k = c.2 k := fun k hk => (h k hk).2
  have hnb := h1.2.2.2.2.2.2
  refine ⟨n, nb, gc, ?_, ?_, ?_, ?_, ?_, ?_, ?_, ?_, ?_, ?_⟩
  · unfold iv_1; rw [e1 1 (by decide)]; exact h1
  · intro b hb
    obtain ⟨g1, g2, g3, g4, g5, g6⟩ := h2 b hb
    refine ⟨by rw [e1 _ (by omega)]; exact g1, g2, g3, fun g hg => ?_, fun i hi => ?_, fun i hi hi3 => ?_⟩
    · rw [e1 _ (by omega), e1 _ (by omega)]; exact g4 g hg
    · have := h1.2.2.2.1
      rw [e1 _ (by omega), e1 _ (by omega)]; exact g5 i hi
    · rw [e1 _ (by omega), e1 _ (by omega)]; exact g6 i hi hi3
  · unfold iv_3; rw [e2 123 (by decide)]; exact h3
  · unfold iv_4; rw [e2 130 (by decide)]; exact h4
  · unfold iv_5; rw [e2 128 (by decide)]; exact h5
  · unfold iv_6; rw [e1 124 (by decide)]; exact h6
  · unfold iv_7; rw [e1 139 (by decide), e1 142 (by decide), e1 143 (by decide)]; exact h7
  · refine ⟨?_, fun b hb => ?_⟩
    · rw [e1 139 (by decide), e1 144 (by decide)]
      rcases h8.1 with q | ⟨q1, q2, q3, q4⟩
      · exact Or.inl q
      · exact Or.inr ⟨q1, q2, q3, hFL c c' d h q4⟩
    · rw [e1 _ (by omega)]
      rcases h8.2 b hb with q | ⟨q1, q2, q3⟩
      · exact Or.inl q
      · exact Or.inr ⟨q1, q2, hPL c c' b h q3⟩
  · unfold iv_9; rw [e1 146 (by decide), e2 147 (by decide)]; exact h9
  · unfold iv_10; rw [e1 146 (by decide)]; exact h10
theorem iv_d {PL : xm_Y → Nat → Prop} {FL : xm_Y → xm_Y → Prop} (hFL : ∀ c d d', md_ d d' → FL c d → FL c d') {c d d' : xm_Y} (h : md_ d d') (iv : iv_ PL FL c d) : iv_ PL FL c d' := by
  obtain ⟨n, nb, gc, h1, h2, h3, h4, h5, h6, h7, h8, h9, h10⟩ := iv
  have e1 : ∀ k, 150 ≤ k → d'.1 k = d.1 k := fun k hk => (h k hk).1
  have e2 : ∀ k, 150 ≤ k → d'.2 k = d.2 k := fun k hk => (h k hk).2
  refine ⟨n, nb, gc, ?_, ?_, ?_, ?_, ?_, ?_, ?_, ?_, ?_, ?_⟩
  · unfold iv_1; rw [e1 150 (by decide)]; exact h1
  · unfold iv_2; rw [e1 151 (by decide), e1 152 (by decide), e1 153 (by decide)]; exact h2
  · unfold iv_3; rw [e2 154 (by decide)]; exact h3
  · unfold iv_4; rw [e1 158 (by decide), e2 157 (by decide)]; exact h4
  · unfold iv_5; rw [e1 156 (by decide), e2 155 (by decide)]; exact h5
  · unfold iv_6; rw [e1 150 (by decide)]; exact h6
  · unfold iv_7; rw [e1 150 (by decide), e1 161 (by decide), e1 163 (by decide)]; exact h7
  · refine ⟨?_, h8.2⟩
    rw [e1 150 (by decide), e1 162 (by decide)]
    rcases h8.1 with q | ⟨q1, q2, q3, q4⟩
    · exact Or.inl q
    · exact Or.inr ⟨q1, q2, q3, hFL c d d' h q4⟩
  · unfold iv_9; rw [e1 150 (by decide), e1 173 (by decide), e1 174 (by decide), e1 175 (by decide)]; exact h9
  · unfold iv_10; rw [e1 150 (by decide)]; exact h10
/-- one after the other, over one memory -/
theorem tf_one {PL : xm_Y → Nat → Prop} {FL : xm_Y → xm_Y → Prop} (hPL : ∀ c c' b, cl_ c c' → PL c b → PL c' b) (hFL : ∀ c c' d, cl_ c c' → FL c d → FL c' d) (hFL2 : ∀ c d d', md_ d d' → FL c d → FL c d') {α : Type} {fc fm : xm_Y → Option (α × xm_Y)} (h : tf_ PL FL fc fm) {u : xm_Y} (iv : iv_ PL FL u u) : ∃ (r : α) (u1 u2 : xm_Y), fc u = some (r, u1) ∧ fm u1 = some (r, u2) ∧ iv_ PL FL u2 u2 := by
  obtain ⟨r, c', d', a1, a2, -, -, -⟩ := h u u iv
  obtain ⟨r2, c2, d2, b1, b2, b3, b4, b5⟩ := h u c' (iv_d hFL2 a2 iv)
  rw [a1] at b1
  cases b1
  exact ⟨r, c', d2, a1, b3, iv_c hPL hFL b4 b5⟩
theorem hb_in {x : Int32} {k : Nat} (h0 : ¬ x < 0) (h1 : ¬ nI k ≤ x) (hk : k < 2 ^ 31) : x.toNatClampNeg < k ∧ x = nI x.toNatClampNeg ∧ 0 ≤ x.toInt ∧ x.toInt < k := by
  rw [Int32.lt_iff_toInt_lt] at h0
  rw [Int32.le_iff_toInt_le, nI_toInt hk] at h1
  have z : (0 : Int32).toInt = 0 := rfl
  rw [z] at h0
  have e : x.toNatClampNeg = x.toInt.toNat := rfl
  refine ⟨by rw [e]; omega, ?_, by omega, by omega⟩
  apply Int32.toInt_inj.mp
  rw [nI_toInt (by rw [e]; omega), e]
  omega
theorem nI_u {n : Nat} (h : n < 2 ^ 31) : (nI n).toInt = n := nI_toInt h
