/-! what a place's points say -/
def KK_ (B : List V4_) (q : V4_) : Prop := (∀ g, g ∈ B → 0 ≤ dp_ g q) ∧ 0 ≤ q.2.2.2
def PS_ (B C D : List V4_) : Prop := (∀ P, P ∈ C → 0 < P.2.2.2 ∧ pb4_ P) ∧ (∀ P, P ∈ D → P.2.2.2 = 0 ∧ pb4_ P) ∧ (∀ P, P ∈ C ++ D → KK_ B P) ∧ (C = [] → D = [] ∧ ∀ q, KK_ B q → ¬ 0 < q.2.2.2) ∧ (∀ f : V4_, (∀ P, P ∈ C ++ D → dp_ f P ≤ 0) → C ≠ [] → ∀ q, KK_ B q → dp_ f q ≤ 0)
def PL_ (c : xm_Y) (b : Nat) : Prop := b < 5 ∧ ∃ (G : Nat) (E : E_) (C D : List V4_), c.1 (3 + 24 * b) 4 = nI G ∧ G ≤ 6 ∧ bx_ c 128 E ∧ (∀ k, k < 6 → bd_ 1000000000 (E k)) ∧ ps_ c b (C ++ D) C.length ∧ PS_ (BB_ c b G E) C D
theorem gps_c {c c' : xm_Y} {b : Nat} (hb : b < 5) (h : ∀ k, k < 123 → c'.1 k = c.1 k) : ∀ G, G ≤ 6 → gps_ c' b G = gps_ c b G
  | 0, _ => rfl
  | G + 1, hG => by
    unfold gps_
    rw [gps_c hb h G (by omega)]
    unfold gp_ wc_ kc_
    rw [h _ (by omega), h _ (by omega)]
theorem BB_c {c c' : xm_Y} {b G : Nat} {E : E_} (hb : b < 5) (hG : G ≤ 6) (h : ∀ k, k < 123 → c'.1 k = c.1 k) : BB_ c' b G E = BB_ c b G E := by
  unfold BB_; rw [gps_c hb h G hG]
theorem PL_pf : ∀ c c' b, (∀ k, k < 123 → c'.1 k = c.1 k ∧ c'.2 k = c.2 k) → c'.2 128 = c.2 128 → PL_ c b → PL_ c' b := by
  rintro c c' b h h128 ⟨hb, G, E, C, D, h1, h2, h3, h4, h5, h6⟩
  refine ⟨hb, G, E, C, D, by rw [(h _ (by omega)).1]; exact h1, h2, fun k hk => by rw [h128]; exact h3 k hk, h4, ?_, by rw [BB_c hb h2 (fun k hk => (h k hk).1)]; exact h6⟩
  obtain ⟨p1, p2, p3, p4⟩ := h5
  exact ⟨by rw [(h _ (by omega)).1]; exact p1, by rw [(h _ (by omega)).1]; exact p2, p3, fun k P hP => by rw [(h (7 + 24 * b) (by omega)).2]; exact p4 k P hP⟩
theorem d3_p1 (a b c : V4_) : d3_ b a c = -d3_ a b c := by unfold d3_ cx_; grind
theorem d3_p2 (a b c : V4_) : d3_ a c b = -d3_ a b c := by unfold d3_ cx_; grind
/-- three in their order -/
theorem srt3 {L : List V4_} {a b c : V4_} (T : V4_ → Prop) (ha : a ∈ L) (hb : b ∈ L) (hc : c ∈ L) (ta : T a) (tb : T b) (tc : T c) (hd : d3_ a b c ≠ 0) : ∃ (i j k : Nat) (x y z : V4_), i < j ∧ j < k ∧ L[i]? = some x ∧ L[j]? = some y ∧ L[k]? = some z ∧ T x ∧ T y ∧ T z ∧ d3_ x y z ≠ 0 := by
  obtain ⟨i, hi⟩ := List.getElem?_of_mem ha
  obtain ⟨j, hj⟩ := List.getElem?_of_mem hb
  obtain ⟨k, hk⟩ := List.getElem?_of_mem hc
  have nij : i ≠ j := fun e => by
    rw [e, hj] at hi; cases hi
    exact hd (by unfold d3_ cx_; grind)
  have nik : i ≠ k := fun e => by
    rw [e, hk] at hi; cases hi
    exact hd (by unfold d3_ cx_; grind)
  have njk : j ≠ k := fun e => by
    rw [e, hk] at hj; cases hj
    exact hd (by unfold d3_ cx_; grind)
  have p1 := d3_p1 a b c
  have p2 := d3_p2 a b c
  have p3 : d3_ b c a = d3_ a b c := by unfold d3_ cx_; grind
  have p4 : d3_ c a b = d3_ a b c := by unfold d3_ cx_; grind
  have p5 : d3_ c b a = -d3_ a b c := by unfold d3_ cx_; grind
  by_cases h1 : i < j
  · by_cases h2 : j < k
    · exact ⟨i, j, k, a, b, c, h1, h2, hi, hj, hk, ta, tb, tc, hd⟩
    · by_cases h3 : i < k
      · exact ⟨i, k, j, a, c, b, h3, by omega, hi, hk, hj, ta, tc, tb, by omega⟩
      · exact ⟨k, i, j, c, a, b, by omega, h1, hk, hi, hj, tc, ta, tb, by omega⟩
  · by_cases h2 : i < k
    · exact ⟨j, i, k, b, a, c, by omega, h2, hj, hi, hk, tb, ta, tc, by omega⟩
    · by_cases h3 : j < k
      · exact ⟨j, k, i, b, c, a, h3, by omega, hj, hk, hi, tb, tc, ta, by omega⟩
      · exact ⟨k, j, i, c, b, a, by omega, by omega, hk, hj, hi, tc, tb, ta, by omega⟩
theorem srt2 {L : List V4_} {a b : V4_} (T : V4_ → Prop) (ha : a ∈ L) (hb : b ∈ L) (ta : T a) (tb : T b) (hd : cx_ a b ≠ z4_) : ∃ (i j : Nat) (x y : V4_), i < j ∧ L[i]? = some x ∧ L[j]? = some y ∧ T x ∧ T y ∧ cx_ x y ≠ z4_ := by
  obtain ⟨i, hi⟩ := List.getElem?_of_mem ha
  obtain ⟨j, hj⟩ := List.getElem?_of_mem hb
  have nij : i ≠ j := fun e => by
    rw [e, hj] at hi; cases hi
    apply hd
    unfold cx_ z4_
    exact v4_ext (by grind) (by grind) (by grind) rfl
  by_cases h1 : i < j
  · exact ⟨i, j, a, b, h1, hi, hj, ta, tb, hd⟩
  · refine ⟨j, i, b, a, by omega, hj, hi, tb, ta, fun z => hd ?_⟩
    simp only [cx_, z4_, Prod.mk.injEq] at z ⊢
    grind
theorem mt_q {x y z q : V4_} (h1 : dp_ x q = 0) (h2 : dp_ y q = 0) (h3 : dp_ z q = 0) (hd : d3_ x y z ≠ 0) (g : V4_) : ((d3_ x y z).natAbs : Int) * dp_ g q = q.2.2.2 * dp_ g (mt_ x y z) := by
  obtain ⟨c1, c2, c3, c4⟩ := cr_ x y z e3_ q h1 h2 h3
  have e : dp_ (yy_ x y z) e3_ = -d3_ x y z := by rw [dp_c, dp_e3, yy_d3]
  rw [e, dp_e3] at c1 c2 c3 c4
  have k : -d3_ x y z * dp_ g q = q.2.2.2 * dp_ g (yy_ x y z) := by
    unfold dp_
    grind
  have m : dp_ g (mt_ x y z) = sn_ (d3_ x y z) * dp_ g (yy_ x y z) + 0 * dp_ g (yy_ x y z) := dp_lc g _ _ _ _
  rw [m]
  unfold sn_
  split
  · rw [show ((d3_ x y z).natAbs : Int) = -d3_ x y z by omega, k]; grind
  · rw [show ((d3_ x y z).natAbs : Int) = d3_ x y z by omega]
    have : d3_ x y z * dp_ g q = -(-d3_ x y z * dp_ g q) := by grind
    rw [this, k]; grind
theorem fo_q {x y q : V4_} (q4 : q.2.2.2 = 0) (h1 : dp_ x q = 0) (h2 : dp_ y q = 0) (g : V4_) : d3_ x y (cx_ x y) * dp_ g q = fi_ (cx_ x y) q * dp_ g (cx_ x y) := by
  unfold dp_ at h1 h2 ⊢
  rw [q4] at h1 h2 ⊢
  unfold d3_ fi_ cx_
  grind
theorem d3cx_pos {x y : V4_} (h : cx_ x y ≠ z4_) : 0 < d3_ x y (cx_ x y) := by
  have n := cxx_ h
  have e : d3_ x y (cx_ x y) = (cx_ x y).1 * (cx_ x y).1 + (cx_ x y).2.1 * (cx_ x y).2.1 + (cx_ x y).2.2.1 * (cx_ x y).2.2.1 := by unfold d3_ cx_; grind
  have sq : ∀ w : Int, 0 ≤ w * w := fun w => by
    rcases Int.le_total 0 w with q | q
    · exact Int.mul_nonneg q q
    · have := Int.mul_nonneg (show 0 ≤ -w by omega) (show 0 ≤ -w by omega)
      have e : -w * -w = w * w := by grind
      omega
  have a1 := sq (cx_ x y).1
  have a2 := sq (cx_ x y).2.1
  have a3 := sq (cx_ x y).2.2.1
  omega
theorem sgnmul {s x : Int} (hs : 0 < s) : (0 ≤ s * x ↔ 0 ≤ x) ∧ (0 < s * x ↔ 0 < x) := by
  refine ⟨⟨fun h => ?_, fun h => Int.mul_nonneg (Int.le_of_lt hs) h⟩, ⟨fun h => ?_, fun h => Int.mul_pos hs h⟩⟩
  · apply Classical.byContradiction
    intro no
    have := Int.mul_pos hs (show 0 < -x by omega)
    have e : s * -x = -(s * x) := by grind
    omega
  · apply Classical.byContradiction
    intro no
    have := Int.mul_nonneg (Int.le_of_lt hs) (show 0 ≤ -x by omega)
    have e : s * -x = -(s * x) := by grind
    omega
/-- what is found is enough -/
theorem PS_ok {B X C D : List V4_} (hax : ax_ (B ++ X)) (gC : GC_ B X C) (gD : GD_ B X D) (hC : ∀ (i j k : Nat) (x y z : V4_), i < j → j < k → (B ++ X)[i]? = some x → (B ++ X)[j]? = some y → (B ++ X)[k]? = some z → d3_ x y z ≠ 0 → ins_ (mt_ x y z) B = true → sk_ (mt_ x y z) ∈ C) (hD : C ≠ [] → ∀ (i j : Nat) (x y : V4_) (s : Int), i < j → (s = 1 ∨ s = -1) → (B ++ X)[i]? = some x → (B ++ X)[j]? = some y → cx_ x y ≠ z4_ → ins_ (fo4_ s x y) B = true → sk_ (fo4_ s x y) ∈ D) (hCD : C = [] → D = []) : PS_ B C D := by
  have memB : ∀ g, g ∈ B → ∃ i, i < B.length ∧ gf_ (B ++ X) i = g := fun g hg => by
    obtain ⟨i, hi⟩ := List.getElem?_of_mem hg
    have il : i < B.length := by rw [List.getElem?_eq_some_iff] at hi; exact hi.1
    exact ⟨i, il, gf_s (by rw [List.getElem?_append_left il]; exact hi)⟩
  -- a corner where f is above 0
  have corner : ∀ (f q : V4_), (∀ g, g ∈ B → 0 ≤ dp_ g q) → 0 < q.2.2.2 → 0 < dp_ f q → (∃ a b c, a ∈ B ++ X ∧ b ∈ B ++ X ∧ c ∈ B ++ X ∧ dp_ a q = 0 ∧ dp_ b q = 0 ∧ dp_ c q = 0 ∧ d3_ a b c ≠ 0) → ∃ P, P ∈ C ∧ 0 < dp_ f P := by
    rintro f q hB q4 hf ⟨a, b, c, ma, mb, mc, za, zb, zc, hd⟩
    obtain ⟨i, j, k, x, y, z, h1, h2, hx, hy, hz, tx, ty, tz, hd⟩ := srt3 (fun a => dp_ a q = 0) ma mb mc za zb zc hd
    have key := mt_q tx ty tz hd
    have dpos : (0 : Int) < ((d3_ x y z).natAbs : Int) := by omega
    have ins : ins_ (mt_ x y z) B = true := by
      rw [ins_t]
      intro g hg
      have := (sgnmul dpos).1.mpr (hB g hg)
      rw [key g] at this
      exact (sgnmul q4).1.mp this
    refine ⟨sk_ (mt_ x y z), hC i j k x y z h1 h2 hx hy hz hd ins, ?_⟩
    have := (sgnmul dpos).2.mpr hf
    rw [key f] at this
    have := (sgnmul q4).2.mp this
    rw [sk_dp] at this
    have gp := G_pos (mtne hd)
    exact (sgnmul (show (0 : Int) < (G_ (mt_ x y z) : Int) by omega)).2.mp this
  refine ⟨fun P hP => ⟨(gC.2 P hP).1.1, (gC.2 P hP).2⟩, fun P hP => ⟨(gD.2 P hP).1.1, (gD.2 P hP).2⟩, fun P hP => ?_, fun hC0 => ⟨hCD hC0, fun q hq q4 => ?_⟩, fun f hf hC0 q hq => ?_⟩
  · rcases List.mem_append.mp hP with h | h
    · obtain ⟨a1, a2, a3, a4⟩ := (gC.2 P h).1
      refine ⟨fun g hg => ?_, Int.le_of_lt a1⟩
      obtain ⟨i, i1, i2⟩ := memB g hg
      rw [← i2]; exact a3 i i1
    · obtain ⟨a1, a2, a3, a4, a5⟩ := (gD.2 P h).1
      refine ⟨fun g hg => ?_, by omega⟩
      obtain ⟨i, i1, i2⟩ := memB g hg
      rw [← i2]; exact a4 i i1
  · obtain ⟨q', k1, k2, k3, k4⟩ := exA_ B X hax e3_ q hq.1 hq.2 (by rw [dp_e3]; exact q4)
    rw [dp_e3] at k3
    rcases k4 with ⟨k5, k6⟩ | ⟨k5, -⟩
    · obtain ⟨P, p1, -⟩ := corner e3_ q' k1 k5 (by rw [dp_e3]; exact k3) k6
      rw [hC0] at p1
      exact absurd p1 (by simp)
    · omega
  · apply Classical.byContradiction
    intro no
    obtain ⟨q', k1, k2, k3, k4⟩ := exA_ B X hax f q hq.1 hq.2 (by omega)
    rcases k4 with ⟨k5, k6⟩ | ⟨k5, a, b, ma, mb, za, zb, hc⟩
    · obtain ⟨P, p1, p2⟩ := corner f q' k1 k5 k3 k6
      have := hf P (by simp [p1])
      omega
    · obtain ⟨i, j, x, y, h1, hx, hy, tx, ty, hc⟩ := srt2 (fun a => dp_ a q' = 0) ma mb za zb hc
      have key := fo_q k5 tx ty
      have dpos := d3cx_pos hc
      have f3 := (sgnmul dpos).2.mpr k3
      rw [key f] at f3
      have go : ∀ s : Int, (s = 1 ∨ s = -1) → 0 < s * fi_ (cx_ x y) q' → False := by
        intro s hs hpos
        have fo : ∀ g, dp_ g (fo4_ s x y) = s * dp_ g (cx_ x y) + 0 * dp_ g (cx_ x y) := fun g => dp_lc g _ _ _ _
        have ss : s * s = 1 := by rcases hs with rfl | rfl <;> rfl
        have k2 : ∀ g, d3_ x y (cx_ x y) * dp_ g q' = (s * fi_ (cx_ x y) q') * dp_ g (fo4_ s x y) := fun g => by
          rw [key g, fo g]
          have : (s * fi_ (cx_ x y) q') * (s * dp_ g (cx_ x y) + 0 * dp_ g (cx_ x y)) = (s * s) * (fi_ (cx_ x y) q' * dp_ g (cx_ x y)) := by grind
          rw [this, ss]; omega
        have ins : ins_ (fo4_ s x y) B = true := by
          rw [ins_t]
          intro g hg
          have := (sgnmul dpos).1.mpr (k1 g hg)
          rw [k2 g] at this
          exact (sgnmul hpos).1.mp this
        have mem := hD hC0 i j x y s h1 hs hx hy hc ins
        have := (sgnmul dpos).2.mpr k3
        rw [k2 f] at this
        have := (sgnmul hpos).2.mp this
        rw [sk_dp] at this
        have gp := G_pos (fo_ne hs hc)
        have := (sgnmul (show (0 : Int) < (G_ (fo4_ s x y) : Int) by omega)).2.mp this
        have := hf _ (List.mem_append.mpr (Or.inr mem))
        omega
      by_cases s0 : 0 < fi_ (cx_ x y) q'
      · exact go 1 (Or.inl rfl) (by omega)
      · by_cases s1 : fi_ (cx_ x y) q' = 0
        · rw [s1] at f3; omega
        · exact go (-1) (Or.inr rfl) (by omega)
