/-! class and reference: the same place -/
def pj_ (n : Nat) (q : V4_) : V4_ := (if 0 < n then q.1 else 0, if 1 < n then q.2.1 else 0, if 2 < n then q.2.2.1 else 0, q.2.2.2)
/-- a row that speaks of the first n only -/
def lown_ (n : Nat) (g : V4_) : Prop := (n ≤ 0 → g.1 = 0) ∧ (n ≤ 1 → g.2.1 = 0) ∧ (n ≤ 2 → g.2.2.1 = 0)
theorem pj_dp {n : Nat} {g : V4_} (h : lown_ n g) (q : V4_) : dp_ g (pj_ n q) = dp_ g q := by
  obtain ⟨h0, h1, h2⟩ := h
  unfold dp_ pj_
  simp only
  have a : g.1 * (if 0 < n then q.1 else 0) = g.1 * q.1 := by
    by_cases c : 0 < n
    · rw [if_pos c]
    · rw [h0 (by omega)]; omega
  have b : g.2.1 * (if 1 < n then q.2.1 else 0) = g.2.1 * q.2.1 := by
    by_cases c : 1 < n
    · rw [if_pos c]
    · rw [h1 (by omega)]; omega
  have e : g.2.2.1 * (if 2 < n then q.2.2.1 else 0) = g.2.2.1 * q.2.2.1 := by
    by_cases c : 2 < n
    · rw [if_pos c]
    · rw [h2 (by omega)]; omega
  rw [a, b, e]
theorem un_low {i n : Nat} {s k : Int} (h : i < n) : lown_ n (un_ i s k) := by
  unfold lown_ un_
  refine ⟨fun z => ?_, fun z => ?_, fun z => ?_⟩ <;> (simp only; rw [if_neg (by omega)])
theorem bpl_more {E : E_} {n : Nat} (h : ∀ q, 2 * n ≤ q → q < 6 → E q = some 0) : ∀ k, n ≤ k → k ≤ 3 → ∀ p, p ∈ bpl_ E k ↔ p ∈ bpl_ E n ∨ ∃ i, n ≤ i ∧ i < k ∧ (p = un_ i 1 (-0) ∨ p = un_ i (-1) 0)
  | 0, h1, h2, p => by
    obtain rfl : n = 0 := by omega
    exact ⟨Or.inl, fun w => w.elim id (fun ⟨i, _, z, _⟩ => absurd z (by omega))⟩
  | k + 1, h1, h2, p => by
    by_cases e : n = k + 1
    · subst e
      exact ⟨Or.inl, fun w => w.elim id (fun ⟨i, z1, z2, _⟩ => by omega)⟩
    · have ih := bpl_more h k (by omega) (by omega) p
      have eb : bpl_ E (k + 1) = bpl_ E k ++ (lop_ k (E (2 * k)) ++ hip_ k (E (2 * k + 1))) := rfl
      rw [eb, List.mem_append, List.mem_append, ih, h (2 * k) (by omega) (by omega), h (2 * k + 1) (by omega) (by omega)]
      show (_ ∨ p ∈ [un_ k 1 (-0)] ∨ p ∈ [un_ k (-1) 0]) ↔ _
      rw [List.mem_singleton, List.mem_singleton]
      constructor
      · rintro ((w | ⟨i, a, b, c⟩) | w | w)
        · exact Or.inl w
        · exact Or.inr ⟨i, a, by omega, c⟩
        · exact Or.inr ⟨k, by omega, by omega, Or.inl w⟩
        · exact Or.inr ⟨k, by omega, by omega, Or.inr w⟩
      · rintro (w | ⟨i, a, b, c⟩)
        · exact Or.inl (Or.inl w)
        · by_cases q : i = k
          · subst q
            exact Or.inr c
          · exact Or.inl (Or.inr ⟨i, a, by omega, c⟩)
/-- B with all three, L with the first n -/
theorem same_K {P : List V4_} {E : E_} {n : Nat} (hn : n ≤ 3) (hP : ∀ p, p ∈ P → lown_ n p) (h : ∀ q, 2 * n ≤ q → q < 6 → E q = some 0) : (∀ q, KK_ (P ++ bpl_ E 3) q → KK_ (P ++ bpl_ E n) q) ∧ (∀ q, KK_ (P ++ bpl_ E n) q → KK_ (P ++ bpl_ E 3) (pj_ n q)) ∧ (∀ g, g ∈ P ++ bpl_ E n → lown_ n g) := by
  have low : ∀ g, g ∈ P ++ bpl_ E n → lown_ n g := by
    intro g hg
    rcases List.mem_append.mp hg with w | w
    · exact hP g w
    · obtain ⟨i, v, i1, ⟨_, rfl⟩ | ⟨_, rfl⟩⟩ := bpl_mem w
      · exact un_low i1
      · exact un_low i1
  refine ⟨fun q hq => ⟨fun g hg => hq.1 g ?_, hq.2⟩, fun q hq => ⟨fun g hg => ?_, hq.2⟩, low⟩
  · rcases List.mem_append.mp hg with w | w
    · exact List.mem_append.mpr (Or.inl w)
    · exact List.mem_append.mpr (Or.inr ((bpl_more h 3 hn (by omega) g).mpr (Or.inl w)))
  · rcases List.mem_append.mp hg with w | w
    · have m : g ∈ P ++ bpl_ E n := List.mem_append.mpr (Or.inl w)
      rw [pj_dp (low g m)]; exact hq.1 g m
    · rcases (bpl_more h 3 hn (by omega) g).mp w with w | ⟨i, i1, i2, w⟩
      · have m : g ∈ P ++ bpl_ E n := List.mem_append.mpr (Or.inr w)
        rw [pj_dp (low g m)]; exact hq.1 g m
      · have z : dp_ g (pj_ n q) = 0 := by
          have : i = 0 ∨ i = 1 ∨ i = 2 := by omega
          rcases this with rfl | rfl | rfl
          · rcases w with rfl | rfl <;> (unfold dp_ un_ pj_; simp [show ¬ 0 < n by omega])
          · rcases w with rfl | rfl <;> (unfold dp_ un_ pj_; simp [show ¬ 1 < n by omega])
          · rcases w with rfl | rfl <;> (unfold dp_ un_ pj_; simp [show ¬ 2 < n by omega])
        omega
theorem same_E {P : List V4_} {E : E_} {n : Nat} (hn : n ≤ 3) (hP : ∀ p, p ∈ P → lown_ n p) (h : ∀ q, 2 * n ≤ q → q < 6 → E q = some 0) : (Emp_ (P ++ bpl_ E 3) ↔ Emp_ (P ++ bpl_ E n)) ∧ ∀ f : V4_, lown_ n f → ((∀ q, KK_ (P ++ bpl_ E 3) q → 0 ≤ dp_ f q) ↔ (∀ q, KK_ (P ++ bpl_ E n) q → 0 ≤ dp_ f q)) := by
  obtain ⟨a, b, c⟩ := same_K hn hP h
  refine ⟨⟨fun e q hq q4 => ?_, fun e q hq q4 => ?_⟩, fun f hf => ⟨fun e q hq => ?_, fun e q hq => e q (a q hq)⟩⟩
  · exact e (pj_ n q) (b q ⟨hq, Int.le_of_lt q4⟩).1 q4
  · exact e q (a q ⟨hq, Int.le_of_lt q4⟩).1 q4
  · rw [← pj_dp hf]; exact e _ (b q hq)
/-- the box of the class -/
def eb_ (c : xm_Y) : E_ := fun k => if c.2 128 k = -3000000000000 then none else some (c.2 128 k).toInt
theorem eb_v {c d : xm_Y} {n : Nat} (h5 : iv_5 c d n) (hn : n ≤ 3) : bx_ c 128 (eb_ c) ∧ (∀ k, k < 6 → bd_ 1000000000 (eb_ c k)) ∧ bz_ d n (eb_ c) ∧ (∀ q, 2 * n ≤ q → q < 6 → eb_ c q = some 0) := by
  have far : ∀ x : Int64, -1000000000 ≤ x.toInt → ¬ x = -3000000000000 := fun x hx z => by
    rw [z] at hx
    exact absurd hx (by decide)
  refine ⟨fun k hk => ?_, fun k hk v hv => ?_, fun k hk => ?_, fun q h1 h2 => ?_⟩
  · unfold eb_
    by_cases z : c.2 128 k = -3000000000000
    · rw [if_pos z]; exact z
    · rw [if_neg z]; exact (ofto _).symm
  · unfold eb_ at hv
    by_cases z : c.2 128 k = -3000000000000
    · rw [if_pos z] at hv; cases hv
    · rw [if_neg z] at hv
      cases hv
      by_cases k2 : k < 2 * n
      · rcases (h5 k hk).1 k2 with ⟨_, w⟩ | ⟨_, w1, w2, w3⟩
        · exact absurd w z
        · rw [w1]; omega
      · have := ((h5 k hk).2 (by omega)).2
        rw [this]; decide
  · unfold eb_
    rcases (h5 k (by omega)).1 hk with ⟨w1, w2⟩ | ⟨w1, w2, w3, w4⟩
    · rw [if_pos w2]; exact w1
    · rw [if_neg (far _ (by rw [w2]; exact w3)), w2]
      exact ⟨w1, (ofto _).symm⟩
  · unfold eb_
    rw [((h5 q h2).2 h1).2, if_neg (by decide)]; rfl
/-- rows of class and reference -/
theorem row_g {c d : xm_Y} {n nb : Nat} {gc : Nat → Nat} (h2 : iv_2 c d n nb gc) {b : Nat} (hb : b < nb) : (∀ g, g < gc b → gp_ c b g = gpd_ d b g ∧ rl_ (gpd_ d b g) ∧ lown_ n (gpd_ d b g)) ∧ (∀ i, i < n → rw4_ c b i = rwd_ d b i ∧ rl_ (rwd_ d b i) ∧ lown_ n (rwd_ d b i)) ∧ (∀ i, n ≤ i → i < 3 → rl_ (rw4_ c b i)) := by
  obtain ⟨g1, g2, g3, g4, g5, g6⟩ := h2 b hb
  have key : ∀ (w : Nat → Int32) (k0 : Int32) (D : Nat → Int32) (A : Nat), iv_row w k0 D A n → (((w 0).toInt, (w 1).toInt, (w 2).toInt, k0.toInt) : V4_) = ((D (A + 0)).toInt, (D (A + 1)).toInt, (D (A + 2)).toInt, (D (A + 3)).toInt) ∧ rl_ ((D (A + 0)).toInt, (D (A + 1)).toInt, (D (A + 2)).toInt, (D (A + 3)).toInt) ∧ lown_ n ((D (A + 0)).toInt, (D (A + 1)).toInt, (D (A + 2)).toInt, (D (A + 3)).toInt) := by
    intro w k0 D A hr
    obtain ⟨r1, r2, r3, r4⟩ := hr
    obtain ⟨a0, a1, a2, a3⟩ := r1 0 (by omega)
    obtain ⟨b0, b1, b2, b3⟩ := r1 1 (by omega)
    obtain ⟨c0, c1, c2, c3⟩ := r1 2 (by omega)
    rw [← a0, ← b0, ← c0, ← r2]
    refine ⟨rfl, ⟨?_, ?_, ?_, ?_⟩, fun z => ?_, fun z => ?_, fun z => ?_⟩
    · unfold nb_; simp only; omega
    · unfold nb_; simp only; omega
    · unfold nb_; simp only; omega
    · unfold nb_; simp only; omega
    · exact z32.mp (a3 z)
    · exact z32.mp (b3 z)
    · exact z32.mp (c3 z)
  refine ⟨fun g hg => key _ _ _ _ (g4 g hg), fun i hi => key _ _ _ _ (g5 i hi), fun i h1 h3 => ?_⟩
  obtain ⟨x1, x2⟩ := g6 i h1 h3
  have : ∀ k, k < 3 → nb_ 20 (wc_ c (21 + 24 * b + 2 * i) k) := fun k hk => by
    unfold wc_
    rw [x1 k hk]
    unfold nb_
    split <;> decide
  refine ⟨this 0 (by omega), this 1 (by omega), this 2 (by omega), ?_⟩
  show nb_ 1000 (c.1 (21 + 24 * b + 2 * i) 1).toInt
  rw [x2]; unfold nb_; decide
theorem gps_same {c d : xm_Y} {n nb : Nat} {gc : Nat → Nat} (h2 : iv_2 c d n nb gc) {b : Nat} (hb : b < nb) : ∀ G, G ≤ gc b → gps_ c b G = gpsd_ d b G
  | 0, _ => rfl
  | G + 1, hG => by
    unfold gps_ gpsd_
    rw [gps_same h2 hb G (by omega), ((row_g h2 hb).1 G (by omega)).1]
/-- the change, by both -/
theorem cf_dp {c d : xm_Y} {n nb : Nat} {gc : Nat → Nat} (h2 : iv_2 c d n nb gc) (h1 : 1 ≤ n) (h3 : n ≤ 3) {b : Nat} (hb : b < nb) {R : V4_} (r4 : R.2.2.2 = 0) (rn : lown_ n R) (M : Int) (q : V4_) : dp_ (cf_ c b R M) q = -dp_ ((wk_ d b R n).1, (wk_ d b R n).2.1, (wk_ d b R n).2.2.1, -(ap_ d b R n - M)) q := by
  have rows := (row_g h2 hb).2.1
  obtain ⟨l0, l1, l2⟩ := rn
  rcases lt3n h1 h3 with rfl | rfl | rfl
  · have e0 := (rows 0 (by omega)).1
    have z1 := l1 (by omega)
    have z2 := l2 (by omega)
    unfold cf_
    rw [e0, z1, z2]
    show _ = -dp_ ((R.1 - R.1 * (rwd_ d b 0).1, R.2.1 - R.1 * (rwd_ d b 0).2.1, R.2.2.1 - R.1 * (rwd_ d b 0).2.2.1, -(0 + R.1 * (rwd_ d b 0).2.2.2 - M)) : V4_) q
    rw [z1, z2]
    unfold dp_
    grind
  · have e0 := (rows 0 (by omega)).1
    have e1 := (rows 1 (by omega)).1
    have z2 := l2 (by omega)
    unfold cf_
    rw [e0, e1, z2]
    show _ = -dp_ ((R.1 - R.1 * (rwd_ d b 0).1 - R.2.1 * (rwd_ d b 1).1, R.2.1 - R.1 * (rwd_ d b 0).2.1 - R.2.1 * (rwd_ d b 1).2.1, R.2.2.1 - R.1 * (rwd_ d b 0).2.2.1 - R.2.1 * (rwd_ d b 1).2.2.1, -(0 + R.1 * (rwd_ d b 0).2.2.2 + R.2.1 * (rwd_ d b 1).2.2.2 - M)) : V4_) q
    rw [z2]
    unfold dp_
    grind
  · have e0 := (rows 0 (by omega)).1
    have e1 := (rows 1 (by omega)).1
    have e2 := (rows 2 (by omega)).1
    unfold cf_
    rw [e0, e1, e2]
    show _ = -dp_ ((R.1 - R.1 * (rwd_ d b 0).1 - R.2.1 * (rwd_ d b 1).1 - R.2.2.1 * (rwd_ d b 2).1, R.2.1 - R.1 * (rwd_ d b 0).2.1 - R.2.1 * (rwd_ d b 1).2.1 - R.2.2.1 * (rwd_ d b 2).2.1, R.2.2.1 - R.1 * (rwd_ d b 0).2.2.1 - R.2.1 * (rwd_ d b 1).2.2.1 - R.2.2.1 * (rwd_ d b 2).2.2.1, -(0 + R.1 * (rwd_ d b 0).2.2.2 + R.2.1 * (rwd_ d b 1).2.2.2 + R.2.2.1 * (rwd_ d b 2).2.2.2 - M)) : V4_) q
    unfold dp_
    grind
theorem wk_low {c d : xm_Y} {n nb : Nat} {gc : Nat → Nat} (h2 : iv_2 c d n nb gc) {b : Nat} (hb : b < nb) {R : V4_} (rn : lown_ n R) : ∀ i, i ≤ n → lown_ n (wk_ d b R i)
  | 0, _ => rn
  | i + 1, hi => by
    obtain ⟨a, b', c'⟩ := wk_low h2 hb rn i (by omega)
    obtain ⟨x, y, z⟩ := ((row_g h2 hb).2.1 i (by omega)).2.2
    refine ⟨fun q => ?_, fun q => ?_, fun q => ?_⟩
    · show (wk_ d b R i).1 - cm_ R i * (rwd_ d b i).1 = 0
      rw [a q, x q]; omega
    · show (wk_ d b R i).2.1 - cm_ R i * (rwd_ d b i).2.1 = 0
      rw [b' q, y q]; omega
    · show (wk_ d b R i).2.2.1 - cm_ R i * (rwd_ d b i).2.2.1 = 0
      rw [c' q, z q]; omega
def bN (b : Bool) : Nat := if b = true then 1 else 0
theorem bN_1 {b : Bool} : bN b = 1 ↔ b = true := by unfold bN; split <;> simp_all
/-- the class's points say the same -/
theorem cls_t {c d : xm_Y} {n nb : Nat} {gc : Nat → Nat} (h2 : iv_2 c d n nb gc) (h1 : 1 ≤ n) (h3 : n ≤ 3) {b : Nat} (hb : b < nb) {E : E_} (hE : ∀ q, 2 * n ≤ q → q < 6 → E q = some 0) {C D : List V4_} (PS : PS_ (BB_ c b (gc b) E) C D) {R : V4_} (rb : rb3_ R) (rn : lown_ n R) : trl_ (SS_ d b (gc b) n E) R (wk_ d b R n) (ap_ d b R n) (4 * bN (alg_ R D) + 2 * bN (nop_ (cf_ c b R (-1)) (C ++ D)) + bN (nop_ (cf_ c b R 0) (C ++ D))) := by
  obtain ⟨p1, p2, p3, p4, p5⟩ := PS
  have eB : BB_ c b (gc b) E = gpsd_ d b (gc b) ++ bpl_ E 3 := by unfold BB_; rw [gps_same h2 hb (gc b) (Nat.le_refl _)]
  have lowP : ∀ p, p ∈ gpsd_ d b (gc b) → lown_ n p := fun p hp => by
    obtain ⟨g, g1, rfl⟩ := gpsd_mem hp
    exact ((row_g h2 hb).1 g g1).2.2
  obtain ⟨sE, sF⟩ := same_E (P := gpsd_ d b (gc b)) h3 lowP hE
  rw [eB] at p3 p4 p5
  have empC : C = [] ↔ Emp_ (gpsd_ d b (gc b) ++ bpl_ E 3) := by
    constructor
    · intro z q hq q4
      exact (p4 z).2 q ⟨hq, Int.le_of_lt q4⟩ q4
    · intro e
      cases C with
      | nil => rfl
      | cons P C =>
        have := p1 P (by simp)
        exact absurd this.1 (e P (p3 P (by simp)).1)
  by_cases em : C = []
  · left
    refine ⟨sE.mp (empC.mp em), ?_⟩
    have dD := (p4 em).1
    subst em
    rw [dD]
    rfl
  · right
    have ne : ¬ Emp_ (SS_ d b (gc b) n E) := fun z => em (empC.mpr (sE.mpr z))
    have lbB : ∀ (W : V4_) (v : Int), lown_ n W → (lb_ (SS_ d b (gc b) n E) W v ↔ ∀ q, KK_ (gpsd_ d b (gc b) ++ bpl_ E 3) q → 0 ≤ dp_ (W.1, W.2.1, W.2.2.1, -v) q) := fun W v hW => (sF (W.1, W.2.1, W.2.2.1, -v) hW).symm
    have wl := wk_low h2 hb rn n (Nat.le_refl _)
    have chg : ∀ M : Int, nop_ (cf_ c b R M) (C ++ D) = true ↔ lb_ (SS_ d b (gc b) n E) (wk_ d b R n) (ap_ d b R n - M) := by
      intro M
      rw [nop_t, lbB _ _ wl]
      constructor
      · intro h q hq
        have := p5 _ h em q hq
        rw [cf_dp h2 h1 h3 hb rb.2.2.2 rn M q] at this
        omega
      · intro h P hP
        have := h P (p3 P hP)
        rw [cf_dp h2 h1 h3 hb rb.2.2.2 rn M P]
        omega
    refine ⟨ne, bN (alg_ R D), bN (nop_ (cf_ c b R (-1)) (C ++ D)), bN (nop_ (cf_ c b R 0) (C ++ D)), ?_, ?_, ?_, rfl, ?_, ?_, ?_⟩
    · unfold bN; split <;> omega
    · unfold bN; split <;> omega
    · unfold bN; split <;> omega
    · rw [bN_1, alg_t]
      constructor
      · intro h
        refine ⟨-1000000000000000, (lbB R _ rn).mpr (fun q hq => ?_)⟩
        have := p5 (ng_ (R.1, R.2.1, R.2.2.1, - -1000000000000000)) (fun P hP => ?_) em q hq
        · rw [dp_ng] at this; omega
        · rw [dp_ng, dpWv R P _ rb.2.2.2]
          rcases List.mem_append.mp hP with w | w
          · obtain ⟨w1, w2⟩ := p1 P w
            have := dpR_b rb.2.2.2 rb.1 rb.2.1 rb.2.2.1 w2
            unfold nb_ at this
            omega
          · have := h P w
            rw [(p2 P w).1]; omega
      · rintro ⟨v, hv⟩ P hP
        have := (lbB R v rn).mp hv P (p3 P (by simp [hP]))
        rw [dpWv R P v rb.2.2.2, (p2 P hP).1] at this
        omega
    · rw [bN_1, chg]
      rw [show ap_ d b R n - -1 = ap_ d b R n + 1 by omega]
    · rw [bN_1, chg]
      rw [show ap_ d b R n - 0 = ap_ d b R n by omega]
theorem trl_u {L : List V4_} {R W : V4_} {ap : Int} {t t' : Nat} (h : trl_ L R W ap t) (g : trl_ L R W ap t') : t = t' := by
  rcases h with ⟨e, rfl⟩ | ⟨e, x, y, z, x1, y1, z1, rfl, a1, a2, a3⟩
  · rcases g with ⟨_, rfl⟩ | ⟨e', _⟩
    · rfl
    · exact absurd e e'
  · rcases g with ⟨e', _⟩ | ⟨_, x', y', z', x1', y1', z1', rfl, b1, b2, b3⟩
    · exact absurd e' e
    · have i1 : x = 1 ↔ x' = 1 := a1.trans b1.symm
      have i2 : y = 1 ↔ y' = 1 := a2.trans b2.symm
      have i3 : z = 1 ↔ z' = 1 := a3.trans b3.symm
      omega
theorem bpl_cE {E E' : E_} : ∀ {k : Nat}, (∀ q, q < 2 * k → E q = E' q) → bpl_ E k = bpl_ E' k
  | 0, _ => rfl
  | k + 1, h => by
    unfold bpl_
    rw [bpl_cE (fun q hq => h q (by omega)), h (2 * k) (by omega), h (2 * k + 1) (by omega)]
/-- a place that is known speaks of the box as it stands -/
theorem PL_E {c : xm_Y} {b G : Nat} {E : E_} (h : PL_ c b) (hG : c.1 (3 + 24 * b) 4 = nI G) (hG6 : G ≤ 6) (hE : bx_ c 128 E) (hb : ∀ k, k < 6 → bd_ 1000000000 (E k)) : ∃ C D, ps_ c b (C ++ D) C.length ∧ PS_ (BB_ c b G E) C D := by
  obtain ⟨b5, G', E', C, D, h1, h2, h3, h4, h5, h6⟩ := h
  have eG : G' = G := nIinj (by omega) (by omega) (h1.symm.trans hG)
  subst eG
  have eE : ∀ q, q < 6 → E' q = E q := fun q hq => (ec_in (bd_mn (h4 q hq) (by omega)) (bd_mn (hb q hq) (by omega))).mp ((h3 q hq).symm.trans (hE q hq))
  refine ⟨C, D, h5, ?_⟩
  have : BB_ c b G' E' = BB_ c b G' E := by unfold BB_; rw [bpl_cE (k := 3) (fun q hq => eE q (by omega))]
  rw [← this]; exact h6
