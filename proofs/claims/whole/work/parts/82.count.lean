/-! never more than 96 -/
theorem cnt_sw {α β : Type} (r : α → β → Bool) : ∀ (L : List α) (M : List β), (L.map (fun x => M.countP (r x))).sum = (M.map (fun y => L.countP (fun x => r x y))).sum
  | [], M => by
    induction M with
    | nil => rfl
    | cons y M ih => simp at ih ⊢; exact ih
  | x :: L, M => by
    have ih := cnt_sw r L M
    rw [List.map_cons, List.sum_cons, ih]
    clear ih
    induction M with
    | nil => rfl
    | cons y M ih2 =>
      rw [List.map_cons, List.map_cons, List.sum_cons, List.sum_cons, List.countP_cons, List.countP_cons, ← ih2]
      omega
theorem cnt_dc {α β : Type} (r : α → β → Bool) (L : List α) (M : List β) (s t : Nat) (h1 : ∀ x, x ∈ L → s ≤ M.countP (r x)) (h2 : ∀ y, y ∈ M → L.countP (fun x => r x y) ≤ t) : s * L.length ≤ t * M.length := by
  have a : ∀ (L : List α), (∀ x, x ∈ L → s ≤ M.countP (r x)) → s * L.length ≤ (L.map (fun x => M.countP (r x))).sum := by
    intro L
    induction L with
    | nil => intro _; simp
    | cons x L ih =>
      intro h
      have := ih (fun y hy => h y (by simp [hy]))
      have := h x (by simp)
      rw [List.map_cons, List.sum_cons, List.length_cons, Nat.mul_succ]
      omega
  have b : ∀ (M : List β), (∀ y, y ∈ M → L.countP (fun x => r x y) ≤ t) → (M.map (fun y => L.countP (fun x => r x y))).sum ≤ t * M.length := by
    intro M
    induction M with
    | nil => intro _; simp
    | cons x M ih =>
      intro h
      have := ih (fun y hy => h y (by simp [hy]))
      have := h x (by simp)
      rw [List.map_cons, List.sum_cons, List.length_cons, Nat.mul_succ]
      omega
  have a := a L h1
  have b := b M h2
  rw [cnt_sw] at a
  omega
theorem len3 {α : Type} {F : List α} {x y z : α} (hx : x ∈ F) (hy : y ∈ F) (hz : z ∈ F) (h1 : x ≠ y) (h2 : x ≠ z) (h3 : y ≠ z) : 3 ≤ F.length := by
  match F, hx, hy, hz with
  | [], hx, _, _ => simp at hx
  | [a], hx, hy, _ => simp at hx hy; rw [hx, hy] at h1; exact absurd rfl h1
  | [a, b], hx, hy, hz =>
    simp at hx hy hz
    rcases hx with rfl | rfl <;> rcases hy with rfl | rfl <;> rcases hz with rfl | rfl <;> simp_all
  | a :: b :: c :: F, _, _, _ => simp
theorem len2 {α : Type} {F : List α} {x y : α} (hx : x ∈ F) (hy : y ∈ F) (h1 : x ≠ y) : 2 ≤ F.length := by
  match F, hx, hy with
  | [], hx, _ => simp at hx
  | [a], hx, hy => simp at hx hy; rw [hx, hy] at h1; exact absurd rfl h1
  | a :: b :: F, _, _ => simp
/-- no three that differ -/
theorem le2 {α : Type} {L : List α} (hn : L.Nodup) (p : α → Bool) (h : ∀ x y z, x ∈ L → y ∈ L → z ∈ L → p x = true → p y = true → p z = true → x ≠ y → x ≠ z → y ≠ z → False) : L.countP p ≤ 2 := by
  rw [List.countP_eq_length_filter]
  have nd : (L.filter p).Nodup := List.Pairwise.filter p hn
  have mm : ∀ x, x ∈ L.filter p → x ∈ L ∧ p x = true := fun x hx => List.mem_filter.mp hx
  match e : L.filter p with
  | [] => simp
  | [a] => simp
  | [a, b] => simp
  | a :: b :: c :: F =>
    rw [e] at nd mm
    have ha := mm a (by simp)
    have hb := mm b (by simp)
    have hc := mm c (by simp)
    rw [List.nodup_cons, List.nodup_cons] at nd
    have n1 : a ≠ b := fun z => nd.1 (by simp [z])
    have n2 : a ≠ c := fun z => nd.1 (by simp [z])
    have n3 : b ≠ c := fun z => nd.2.1 (by simp [z])
    exact (h a b c ha.1 hb.1 hc.1 ha.2 hb.2 hc.2 n1 n2 n3).elim
theorem le1 {α : Type} {L : List α} (hn : L.Nodup) (p : α → Bool) (h : ∀ x y, x ∈ L → y ∈ L → p x = true → p y = true → x = y) : L.countP p ≤ 1 := by
  rw [List.countP_eq_length_filter]
  have nd : (L.filter p).Nodup := List.Pairwise.filter p hn
  have mm : ∀ x, x ∈ L.filter p → x ∈ L ∧ p x = true := fun x hx => List.mem_filter.mp hx
  match e : L.filter p with
  | [] => simp
  | [a] => simp
  | a :: b :: F =>
    rw [e] at nd mm
    have ha := mm a (by simp)
    have hb := mm b (by simp)
    rw [List.nodup_cons] at nd
    exact absurd (h a b ha.1 hb.1 ha.2 hb.2) (fun z => nd.1 (by simp [z]))
theorem cnt_or {α : Type} (L : List α) (p q r : α → Bool) (h : ∀ x, x ∈ L → p x = true → q x = true ∨ r x = true) : L.countP p ≤ L.countP q + L.countP r := by
  induction L with
  | nil => simp
  | cons x L ih =>
    have := ih (fun y hy => h y (by simp [hy]))
    have hx := h x (by simp)
    rw [List.countP_cons, List.countP_cons, List.countP_cons]
    by_cases a : p x = true
    · rcases hx a with b | b
      · rw [if_pos a, if_pos b]; split <;> omega
      · rw [if_pos a, if_pos b]; split <;> omega
    · rw [if_neg a]; split <;> split <;> omega
theorem cnt_any {α : Type} (L : List α) (f : Nat → α → Bool) (t : Nat) (h : ∀ l, L.countP (f l) ≤ t) : ∀ (ls : List Nat), L.countP (fun x => ls.any (fun l => f l x)) ≤ t * ls.length
  | [] => by
    rw [List.countP_eq_zero.mpr (fun x _ => by simp)]; omega
  | l :: ls => by
    have ih := cnt_any L f t h ls
    have := cnt_or L (fun x => (l :: ls).any (fun l => f l x)) (f l) (fun x => ls.any (fun l => f l x)) (fun x _ hx => by
      rw [List.any_cons, Bool.or_eq_true] at hx; exact hx)
    have := h l
    rw [List.length_cons, Nat.mul_succ]
    omega
/-! rows that are as short as can be -/
def pm_ (P : V4_) : Prop := Nat.gcd (Nat.gcd (Nat.gcd P.1.natAbs P.2.1.natAbs) P.2.2.1.natAbs) P.2.2.2.natAbs = 1
theorem pm_eq {P Q : V4_} (hp : pm_ P) (hq : pm_ Q) {s t : Int} (hs : 0 < s) (ht : 0 < t) (h1 : s * P.1 = t * Q.1) (h2 : s * P.2.1 = t * Q.2.1) (h3 : s * P.2.2.1 = t * Q.2.2.1) (h4 : s * P.2.2.2 = t * Q.2.2.2) : P = Q := by
  have n : ∀ (a b : Int), s * a = t * b → s.natAbs * a.natAbs = t.natAbs * b.natAbs := fun a b h => by rw [← Int.natAbs_mul, ← Int.natAbs_mul, h]
  have e : s.natAbs = t.natAbs := by
    have g : s.natAbs * Nat.gcd (Nat.gcd (Nat.gcd P.1.natAbs P.2.1.natAbs) P.2.2.1.natAbs) P.2.2.2.natAbs = t.natAbs * Nat.gcd (Nat.gcd (Nat.gcd Q.1.natAbs Q.2.1.natAbs) Q.2.2.1.natAbs) Q.2.2.2.natAbs := by
      rw [← Nat.gcd_mul_left, ← Nat.gcd_mul_left, ← Nat.gcd_mul_left, ← Nat.gcd_mul_left, ← Nat.gcd_mul_left, ← Nat.gcd_mul_left, n _ _ h1, n _ _ h2, n _ _ h3, n _ _ h4]
    unfold pm_ at hp hq
    rw [hp, hq] at g
    omega
  have e : s = t := by omega
  subst e
  have c : ∀ a b : Int, s * a = s * b → a = b := fun a b h => Int.eq_of_mul_eq_mul_left (by omega) h
  exact v4_ext (c _ _ h1) (c _ _ h2) (c _ _ h3) (c _ _ h4)
/-- three planes through no direction -/
theorem dz_ {a b c x : V4_} (hd : d3_ a b c ≠ 0) (h4 : x.2.2.2 = 0) (ha : dp_ a x = 0) (hb : dp_ b x = 0) (hc : dp_ c x = 0) : x = z4_ := by
  unfold d3_ cx_ at hd
  unfold dp_ at ha hb hc
  rw [h4] at ha hb hc
  have k : ∀ y : Int, (a.1 * (b.2.1 * c.2.2.1 - b.2.2.1 * c.2.1) + a.2.1 * (b.2.2.1 * c.1 - b.1 * c.2.2.1) + a.2.2.1 * (b.1 * c.2.1 - b.2.1 * c.1)) * y = 0 → y = 0 := fun y hy => by
    rcases Int.mul_eq_zero.mp hy with q | q
    · exact absurd q hd
    · exact q
  refine v4_ext (k _ ?_) (k _ ?_) (k _ ?_) h4 <;> grind
theorem one_ {a b c P Q : V4_} (hd : d3_ a b c ≠ 0) (hp : 0 < P.2.2.2) (hq : 0 < Q.2.2.2) (mp : pm_ P) (mq : pm_ Q) (p1 : dp_ a P = 0) (p2 : dp_ b P = 0) (p3 : dp_ c P = 0) (q1 : dp_ a Q = 0) (q2 : dp_ b Q = 0) (q3 : dp_ c Q = 0) : P = Q := by
  have z := dz_ (x := lc_ Q.2.2.2 P (-P.2.2.2) Q) hd (by unfold lc_; grind) (by rw [dp_lc, p1, q1]; omega) (by rw [dp_lc, p2, q2]; omega) (by rw [dp_lc, p3, q3]; omega)
  unfold lc_ z4_ at z
  simp only [Prod.mk.injEq] at z
  exact pm_eq mp mq hq hp (by grind) (by grind) (by grind) (by grind)
def fi_ (u x : V4_) : Int := u.1 * x.1 + u.2.1 * x.2.1 + u.2.2.1 * x.2.2.1
theorem fi_lc (u : V4_) (s : Int) (a : V4_) (t : Int) (b : V4_) : fi_ u (lc_ s a t b) = s * fi_ u a + t * fi_ u b := by unfold fi_ lc_; grind
theorem cxx_ {a b : V4_} (h : cx_ a b ≠ z4_) : d3_ a b (cx_ a b) ≠ 0 := by
  intro z
  apply h
  have e : d3_ a b (cx_ a b) = (cx_ a b).1 * (cx_ a b).1 + (cx_ a b).2.1 * (cx_ a b).2.1 + (cx_ a b).2.2.1 * (cx_ a b).2.2.1 := by unfold d3_ cx_; grind
  rw [e] at z
  have sq : ∀ y : Int, 0 ≤ y * y := fun y => by
    rcases Int.le_total 0 y with q | q
    · exact Int.mul_nonneg q q
    · have := Int.mul_nonneg (show 0 ≤ -y by omega) (show 0 ≤ -y by omega)
      have e : -y * -y = y * y := by grind
      omega
  have a1 := sq (cx_ a b).1
  have a2 := sq (cx_ a b).2.1
  have a3 := sq (cx_ a b).2.2.1
  have k : ∀ y : Int, y * y = 0 → y = 0 := fun y hy => by rcases Int.mul_eq_zero.mp hy with q | q <;> exact q
  exact v4_ext (k _ (by omega)) (k _ (by omega)) (k _ (by omega)) rfl
/-- the middle of three on a line -/
theorem mid_ {a b A M C : V4_} (hcx : cx_ a b ≠ z4_) (a1 : dp_ a A = 0) (a2 : dp_ b A = 0) (m1 : dp_ a M = 0) (m2 : dp_ b M = 0) (c1 : dp_ a C = 0) (c2 : dp_ b C = 0) (h : V4_) : dp_ h M * (fi_ (cx_ a b) C * A.2.2.2 - fi_ (cx_ a b) A * C.2.2.2) = dp_ h A * (fi_ (cx_ a b) C * M.2.2.2 - fi_ (cx_ a b) M * C.2.2.2) + dp_ h C * (fi_ (cx_ a b) M * A.2.2.2 - fi_ (cx_ a b) A * M.2.2.2) := by
  have cx4 : (cx_ a b).2.2.2 = 0 := rfl
  generalize hu : cx_ a b = u at *
  have e4 : (lc_ 1 (lc_ (fi_ u C * A.2.2.2 - fi_ u A * C.2.2.2) M (-(fi_ u C * M.2.2.2 - fi_ u M * C.2.2.2)) A) (-(fi_ u M * A.2.2.2 - fi_ u A * M.2.2.2)) C).2.2.2 = 0 := by unfold lc_; grind
  have ef : fi_ u (lc_ 1 (lc_ (fi_ u C * A.2.2.2 - fi_ u A * C.2.2.2) M (-(fi_ u C * M.2.2.2 - fi_ u M * C.2.2.2)) A) (-(fi_ u M * A.2.2.2 - fi_ u A * M.2.2.2)) C) = 0 := by rw [fi_lc, fi_lc]; grind
  have z := dz_ (a := a) (b := b) (c := u) (x := lc_ 1 (lc_ (fi_ u C * A.2.2.2 - fi_ u A * C.2.2.2) M (-(fi_ u C * M.2.2.2 - fi_ u M * C.2.2.2)) A) (-(fi_ u M * A.2.2.2 - fi_ u A * M.2.2.2)) C) (by rw [← hu]; exact cxx_ (by rw [hu]; exact hcx)) e4 (by rw [dp_lc, dp_lc, a1, m1, c1]; omega) (by rw [dp_lc, dp_lc, a2, m2, c2]; omega) (by
    have : dp_ u (lc_ 1 (lc_ (fi_ u C * A.2.2.2 - fi_ u A * C.2.2.2) M (-(fi_ u C * M.2.2.2 - fi_ u M * C.2.2.2)) A) (-(fi_ u M * A.2.2.2 - fi_ u A * M.2.2.2)) C) = fi_ u (lc_ 1 (lc_ (fi_ u C * A.2.2.2 - fi_ u A * C.2.2.2) M (-(fi_ u C * M.2.2.2 - fi_ u M * C.2.2.2)) A) (-(fi_ u M * A.2.2.2 - fi_ u A * M.2.2.2)) C) + u.2.2.2 * (lc_ 1 (lc_ (fi_ u C * A.2.2.2 - fi_ u A * C.2.2.2) M (-(fi_ u C * M.2.2.2 - fi_ u M * C.2.2.2)) A) (-(fi_ u M * A.2.2.2 - fi_ u A * M.2.2.2)) C).2.2.2 := rfl
    rw [this, ef, e4]; omega)
  have : dp_ h z4_ = 0 := by rw [dp_c, dp_0]
  rw [← z, dp_lc, dp_lc] at this
  grind
/-! corners -/
def gc_ (g : Nat → V4_) (mB N : Nat) (P : V4_) : Prop := 0 < P.2.2.2 ∧ pm_ P ∧ (∀ i, i < mB → 0 ≤ dp_ (g i) P) ∧ ∃ i j l, i < j ∧ j < l ∧ l < N ∧ dp_ (g i) P = 0 ∧ dp_ (g j) P = 0 ∧ dp_ (g l) P = 0 ∧ d3_ (g i) (g j) (g l) ≠ 0
def on3_ (g : Nat → V4_) (i j l : Nat) (P : V4_) : Bool := decide (dp_ (g i) P = 0) && decide (dp_ (g j) P = 0) && decide (dp_ (g l) P = 0) && decide (d3_ (g i) (g j) (g l) ≠ 0)
theorem on3_t {g : Nat → V4_} {i j l : Nat} {P : V4_} : on3_ g i j l P = true ↔ dp_ (g i) P = 0 ∧ dp_ (g j) P = 0 ∧ dp_ (g l) P = 0 ∧ d3_ (g i) (g j) (g l) ≠ 0 := by
  unfold on3_
  simp only [Bool.and_eq_true, decide_eq_true_iff, and_assoc]
theorem d3_cx {a b c : V4_} (h : d3_ a b c ≠ 0) : cx_ a b ≠ z4_ := by
  intro z
  apply h
  simp only [cx_, z4_, Prod.mk.injEq] at z
  unfold d3_ cx_
  grind
/-- on a line, with a bound that crosses it: at most two -/
theorem ln2_ {g : Nat → V4_} {mB N i j : Nat} {L : List V4_} (hn : L.Nodup) (hL : ∀ P, P ∈ L → gc_ g mB N P) : L.countP (fun P => (List.range mB).any (fun l => on3_ g i j l P)) ≤ 2 := by
  refine le2 hn _ (fun P Q R hP hQ hR p q r n1 n2 n3 => ?_)
  simp only [List.any_eq_true, List.mem_range] at p q r
  obtain ⟨lp, lp1, lp2⟩ := p
  obtain ⟨lq, lq1, lq2⟩ := q
  obtain ⟨lr, lr1, lr2⟩ := r
  rw [on3_t] at lp2 lq2 lr2
  obtain ⟨pi, pj, pl, pd⟩ := lp2
  obtain ⟨qi, qj, ql, qd⟩ := lq2
  obtain ⟨ri, rj, rl, rd⟩ := lr2
  have hcx := d3_cx pd
  -- between two others there is none
  have mid : ∀ (A M C : V4_) (l : Nat), A ∈ L → M ∈ L → C ∈ L → A ≠ M → l < mB → dp_ (g i) A = 0 → dp_ (g j) A = 0 → dp_ (g i) M = 0 → dp_ (g j) M = 0 → dp_ (g i) C = 0 → dp_ (g j) C = 0 → dp_ (g l) M = 0 → d3_ (g i) (g j) (g l) ≠ 0 → 0 < fi_ (cx_ (g i) (g j)) C * M.2.2.2 - fi_ (cx_ (g i) (g j)) M * C.2.2.2 → 0 < fi_ (cx_ (g i) (g j)) M * A.2.2.2 - fi_ (cx_ (g i) (g j)) A * M.2.2.2 → False := by
    intro A M C l hA hM hC hne hl a1 a2 m1 m2 c1 c2 ml dl s1 s2
    have e := mid_ hcx a1 a2 m1 m2 c1 c2 (g l)
    rw [ml, Int.zero_mul] at e
    have ga := (hL A hA).2.2.1 l hl
    have gcc := (hL C hC).2.2.1 l hl
    have x1 := Int.mul_nonneg ga (Int.le_of_lt s1)
    have x2 := Int.mul_nonneg gcc (Int.le_of_lt s2)
    have z : dp_ (g l) A * (fi_ (cx_ (g i) (g j)) C * M.2.2.2 - fi_ (cx_ (g i) (g j)) M * C.2.2.2) = 0 := by omega
    have z : dp_ (g l) A = 0 := by
      rcases Int.mul_eq_zero.mp z with q | q
      · exact q
      · omega
    exact hne (one_ dl (hL A hA).1 (hL M hM).1 (hL A hA).2.1 (hL M hM).2.1 a1 a2 z m1 m2 ml)
  -- they differ along the line
  have dif : ∀ A M : V4_, A ∈ L → M ∈ L → A ≠ M → dp_ (g i) A = 0 → dp_ (g j) A = 0 → dp_ (g i) M = 0 → dp_ (g j) M = 0 → fi_ (cx_ (g i) (g j)) M * A.2.2.2 - fi_ (cx_ (g i) (g j)) A * M.2.2.2 ≠ 0 := by
    intro A M hA hM hne a1 a2 m1 m2 z
    apply hne
    have w := dz_ (a := g i) (b := g j) (c := cx_ (g i) (g j)) (x := lc_ M.2.2.2 A (-A.2.2.2) M) (cxx_ hcx) (by unfold lc_; grind) (by rw [dp_lc, a1, m1]; omega) (by rw [dp_lc, a2, m2]; omega) (by
      have e4 : (lc_ M.2.2.2 A (-A.2.2.2) M).2.2.2 = 0 := by unfold lc_; grind
      have : dp_ (cx_ (g i) (g j)) (lc_ M.2.2.2 A (-A.2.2.2) M) = fi_ (cx_ (g i) (g j)) (lc_ M.2.2.2 A (-A.2.2.2) M) + (cx_ (g i) (g j)).2.2.2 * (lc_ M.2.2.2 A (-A.2.2.2) M).2.2.2 := rfl
      rw [this, e4, fi_lc]
      grind)
    unfold lc_ z4_ at w
    simp only [Prod.mk.injEq] at w
    exact pm_eq (hL A hA).2.1 (hL M hM).2.1 (hL M hM).1 (hL A hA).1 (by grind) (by grind) (by grind) (by grind)
  have d1 := dif P Q hP hQ n1 pi pj qi qj
  have d2 := dif P R hP hR n2 pi pj ri rj
  have d3 := dif Q R hQ hR n3 qi qj ri rj
  by_cases s1 : 0 < fi_ (cx_ (g i) (g j)) Q * P.2.2.2 - fi_ (cx_ (g i) (g j)) P * Q.2.2.2
  · by_cases s3 : 0 < fi_ (cx_ (g i) (g j)) R * Q.2.2.2 - fi_ (cx_ (g i) (g j)) Q * R.2.2.2
    · exact mid P Q R lq hP hQ hR n1 lq1 pi pj qi qj ri rj ql qd s3 s1
    · by_cases s2 : 0 < fi_ (cx_ (g i) (g j)) R * P.2.2.2 - fi_ (cx_ (g i) (g j)) P * R.2.2.2
      · exact mid P R Q lr hP hR hQ n2 lr1 pi pj ri rj qi qj rl rd (by omega) s2
      · exact mid R P Q lp hR hP hQ (Ne.symm n2) lp1 ri rj pi pj qi qj pl pd s1 (by omega)
  · by_cases s3 : 0 < fi_ (cx_ (g i) (g j)) R * Q.2.2.2 - fi_ (cx_ (g i) (g j)) Q * R.2.2.2
    · by_cases s2 : 0 < fi_ (cx_ (g i) (g j)) R * P.2.2.2 - fi_ (cx_ (g i) (g j)) P * R.2.2.2
      · exact mid Q P R lp hQ hP hR (Ne.symm n1) lp1 qi qj pi pj ri rj pl pd s2 (by omega)
      · exact mid Q R P lr hQ hR hP n3 lr1 qi qj ri rj pi pj rl rd (by omega) s3
    · exact mid R Q P lq hR hQ hP (Ne.symm n3) lq1 ri rj qi qj pi pj ql qd (by omega) (by omega)
def prs_ (N : Nat) : List (Nat × Nat) := (List.range N).flatMap (fun j => (List.range j).map (fun i => (i, j)))
theorem prs_m {N i j : Nat} (h1 : i < j) (h2 : j < N) : (i, j) ∈ prs_ N := by
  unfold prs_
  rw [List.mem_flatMap]
  exact ⟨j, List.mem_range.mpr h2, List.mem_map.mpr ⟨i, List.mem_range.mpr h1, rfl⟩⟩
theorem cor_n {g : Nat → V4_} {mB N : Nat} {L : List V4_} (hm : mB ≤ N) (hn : L.Nodup) (hL : ∀ P, P ∈ L → gc_ g mB N P) : 3 * L.length ≤ (2 + 1 * (N - mB)) * (prs_ N).length := by
  refine cnt_dc (fun P (ij : Nat × Nat) => (List.range N).any (fun l => on3_ g ij.1 ij.2 l P)) L (prs_ N) 3 (2 + 1 * (N - mB)) (fun P hP => ?_) (fun ij _ => ?_)
  · obtain ⟨_, _, _, i, j, l, h1, h2, h3, z1, z2, z3, hd⟩ := hL P hP
    rw [List.countP_eq_length_filter]
    refine len3 (x := (i, j)) (y := (i, l)) (z := (j, l)) ?_ ?_ ?_ ?_ ?_ ?_
    · rw [List.mem_filter]
      refine ⟨prs_m h1 (by omega), ?_⟩
      rw [List.any_eq_true]
      exact ⟨l, List.mem_range.mpr h3, on3_t.mpr ⟨z1, z2, z3, hd⟩⟩
    · rw [List.mem_filter]
      refine ⟨prs_m (by omega) h3, ?_⟩
      rw [List.any_eq_true]
      refine ⟨j, List.mem_range.mpr (by omega), on3_t.mpr ⟨z1, z3, z2, ?_⟩⟩
      have e : d3_ (g i) (g l) (g j) = -d3_ (g i) (g j) (g l) := by unfold d3_ cx_; grind
      show d3_ (g i) (g l) (g j) ≠ 0
      omega
    · rw [List.mem_filter]
      refine ⟨prs_m h2 h3, ?_⟩
      rw [List.any_eq_true]
      refine ⟨i, List.mem_range.mpr (by omega), on3_t.mpr ⟨z2, z3, z1, ?_⟩⟩
      have e : d3_ (g j) (g l) (g i) = d3_ (g i) (g j) (g l) := by unfold d3_ cx_; grind
      show d3_ (g j) (g l) (g i) ≠ 0
      omega
    · intro q; simp at q; omega
    · intro q; simp at q; omega
    · intro q; simp at q; omega
  · obtain ⟨i, j⟩ := ij
    have a := ln2_ (i := i) (j := j) hn hL
    have b := cnt_any L (fun l P => on3_ g i j l P) 1 (fun l => le1 hn _ (fun P Q hP hQ p q => by
      rw [on3_t] at p q
      exact one_ p.2.2.2 (hL P hP).1 (hL Q hQ).1 (hL P hP).2.1 (hL Q hQ).2.1 p.1 p.2.1 p.2.2.1 q.1 q.2.1 q.2.2.1)) ((List.range (N - mB)).map (fun l => mB + l))
    have c := cnt_or L (fun P => (List.range N).any (fun l => on3_ g i j l P)) (fun P => (List.range mB).any (fun l => on3_ g i j l P)) (fun P => ((List.range (N - mB)).map (fun l => mB + l)).any (fun l => on3_ g i j l P)) (fun P _ h => by
      rw [List.any_eq_true] at h
      obtain ⟨l, l1, l2⟩ := h
      rw [List.mem_range] at l1
      by_cases q : l < mB
      · left
        rw [List.any_eq_true]
        exact ⟨l, List.mem_range.mpr q, l2⟩
      · right
        rw [List.any_eq_true]
        exact ⟨l, List.mem_map.mpr ⟨l - mB, List.mem_range.mpr (by omega), by omega⟩, l2⟩)
    rw [List.length_map, List.length_range] at b
    show L.countP (fun P => (List.range N).any (fun l => on3_ g i j l P)) ≤ _
    omega
