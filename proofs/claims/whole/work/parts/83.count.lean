/-! directions -/
def gd_ (g : Nat → V4_) (mB N : Nat) (P : V4_) : Prop := P.2.2.2 = 0 ∧ P ≠ z4_ ∧ pm_ P ∧ (∀ i, i < mB → 0 ≤ dp_ (g i) P) ∧ ∃ i j, i < j ∧ j < N ∧ dp_ (g i) P = 0 ∧ dp_ (g j) P = 0 ∧ cx_ (g i) (g j) ≠ z4_
def on2_ (g : Nat → V4_) (i j : Nat) (P : V4_) : Bool := decide (dp_ (g i) P = 0) && decide (dp_ (g j) P = 0) && decide (cx_ (g i) (g j) ≠ z4_)
theorem on2_t {g : Nat → V4_} {i j : Nat} {P : V4_} : on2_ g i j P = true ↔ dp_ (g i) P = 0 ∧ dp_ (g j) P = 0 ∧ cx_ (g i) (g j) ≠ z4_ := by
  unfold on2_
  simp only [Bool.and_eq_true, decide_eq_true_iff, and_assoc]
/-- side by side: the same or the other way -/
theorem par_ {P Q : V4_} (p4 : P.2.2.2 = 0) (q4 : Q.2.2.2 = 0) (pz : P ≠ z4_) (qz : Q ≠ z4_) (mp : pm_ P) (mq : pm_ Q) (h : cx_ P Q = z4_) : P = Q ∨ P = ng_ Q := by
  simp only [cx_, z4_, Prod.mk.injEq] at h
  obtain ⟨h1, h2, h3, -⟩ := h
  have mn : pm_ (ng_ Q) := by
    unfold pm_ at mq ⊢
    have e1 : (ng_ Q).1.natAbs = Q.1.natAbs := by unfold ng_ lc_; simp
    have e2 : (ng_ Q).2.1.natAbs = Q.2.1.natAbs := by unfold ng_ lc_; simp
    have e3 : (ng_ Q).2.2.1.natAbs = Q.2.2.1.natAbs := by unfold ng_ lc_; simp
    have e4 : (ng_ Q).2.2.2.natAbs = Q.2.2.2.natAbs := by unfold ng_ lc_; simp
    rw [e1, e2, e3, e4]; exact mq
  -- s P = t Q with s, t not 0
  have key : ∀ s t : Int, s ≠ 0 → t ≠ 0 → s * P.1 = t * Q.1 → s * P.2.1 = t * Q.2.1 → s * P.2.2.1 = t * Q.2.2.1 → P = Q ∨ P = ng_ Q := by
    intro s t hs ht e1 e2 e3
    have pos : ∀ s t : Int, 0 < s → t ≠ 0 → s * P.1 = t * Q.1 → s * P.2.1 = t * Q.2.1 → s * P.2.2.1 = t * Q.2.2.1 → P = Q ∨ P = ng_ Q := by
      intro s t hs ht e1 e2 e3
      by_cases t0 : 0 < t
      · left
        exact pm_eq mp mq hs t0 e1 e2 e3 (by rw [p4, q4]; omega)
      · right
        refine pm_eq mp mn hs (show 0 < -t by omega) ?_ ?_ ?_ ?_
        · unfold ng_ lc_; simp; grind
        · unfold ng_ lc_; simp; grind
        · unfold ng_ lc_; simp; grind
        · unfold ng_ lc_; simp; rw [p4, q4]; omega
    by_cases s0 : 0 < s
    · exact pos s t s0 ht e1 e2 e3
    · exact pos (-s) (-t) (by omega) (by omega) (by grind) (by grind) (by grind)
  have pn : P.1 ≠ 0 ∨ P.2.1 ≠ 0 ∨ P.2.2.1 ≠ 0 := by
    apply Classical.byContradiction
    intro no
    exact pz (v4_ext (by show P.1 = 0; omega) (by show P.2.1 = 0; omega) (by show P.2.2.1 = 0; omega) p4)
  have qn : Q.1 ≠ 0 ∨ Q.2.1 ≠ 0 ∨ Q.2.2.1 ≠ 0 := by
    apply Classical.byContradiction
    intro no
    exact qz (v4_ext (by show Q.1 = 0; omega) (by show Q.2.1 = 0; omega) (by show Q.2.2.1 = 0; omega) q4)
  have mz : ∀ x y : Int, x * y = 0 → x = 0 ∨ y = 0 := fun x y h => Int.mul_eq_zero.mp h
  rcases qn with q | q | q
  · refine key Q.1 P.1 q (fun z => ?_) (by grind) (by grind) (by grind)
    rcases pn with p | p | p
    · exact p z
    · rw [z] at h3; have := mz P.2.1 Q.1 (by grind); omega
    · rw [z] at h2; have := mz P.2.2.1 Q.1 (by grind); omega
  · refine key Q.2.1 P.2.1 q (fun z => ?_) (by grind) (by grind) (by grind)
    rcases pn with p | p | p
    · rw [z] at h3; have := mz P.1 Q.2.1 (by grind); omega
    · exact p z
    · rw [z] at h1; have := mz P.2.2.1 Q.2.1 (by grind); omega
  · refine key Q.2.2.1 P.2.2.1 q (fun z => ?_) (by grind) (by grind) (by grind)
    rcases pn with p | p | p
    · rw [z] at h2; have := mz P.1 Q.2.2.1 (by grind); omega
    · rw [z] at h1; have := mz P.2.1 Q.2.2.1 (by grind); omega
    · exact p z
/-- at right angles to two that are not side by side -/
theorem pcx_ {a b P Q : V4_} (h : cx_ a b ≠ z4_) (p4 : P.2.2.2 = 0) (q4 : Q.2.2.2 = 0) (pa : dp_ a P = 0) (pb : dp_ b P = 0) (qa : dp_ a Q = 0) (qb : dp_ b Q = 0) : cx_ P Q = z4_ := by
  have d := cxx_ h
  have c4 : (cx_ P Q).2.2.2 = 0 := rfl
  -- it lies along cx a b, and is at right angles to it
  unfold dp_ at pa pb qa qb
  rw [p4] at pa pb
  rw [q4] at qa qb
  have e : d3_ a b (cx_ a b) = (cx_ a b).1 * (cx_ a b).1 + (cx_ a b).2.1 * (cx_ a b).2.1 + (cx_ a b).2.2.1 * (cx_ a b).2.2.1 := by unfold d3_ cx_; grind
  have k : ∀ y : Int, d3_ a b (cx_ a b) * y = 0 → y = 0 := fun y hy => by
    rcases Int.mul_eq_zero.mp hy with q | q
    · exact absurd q d
    · exact q
  -- |u|^2 P = (P.u) u
  have hP : ∀ X : V4_, a.1 * X.1 + a.2.1 * X.2.1 + a.2.2.1 * X.2.2.1 + a.2.2.2 * 0 = 0 → b.1 * X.1 + b.2.1 * X.2.1 + b.2.2.1 * X.2.2.1 + b.2.2.2 * 0 = 0 → d3_ a b (cx_ a b) * X.1 = fi_ (cx_ a b) X * (cx_ a b).1 ∧ d3_ a b (cx_ a b) * X.2.1 = fi_ (cx_ a b) X * (cx_ a b).2.1 ∧ d3_ a b (cx_ a b) * X.2.2.1 = fi_ (cx_ a b) X * (cx_ a b).2.2.1 := by
    intro X x1 x2
    unfold d3_ fi_ cx_
    refine ⟨?_, ?_, ?_⟩ <;> grind
  obtain ⟨p1, p2, p3⟩ := hP P pa pb
  obtain ⟨q1, q2, q3⟩ := hP Q qa qb
  generalize d3_ a b (cx_ a b) = D at *
  generalize fi_ (cx_ a b) P = s at *
  generalize fi_ (cx_ a b) Q = t at *
  generalize cx_ a b = u at *
  have k2 : ∀ y : Int, D * (D * y) = 0 → y = 0 := fun y hy => k _ (k _ hy)
  unfold z4_
  refine v4_ext (k2 _ ?_) (k2 _ ?_) (k2 _ ?_) rfl
  · show D * (D * (P.2.1 * Q.2.2.1 - P.2.2.1 * Q.2.1)) = 0
    have : D * (D * (P.2.1 * Q.2.2.1 - P.2.2.1 * Q.2.1)) = (D * P.2.1) * (D * Q.2.2.1) - (D * P.2.2.1) * (D * Q.2.1) := by grind
    rw [this, p2, p3, q2, q3]; grind
  · show D * (D * (P.2.2.1 * Q.1 - P.1 * Q.2.2.1)) = 0
    have : D * (D * (P.2.2.1 * Q.1 - P.1 * Q.2.2.1)) = (D * P.2.2.1) * (D * Q.1) - (D * P.1) * (D * Q.2.2.1) := by grind
    rw [this, p1, p3, q1, q3]; grind
  · show D * (D * (P.1 * Q.2.1 - P.2.1 * Q.1)) = 0
    have : D * (D * (P.1 * Q.2.1 - P.2.1 * Q.1)) = (D * P.1) * (D * Q.2.1) - (D * P.2.1) * (D * Q.1) := by grind
    rw [this, p1, p2, q1, q2]; grind
/-- area in the plane of n -/
def ar_ (n P Q : V4_) : Int := d3_ n P Q
theorem ar_0 {n P Q : V4_} (hn : ¬ (n.1 = 0 ∧ n.2.1 = 0 ∧ n.2.2.1 = 0)) (pn : fi_ n P = 0) (qn : fi_ n Q = 0) (h : ar_ n P Q = 0) : cx_ P Q = z4_ := by
  -- n x (P x Q) = P (n.Q) - Q (n.P) = 0, so P x Q along n; n.(P x Q) = 0
  unfold ar_ d3_ cx_ at h
  unfold fi_ at pn qn
  have N : n.1 * n.1 + n.2.1 * n.2.1 + n.2.2.1 * n.2.2.1 ≠ 0 := by
    intro z
    have sq : ∀ y : Int, 0 ≤ y * y := fun y => by
      rcases Int.le_total 0 y with q | q
      · exact Int.mul_nonneg q q
      · have := Int.mul_nonneg (show 0 ≤ -y by omega) (show 0 ≤ -y by omega)
        have e : -y * -y = y * y := by grind
        omega
    have a1 := sq n.1
    have a2 := sq n.2.1
    have a3 := sq n.2.2.1
    have k : ∀ y : Int, y * y = 0 → y = 0 := fun y hy => by rcases Int.mul_eq_zero.mp hy with q | q <;> exact q
    exact hn ⟨k _ (by omega), k _ (by omega), k _ (by omega)⟩
  have k : ∀ y : Int, (n.1 * n.1 + n.2.1 * n.2.1 + n.2.2.1 * n.2.2.1) * y = 0 → y = 0 := fun y hy => by
    rcases Int.mul_eq_zero.mp hy with q | q
    · exact absurd q N
    · exact q
  unfold cx_ z4_
  refine v4_ext (k _ ?_) (k _ ?_) (k _ ?_) rfl <;> grind
theorem ar_s {n P Q R : V4_} (hn : ¬ (n.1 = 0 ∧ n.2.1 = 0 ∧ n.2.2.1 = 0)) (p4 : P.2.2.2 = 0) (q4 : Q.2.2.2 = 0) (r4 : R.2.2.2 = 0) (pn : fi_ n P = 0) (qn : fi_ n Q = 0) (rn : fi_ n R = 0) (h : V4_) : ar_ n Q R * dp_ h P + ar_ n R P * dp_ h Q + ar_ n P Q * dp_ h R = 0 := by
  have d0 : d3_ P Q R = 0 := by
    apply Classical.byContradiction
    intro z
    have e : d3_ P Q R = d3_ Q R P ∧ d3_ P Q R = d3_ R P Q := by unfold d3_ cx_; constructor <;> grind
    unfold fi_ at pn qn rn
    have m : ∀ y : Int, d3_ P Q R * y = 0 → y = 0 := fun y hy => by
      rcases Int.mul_eq_zero.mp hy with q | q
      · exact absurd q z
      · exact q
    apply hn
    unfold d3_ cx_ at m
    refine ⟨m _ ?_, m _ ?_, m _ ?_⟩ <;> grind
  unfold ar_ dp_
  rw [p4, q4, r4]
  unfold d3_ cx_ at d0 ⊢
  grind
theorem cx_nz {a b : V4_} (h : cx_ a b ≠ z4_) : ¬ (a.1 = 0 ∧ a.2.1 = 0 ∧ a.2.2.1 = 0) := by
  rintro ⟨h1, h2, h3⟩
  apply h
  unfold cx_ z4_
  rw [h1, h2, h3]; simp
theorem dfi_ {a P : V4_} (p4 : P.2.2.2 = 0) : dp_ a P = fi_ a P := by
  unfold dp_ fi_; rw [p4]; omega
theorem pl2_ {g : Nat → V4_} {mB N i : Nat} {L : List V4_} (hn : L.Nodup) (hL : ∀ P, P ∈ L → gd_ g mB N P) : L.countP (fun P => (List.range mB).any (fun j => on2_ g i j P)) ≤ 2 := by
  refine le2 hn _ (fun P Q R hP hQ hR p q r n1 n2 n3 => ?_)
  simp only [List.any_eq_true, List.mem_range] at p q r
  obtain ⟨jp, jp1, jp2⟩ := p
  obtain ⟨jq, jq1, jq2⟩ := q
  obtain ⟨jr, jr1, jr2⟩ := r
  rw [on2_t] at jp2 jq2 jr2
  obtain ⟨pi, pj, pd⟩ := jp2
  obtain ⟨qi, qj, qd⟩ := jq2
  obtain ⟨ri, rj, rd⟩ := jr2
  have nz := cx_nz pd
  have fP : fi_ (g i) P = 0 := by rw [← dfi_ (hL P hP).1]; exact pi
  have fQ : fi_ (g i) Q = 0 := by rw [← dfi_ (hL Q hQ).1]; exact qi
  have fR : fi_ (g i) R = 0 := by rw [← dfi_ (hL R hR).1]; exact ri
  -- a bound through A that B lies on too: side by side
  have on : ∀ (A B : V4_) (j : Nat), A ∈ L → B ∈ L → dp_ (g i) A = 0 → dp_ (g i) B = 0 → dp_ (g j) A = 0 → dp_ (g j) B = 0 → cx_ (g i) (g j) ≠ z4_ → A = B ∨ A = ng_ B := fun A B j hA hB a1 b1 a2 b2 hc =>
    par_ (hL A hA).1 (hL B hB).1 (hL A hA).2.1 (hL B hB).2.1 (hL A hA).2.2.1 (hL B hB).2.2.1 (pcx_ hc (hL A hA).1 (hL B hB).1 a1 a2 b1 b2)
  -- two that go the other way leave no third
  have opp : ∀ (A B C : V4_) (j : Nat), A ∈ L → B ∈ L → C ∈ L → A ≠ C → B ≠ C → A = ng_ B → dp_ (g i) A = 0 → dp_ (g i) B = 0 → dp_ (g i) C = 0 → j < mB → dp_ (g j) C = 0 → cx_ (g i) (g j) ≠ z4_ → False := by
    intro A B C j hA hB hC nAC nBC e a1 b1 c1 hj c2 hc
    have ga := (hL A hA).2.2.2.1 j hj
    have gb := (hL B hB).2.2.2.1 j hj
    have ea : dp_ (g j) A = -dp_ (g j) B := by rw [e, dp_c, dp_ng, dp_c]
    have a2 : dp_ (g j) A = 0 := by omega
    rcases on A C j hA hC a1 c1 a2 c2 hc with z | z
    · exact nAC z
    · apply nBC
      rw [e] at z
      unfold ng_ lc_ at z
      simp only [Prod.mk.injEq] at z
      exact v4_ext (by omega) (by omega) (by omega) (by omega)
  by_cases w3 : ar_ (g i) P Q = 0
  · rcases par_ (hL P hP).1 (hL Q hQ).1 (hL P hP).2.1 (hL Q hQ).2.1 (hL P hP).2.2.1 (hL Q hQ).2.2.1 (ar_0 nz fP fQ w3) with z | z
    · exact n1 z
    · exact opp P Q R jr hP hQ hR n2 n3 z pi qi ri jr1 rj rd
  by_cases w1 : ar_ (g i) Q R = 0
  · rcases par_ (hL Q hQ).1 (hL R hR).1 (hL Q hQ).2.1 (hL R hR).2.1 (hL Q hQ).2.2.1 (hL R hR).2.2.1 (ar_0 nz fQ fR w1) with z | z
    · exact n3 z
    · exact opp Q R P jp hQ hR hP (Ne.symm n1) (Ne.symm n2) z qi ri pi jp1 pj pd
  by_cases w2 : ar_ (g i) R P = 0
  · rcases par_ (hL R hR).1 (hL P hP).1 (hL R hR).2.1 (hL P hP).2.1 (hL R hR).2.2.1 (hL P hP).2.2.1 (ar_0 nz fR fP w2) with z | z
    · exact n2 z.symm
    · exact opp R P Q jq hR hP hQ (Ne.symm n3) n1 z ri pi qi jq1 qj qd
  have sR := ar_s nz (hL P hP).1 (hL Q hQ).1 (hL R hR).1 fP fQ fR (g jr)
  have sP := ar_s nz (hL P hP).1 (hL Q hQ).1 (hL R hR).1 fP fQ fR (g jp)
  have sQ := ar_s nz (hL P hP).1 (hL Q hQ).1 (hL R hR).1 fP fQ fR (g jq)
  rw [rj] at sR
  rw [pj] at sP
  rw [qj] at sQ
  have pos : ∀ (A C : V4_) (j : Nat), A ∈ L → C ∈ L → dp_ (g i) A = 0 → dp_ (g i) C = 0 → ar_ (g i) A C ≠ 0 → j < mB → dp_ (g j) C = 0 → cx_ (g i) (g j) ≠ z4_ → 0 < dp_ (g j) A := by
    intro A C j hA hC a1 c1 hw hj c2 hc
    have ga := (hL A hA).2.2.2.1 j hj
    apply Classical.byContradiction
    intro no
    apply hw
    have z := pcx_ hc (hL A hA).1 (hL C hC).1 a1 (show dp_ (g j) A = 0 by omega) c1 c2
    have e : ar_ (g i) A C = (g i).1 * (cx_ A C).1 + (g i).2.1 * (cx_ A C).2.1 + (g i).2.2.1 * (cx_ A C).2.2.1 := rfl
    rw [e, z]
    unfold z4_; simp
  have sw : ∀ A C : V4_, ar_ (g i) A C = -ar_ (g i) C A := fun A C => by unfold ar_ d3_ cx_; grind
  have rP := pos P R jr hP hR pi ri (by have := sw P R; omega) jr1 rj rd
  have rQ := pos Q R jr hQ hR qi ri w1 jr1 rj rd
  have pQ := pos Q P jp hQ hP qi pi (by have := sw Q P; omega) jp1 pj pd
  have pR := pos R P jp hR hP ri pi w2 jp1 pj pd
  have qP := pos P Q jq hP hQ pi qi w3 jq1 qj qd
  have qR := pos R Q jq hR hQ ri qi (by have := sw R Q; omega) jq1 qj qd
  -- signs
  have sgn : ∀ a b x y : Int, 0 < x → 0 < y → a * x + b * y = 0 → (0 < a → b < 0) ∧ (a < 0 → 0 < b) := by
    intro a b x y hx hy h
    constructor
    · intro ha
      apply Classical.byContradiction
      intro no
      have := Int.mul_pos ha hx
      have := Int.mul_nonneg (show 0 ≤ b by omega) (Int.le_of_lt hy)
      omega
    · intro ha
      apply Classical.byContradiction
      intro no
      have m1 := Int.mul_pos (show 0 < -a by omega) hx
      have m2 := Int.mul_nonneg (show 0 ≤ -b by omega) (Int.le_of_lt hy)
      have e1 : -a * x = -(a * x) := by grind
      have e2 : -b * y = -(b * y) := by grind
      omega
  have t1 := sgn (ar_ (g i) Q R) (ar_ (g i) R P) _ _ rP rQ (by omega)
  have t2 := sgn (ar_ (g i) R P) (ar_ (g i) P Q) _ _ pQ pR (by omega)
  have t3 := sgn (ar_ (g i) Q R) (ar_ (g i) P Q) _ _ qP qR (by omega)
  omega
theorem ln4_ {g : Nat → V4_} {mB N i j : Nat} {L : List V4_} (hn : L.Nodup) (hL : ∀ P, P ∈ L → gd_ g mB N P) : L.countP (fun P => on2_ g i j P) ≤ 2 := by
  refine le2 hn _ (fun P Q R hP hQ hR p q r n1 n2 n3 => ?_)
  rw [on2_t] at p q r
  have on : ∀ (A B : V4_), A ∈ L → B ∈ L → dp_ (g i) A = 0 → dp_ (g i) B = 0 → dp_ (g j) A = 0 → dp_ (g j) B = 0 → A = B ∨ A = ng_ B := fun A B hA hB a1 b1 a2 b2 =>
    par_ (hL A hA).1 (hL B hB).1 (hL A hA).2.1 (hL B hB).2.1 (hL A hA).2.2.1 (hL B hB).2.2.1 (pcx_ p.2.2 (hL A hA).1 (hL B hB).1 a1 a2 b1 b2)
  rcases on P Q hP hQ p.1 q.1 p.2.1 q.2.1 with z | z
  · exact n1 z
  · rcases on P R hP hR p.1 r.1 p.2.1 r.2.1 with w | w
    · exact n2 w
    · apply n3
      rw [z] at w
      unfold ng_ lc_ at w
      simp only [Prod.mk.injEq] at w
      exact v4_ext (by omega) (by omega) (by omega) (by omega)
theorem dir_n {g : Nat → V4_} {mB N : Nat} {L : List V4_} (hm : mB ≤ N) (hn : L.Nodup) (hL : ∀ P, P ∈ L → gd_ g mB N P) : 2 * L.length ≤ (2 + 2 * (N - mB)) * N := by
  have := cnt_dc (fun P (i : Nat) => (List.range N).any (fun j => on2_ g i j P)) L (List.range N) 2 (2 + 2 * (N - mB)) (fun P hP => ?_) (fun i _ => ?_)
  · rw [List.length_range] at this; exact this
  · obtain ⟨_, _, _, _, i, j, h1, h2, z1, z2, hd⟩ := hL P hP
    rw [List.countP_eq_length_filter]
    refine len2 (x := i) (y := j) ?_ ?_ (by omega)
    · rw [List.mem_filter]
      refine ⟨List.mem_range.mpr (by omega), ?_⟩
      rw [List.any_eq_true]
      exact ⟨j, List.mem_range.mpr h2, on2_t.mpr ⟨z1, z2, hd⟩⟩
    · rw [List.mem_filter]
      refine ⟨List.mem_range.mpr h2, ?_⟩
      rw [List.any_eq_true]
      refine ⟨i, List.mem_range.mpr (by omega), on2_t.mpr ⟨z2, z1, fun z => hd ?_⟩⟩
      simp only [cx_, z4_, Prod.mk.injEq] at z ⊢
      grind
  · have a := pl2_ (i := i) hn hL
    have b := cnt_any L (fun j P => on2_ g i j P) 2 (fun j => ln4_ hn hL) ((List.range (N - mB)).map (fun l => mB + l))
    have c := cnt_or L (fun P => (List.range N).any (fun l => on2_ g i l P)) (fun P => (List.range mB).any (fun l => on2_ g i l P)) (fun P => ((List.range (N - mB)).map (fun l => mB + l)).any (fun l => on2_ g i l P)) (fun P _ h => by
      rw [List.any_eq_true] at h
      obtain ⟨l, l1, l2⟩ := h
      rw [List.mem_range] at l1
      by_cases q : l < mB
      · left
        rw [List.any_eq_true]
        exact ⟨l, List.mem_range.mpr q, l2⟩
      · right
        rw [List.any_eq_true]
        exact ⟨l, List.mem_map.mpr ⟨l - mB, List.mem_range.mpr (by omega), by omega⟩, l2⟩)
    rw [List.length_map, List.length_range] at b
    show L.countP (fun P => (List.range N).any (fun l => on2_ g i l P)) ≤ _
    omega
theorem prs_l {N : Nat} (h : N ≤ 12) : 2 * (prs_ N).length = N * (N - 1) := by
  have : N = 0 ∨ N = 1 ∨ N = 2 ∨ N = 3 ∨ N = 4 ∨ N = 5 ∨ N = 6 ∨ N = 7 ∨ N = 8 ∨ N = 9 ∨ N = 10 ∨ N = 11 ∨ N = 12 := by omega
  rcases this with rfl | rfl | rfl | rfl | rfl | rfl | rfl | rfl | rfl | rfl | rfl | rfl | rfl <;> rfl
theorem cor_60 {g : Nat → V4_} {mB N : Nat} {L : List V4_} (hm : mB ≤ N) (h12 : N + (N - mB) ≤ 12) (h3 : N - mB ≤ 3) (hn : L.Nodup) (hL : ∀ P, P ∈ L → gc_ g mB N P) : L.length ≤ 60 := by
  have a := cor_n hm hn hL
  have b := prs_l (N := N) (by omega)
  have mono : N * (N - 1) ≤ (12 - (N - mB)) * (12 - (N - mB) - 1) := Nat.mul_le_mul (by omega) (by omega)
  have : N - mB = 0 ∨ N - mB = 1 ∨ N - mB = 2 ∨ N - mB = 3 := by omega
  rcases this with h | h | h | h <;> rw [h] at a mono <;> omega
theorem dir_36 {g : Nat → V4_} {mB N : Nat} {L : List V4_} (hm : mB ≤ N) (h12 : N + (N - mB) ≤ 12) (h3 : N - mB ≤ 3) (hn : L.Nodup) (hL : ∀ P, P ∈ L → gd_ g mB N P) : L.length ≤ 36 := by
  have a := dir_n hm hn hL
  have : N - mB = 0 ∨ N - mB = 1 ∨ N - mB = 2 ∨ N - mB = 3 := by omega
  rcases this with h | h | h | h <;> rw [h] at a h12 <;> omega
