/-! how many turns there are at most -/
def In_ (d : xm_Y) (i : Nat) : Prop := (d.1 156 (2 * i) = 0 → ¬ d.2 154 i < d.2 155 (2 * i)) ∧ (d.1 156 (2 * i + 1) = 0 → d.2 154 i ≤ d.2 155 (2 * i + 1))
theorem far9 {x : Int64} (h1 : -1000000000 ≤ x.toInt) : ¬ x = -3000000000000 := fun e => by
  rw [e, show (-3000000000000 : Int64).toInt = -3000000000000 from rfl] at h1
  omega
theorem en127 {m i s : Nat} {u : xm_Y} (hi : i < 3) (hs : s < 2) : fn_X2_end m 127 (nI i) (nI s) u = some (u.2 128 (2 * i + s), u) := by
  rw [fn_X2_end, show (2 : Int32) = nI 2 from rfl, nI_mu, nI_ad, ck_t (nI_xi (show 2 * i + s < 6 by omega) (by omega)), nI_cl (by omega)]
theorem enc_1 {m : Nat} {c d : xm_Y} {n : Nat} (h3 : iv_3 c d n) (h5 : iv_5 c d n) (n3 : n ≤ 3) {i : Nat} (hi : i < n) (f : Nat) : (In_ d i → lp_X2_encloses_2 m 127 123 (f + 1) (nI i) c = lp_X2_encloses_2 m 127 123 f (nI (i + 1)) c) ∧ (¬ In_ d i → lp_X2_encloses_2 m 127 123 (f + 1) (nI i) c = some (.inl (0, c))) := by
  have e0 := en127 (m := m) (i := i) (s := 0) (u := c) (by omega) (by omega)
  have e1 := en127 (m := m) (i := i) (s := 1) (u := c) (by omega) (by omega)
  rw [Nat.add_zero] at e0
  have p := (h3 i (by omega)).1
  have L0 := (h5 (2 * i) (by omega)).1 (by omega)
  have L1 := (h5 (2 * i + 1) (by omega)).1 (by omega)
  have base : lp_X2_encloses_2 m 127 123 (f + 1) (nI i) c = if c.2 128 (2 * i) = -3000000000000 then (if c.2 128 (2 * i + 1) = -3000000000000 then lp_X2_encloses_2 m 127 123 f (nI (i + 1)) c else if d.2 154 i ≤ c.2 128 (2 * i + 1) then lp_X2_encloses_2 m 127 123 f (nI (i + 1)) c else some (.inl (0, c))) else if c.2 128 (2 * i) ≤ d.2 154 i then (if c.2 128 (2 * i + 1) = -3000000000000 then lp_X2_encloses_2 m 127 123 f (nI (i + 1)) c else if d.2 154 i ≤ c.2 128 (2 * i + 1) then lp_X2_encloses_2 m 127 123 f (nI (i + 1)) c else some (.inl (0, c))) else some (.inl (0, c)) := by
    rw [lp_X2_encloses_2, if_neg (show ¬ (3 : Int32) ≤ nI i from fun q => absurd ((nIle (a := 3) (by omega) (by omega)).mp q) (by omega)), show fn_X2_end m 127 (nI i) (0 : Int32) c = _ from e0]
    simp only [Option.bind_some]
    rw [show fn_X2_end m 127 (nI i) (1 : Int32) c = _ from e1]
    simp only [Option.bind_some, xm_let]
    rw [nI_cl (by omega), p, ck_t (nI_xi (by omega) (by omega)), ck_t (nI_xi (by omega) (by omega)), nI_succ]
  rw [base]
  unfold In_
  rcases L0 with ⟨a1, a2⟩ | ⟨a1, a2, a3, a4⟩
  · rw [a2, if_pos rfl]
    rcases L1 with ⟨b1, b2⟩ | ⟨b1, b2, b3, b4⟩
    · rw [b2, if_pos rfl]
      exact ⟨fun _ => rfl, fun w => absurd ⟨fun z => absurd (a1.symm.trans z) (by decide), fun z => absurd (b1.symm.trans z) (by decide)⟩ w⟩
    · rw [b2, if_neg (far9 b3)]
      refine ⟨fun w => by rw [if_pos (w.2 b1)], fun w => by rw [if_neg (fun z => w ⟨fun z => absurd (a1.symm.trans z) (by decide), fun _ => z⟩)]⟩
  · rw [a2, if_neg (far9 a3)]
    by_cases q : d.2 154 i < d.2 155 (2 * i)
    · rw [if_neg (Int64.not_le.mpr q)]
      exact ⟨fun w => absurd q (w.1 a1), fun _ => rfl⟩
    · rw [if_pos (Int64.not_lt.mp q)]
      rcases L1 with ⟨b1, b2⟩ | ⟨b1, b2, b3, b4⟩
      · rw [b2, if_pos rfl]
        exact ⟨fun _ => rfl, fun w => absurd ⟨fun _ => q, fun z => absurd (b1.symm.trans z) (by decide)⟩ w⟩
      · rw [b2, if_neg (far9 b3)]
        exact ⟨fun w => by rw [if_pos (w.2 b1)], fun w => by rw [if_neg (fun z => w ⟨fun _ => q, fun _ => z⟩)]⟩
theorem enc_2 {m : Nat} {c d : xm_Y} {n : Nat} (h3 : iv_3 c d n) (h5 : iv_5 c d n) {i : Nat} (hi : n ≤ i) (i3 : i < 3) (f : Nat) : lp_X2_encloses_2 m 127 123 (f + 1) (nI i) c = lp_X2_encloses_2 m 127 123 f (nI (i + 1)) c := by
  have e0 := en127 (m := m) (i := i) (s := 0) (u := c) (by omega) (by omega)
  have e1 := en127 (m := m) (i := i) (s := 1) (u := c) (by omega) (by omega)
  rw [Nat.add_zero] at e0
  obtain ⟨p, -, -, p0⟩ := h3 i (by omega)
  have L0 := ((h5 (2 * i) (by omega)).2 (by omega)).2
  have L1 := ((h5 (2 * i + 1) (by omega)).2 (by omega)).2
  rw [lp_X2_encloses_2, if_neg (show ¬ (3 : Int32) ≤ nI i from fun q => absurd ((nIle (a := 3) (by omega) (by omega)).mp q) (by omega)), show fn_X2_end m 127 (nI i) (0 : Int32) c = _ from e0]
  simp only [Option.bind_some]
  rw [show fn_X2_end m 127 (nI i) (1 : Int32) c = _ from e1]
  simp only [Option.bind_some, xm_let]
  rw [nI_cl (by omega), p, p0 hi, L0, L1, if_neg (by decide), ck_t (nI_xi (by omega) (by omega)), if_pos (by decide), if_neg (by decide), ck_t (nI_xi (by omega) (by omega)), if_pos (by decide), nI_succ]
theorem enc_3 {m f : Nat} {c : xm_Y} : lp_X2_encloses_2 m 127 123 (f + 1) (nI 3) c = some (.inr (nI 3, c)) := by
  rw [lp_X2_encloses_2, if_pos (by decide)]
def tm_ (d : xm_Y) (i : Nat) : Int64 := Int32.toInt64 (d.1 162 i) * d.2 154 i
theorem bnd_1 {m : Nat} {d : xm_Y} {n : Nat} (hn : d.1 150 0 = nI n) (n3 : n ≤ 3) {i : Nat} (hi : i < n) (b01 : ∀ k, k < 6 → d.1 156 k = 0 ∨ d.1 156 k = 1) (f : Nat) (a : Int64) : (In_ d i → lp_X12_bound_15 m d (f + 1) a (nI i) = lp_X12_bound_15 m d f (a + tm_ d i) (nI (i + 1))) ∧ (¬ In_ d i → lp_X12_bound_15 m d (f + 1) a (nI i) = some (.inl (-3, d))) := by
  have i2 : (2 : Int32) * nI i = nI (2 * i) := nI_mu 2 i
  have i3 : nI (2 * i) + 1 = nI (2 * i + 1) := nI_ad _ 1
  have base : lp_X12_bound_15 m d (f + 1) a (nI i) = if d.1 156 (2 * i) = 0 then (if d.2 154 i < d.2 155 (2 * i) then some (.inl (-3, d)) else if d.1 156 (2 * i + 1) = 0 then (if d.2 154 i ≤ d.2 155 (2 * i + 1) then lp_X12_bound_15 m d f (a + tm_ d i) (nI (i + 1)) else some (.inl (-3, d))) else lp_X12_bound_15 m d f (a + tm_ d i) (nI (i + 1))) else if d.1 156 (2 * i + 1) = 0 then (if d.2 154 i ≤ d.2 155 (2 * i + 1) then lp_X12_bound_15 m d f (a + tm_ d i) (nI (i + 1)) else some (.inl (-3, d))) else lp_X12_bound_15 m d f (a + tm_ d i) (nI (i + 1)) := by
    have k6 : xm_in (nI (2 * i)) 6 := nI_xi (by omega) (by omega)
    have k7 : xm_in (nI (2 * i + 1)) 6 := nI_xi (by omega) (by omega)
    have k3 : xm_in (nI i) 3 := nI_xi (by omega) (by omega)
    rw [lp_X12_bound_15, hn, if_neg (fun q => absurd ((nIle (by omega) (by omega)).mp q) (by omega)), i2, i3]
    simp only [ck_t k6, ck_t k7, ck_t k3, xm_let]
    rw [nI_cl (show i < 2 ^ 31 by omega), nI_cl (show 2 * i < 2 ^ 31 by omega), nI_cl (show 2 * i + 1 < 2 ^ 31 by omega), ← nI_succ]
    rfl
  rw [base]
  unfold In_
  rcases b01 (2 * i) (by omega) with a1 | a1
  · rw [if_pos a1]
    by_cases q : d.2 154 i < d.2 155 (2 * i)
    · rw [if_pos q]
      exact ⟨fun w => absurd q (w.1 a1), fun _ => rfl⟩
    · rw [if_neg q]
      rcases b01 (2 * i + 1) (by omega) with b1 | b1
      · rw [if_pos b1]
        exact ⟨fun w => by rw [if_pos (w.2 b1)], fun w => by rw [if_neg (fun z => w ⟨fun _ => q, fun _ => z⟩)]⟩
      · rw [if_neg (by rw [b1]; decide)]
        exact ⟨fun _ => rfl, fun w => absurd ⟨fun _ => q, fun z => absurd (b1.symm.trans z) (by decide)⟩ w⟩
  · rw [if_neg (by rw [a1]; decide)]
    rcases b01 (2 * i + 1) (by omega) with b1 | b1
    · rw [if_pos b1]
      exact ⟨fun w => by rw [if_pos (w.2 b1)], fun w => by rw [if_neg (fun z => w ⟨fun z => absurd (a1.symm.trans z) (by decide), fun _ => z⟩)]⟩
    · rw [if_neg (by rw [b1]; decide)]
      exact ⟨fun _ => rfl, fun w => absurd ⟨fun z => absurd (a1.symm.trans z) (by decide), fun z => absurd (b1.symm.trans z) (by decide)⟩ w⟩
theorem bnd_2 {m f : Nat} {d : xm_Y} {n : Nat} (hn : d.1 150 0 = nI n) (n3 : n ≤ 3) (a : Int64) : lp_X12_bound_15 m d (f + 1) a (nI n) = some (.inr (a, nI n)) := by
  rw [lp_X12_bound_15, hn, if_pos ((nIle (by omega) (by omega)).mpr (Nat.le_refl _))]
/-- both walk the place -/
theorem enc_ {m : Nat} (hm : 10 ≤ m) {c d : xm_Y} {n : Nat} (h3 : iv_3 c d n) (h5 : iv_5 c d n) (hn : d.1 150 0 = nI n) (n1 : 1 ≤ n) (n3 : n ≤ 3) : (fn_X2_encloses m 127 123 c = some (0, c) ∧ lp_X12_bound_15 m d m 1 (0 : Int32) = some (.inl (-3, d))) ∨ (fn_X2_encloses m 127 123 c = some (1, c) ∧ ∃ l, lp_X12_bound_15 m d m 1 (0 : Int32) = some (.inr (1 + tm_ d 0 + tm_ d 1 + tm_ d 2, l))) := by
  obtain ⟨f, rfl⟩ : ∃ f, m = f + 4 := ⟨m - 4, by omega⟩
  have b01 : ∀ k, k < 6 → d.1 156 k = 0 ∨ d.1 156 k = 1 := fun k hk => by
    by_cases q : k < 2 * n
    · rcases (h5 k hk).1 q with ⟨w, _⟩ | ⟨w, _⟩
      · exact Or.inr w
      · exact Or.inl w
    · exact Or.inr ((h5 k hk).2 (by omega)).1
  have z : ∀ i, n ≤ i → i < 3 → tm_ d i = 0 := fun i a b => by unfold tm_; rw [(h3 i b).2.2.2 a]; exact Int64.mul_zero
  have E1 : ∀ i f', i < n → _ := fun i f' hi => enc_1 (m := f + 4) h3 h5 n3 (i := i) hi f'
  have B1 : ∀ i f' a, i < n → _ := fun i f' a hi => bnd_1 (m := f + 4) hn n3 (i := i) hi b01 f' a
  have e0 : fn_X2_encloses (f + 4) 127 123 c = ((lp_X2_encloses_2 (f + 4) 127 123 (f + 3 + 1) (nI 0) c).bind (Sum.elim (fun r => some r) (fun q14 => some ((1 : Int32), q14.2)))) := rfl
  rw [e0, show lp_X12_bound_15 (f + 4) d (f + 4) 1 (0 : Int32) = lp_X12_bound_15 (f + 4) d (f + 3 + 1) 1 (nI 0) from rfl]
  by_cases q0 : In_ d 0
  · rw [(E1 0 (f + 3) (by omega)).1 q0, (B1 0 (f + 3) 1 (by omega)).1 q0]
    by_cases m1 : 1 < n
    · by_cases q1 : In_ d 1
      · rw [(E1 1 (f + 2) (by omega)).1 q1, (B1 1 (f + 2) _ (by omega)).1 q1]
        by_cases m2 : 2 < n
        · by_cases q2 : In_ d 2
          · rw [(E1 2 (f + 1) (by omega)).1 q2, (B1 2 (f + 1) _ (by omega)).1 q2, enc_3]
            obtain rfl : n = 3 := by omega
            rw [bnd_2 hn n3]
            exact Or.inr ⟨rfl, _, rfl⟩
          · rw [(E1 2 (f + 1) (by omega)).2 q2, (B1 2 (f + 1) _ (by omega)).2 q2]
            exact Or.inl ⟨rfl, rfl⟩
        · obtain rfl : n = 2 := by omega
          rw [enc_2 h3 h5 (i := 2) (by omega) (by omega) (f + 1), enc_3, bnd_2 hn n3, z 2 (by omega) (by omega), Int64.add_zero]
          exact Or.inr ⟨rfl, _, rfl⟩
      · rw [(E1 1 (f + 2) (by omega)).2 q1, (B1 1 (f + 2) _ (by omega)).2 q1]
        exact Or.inl ⟨rfl, rfl⟩
    · obtain rfl : n = 1 := by omega
      rw [enc_2 h3 h5 (i := 1) (by omega) (by omega) (f + 2), enc_2 h3 h5 (i := 2) (by omega) (by omega) (f + 1), enc_3, bnd_2 hn n3, z 1 (by omega) (by omega), z 2 (by omega) (by omega), Int64.add_zero, Int64.add_zero]
      exact Or.inr ⟨rfl, _, rfl⟩
  · rw [(E1 0 (f + 3) (by omega)).2 q0, (B1 0 (f + 3) 1 (by omega)).2 q0]
    exact Or.inl ⟨rfl, rfl⟩
theorem tf_bound {m : Nat} (hm : 3100 ≤ m) : tf_ PL_ FL_ (fn_X11_bound m) (fn_X12_bound m) := by
  intro c d iv
  obtain ⟨n, nb, gc, h1, h2, h3, h4, h5, h6, h7, h8, h9, h10⟩ := id iv
  obtain ⟨a1, a2, a3, a4, a5, a6, a7⟩ := id h1
  rcases h8.1 with ⟨w1, w2⟩ | ⟨w1, w2, w3, w4⟩
  · refine ⟨-1, c, d, ?_, md_.rf c, ?_, cl_.rf d, iv⟩
    · rw [fn_X11_bound, if_pos w1]
    · rw [fn_X12_bound, if_pos w2]
  · rcases enc_ (m := m) (by omega) h3 h5 a2 a3 a4 with ⟨e1, e2⟩ | ⟨e1, l, e2⟩
    · refine ⟨-3, c, d, ?_, md_.rf c, ?_, cl_.rf d, iv⟩
      · rw [fn_X11_bound, if_neg (by rw [w1]; decide), e1]; rfl
      · rw [fn_X12_bound, if_neg (by rw [w2]; decide), e2]; rfl
    · obtain ⟨n', nb', gc', E, h, v, f1, f2, f3, f4, f5, f6⟩ := w4
      obtain ⟨h', x, u', g1, g2, g3⟩ := ev_floord (m := m) (by omega) f1 f2 (x1 := d.1 162 0) (x2 := d.1 162 1) (x3 := d.1 162 2) rfl rfl rfl f3
      have ex : x = v := fv_u g3 f4
      subst ex
      have df := tf2_d g2
      have eV : fn_X5_rankingAt m 123 c = some (tm_ d 0 + tm_ d 1 + tm_ d 2, c) := by
        rw [fn_X5_rankingAt, ck_t (by decide), ck_t (by decide), ck_t (by decide), ck_t (by decide), ck_t (by decide), ck_t (by decide), show c.1 144 (Int32.toNatClampNeg 0) = _ from w3 0 (by omega), show c.1 144 (Int32.toNatClampNeg 1) = _ from w3 1 (by omega), show c.1 144 (Int32.toNatClampNeg 2) = _ from w3 2 (by omega), show c.2 123 (Int32.toNatClampNeg 0) = _ from (h3 0 (by omega)).1, show c.2 123 (Int32.toNatClampNeg 1) = _ from (h3 1 (by omega)).1, show c.2 123 (Int32.toNatClampNeg 2) = _ from (h3 2 (by omega)).1]
        rfl
      have ew : tm_ d 0 + tm_ d 1 + tm_ d 2 - Int64.ofInt x + 1 = 1 + tm_ d 0 + tm_ d 1 + tm_ d 2 - Int64.ofInt x := by grind
      refine ⟨if 0 < 1 + tm_ d 0 + tm_ d 1 + tm_ d 2 - Int64.ofInt x then 1 + tm_ d 0 + tm_ d 1 + tm_ d 2 - Int64.ofInt x else 0, c, u', ?_, md_.rf c, ?_, dfr_cl df, n, nb, gc, iv_l pf_PF h1 h2 h3 h4 h5 h6 h7 h8 h9 h10 (cfr_.rf c) df h8.2⟩
      · rw [fn_X11_bound, if_neg (by rw [w1]; decide), e1]
        simp only [Option.bind_some]
        rw [if_neg (by decide), eV]
        simp only [Option.bind_some]
        rw [f5, ew, fn_J9_max_f86c9]
        by_cases q : 0 < 1 + tm_ d 0 + tm_ d 1 + tm_ d 2 - Int64.ofInt x
        · rw [if_pos q, if_pos q]; rfl
        · rw [if_neg q, if_neg q]; rfl
      · rw [fn_X12_bound, if_neg (by rw [w2]; decide), e2]
        simp only [Option.bind_some, Sum.elim]
        rw [ck_t (by decide), ck_t (by decide), ck_t (by decide), show fn_X12_floorOf m (d.1 162 (Int32.toNatClampNeg 0)) (d.1 162 (Int32.toNatClampNeg 1)) (d.1 162 (Int32.toNatClampNeg 2)) d = _ from g1]
        simp only [Option.bind_some, xm_let]
        generalize 1 + tm_ d 0 + tm_ d 1 + tm_ d 2 - Int64.ofInt x = w
        by_cases q : 0 < w
        · rw [if_pos q, if_pos (Int64.le_of_lt q)]; rfl
        · rw [if_neg q]
          by_cases q2 : 0 ≤ w
          · rw [if_pos q2, Int64.le_antisymm (Int64.not_lt.mp q) q2]; rfl
          · rw [if_neg q2]; rfl
