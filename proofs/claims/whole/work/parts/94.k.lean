/-! rows, done -/
theorem ev_r16 {m nb : Nat} (hm : 10 ≤ m) (b5 : nb ≤ 5) {d : xm_Y} (hd : d.1 150 1 = nI nb) : ∃ l e, lp_X12_rows_16 m m (0 : Int32) d = some (l, e) ∧ (∀ q, q ≠ 163 → q ≠ 164 → e.1 q = d.1 q) ∧ e.2 = d.2 ∧ (∀ j, j < 5 → e.1 163 j = -1 ∧ e.1 164 j = if j < nb then 1 else 0) := by
  obtain ⟨f, rfl⟩ : ∃ f, m = f + 6 := ⟨m - 6, by omega⟩
  have s1 : ∀ (r j f' : Nat) (e : xm_Y), j + r = 5 → r + 1 ≤ f' → (∀ q, q ≠ 163 → q ≠ 164 → e.1 q = d.1 q) → e.2 = d.2 → (∀ i, i < j → e.1 163 i = -1 ∧ e.1 164 i = if i < nb then 1 else 0) → ∃ l e', lp_X12_rows_16 (f + 6) f' (nI j) e = some (l, e') ∧ (∀ q, q ≠ 163 → q ≠ 164 → e'.1 q = d.1 q) ∧ e'.2 = d.2 ∧ (∀ i, i < 5 → e'.1 163 i = -1 ∧ e'.1 164 i = if i < nb then 1 else 0) := by
    intro r
    induction r with
    | zero =>
      intro j f' e hj hf a1 a2 a3
      obtain ⟨f', rfl⟩ : ∃ g, f' = g + 1 := ⟨f' - 1, by omega⟩
      obtain rfl : j = 5 := by omega
      exact ⟨nI 5, e, by rw [lp_X12_rows_16, if_pos (by decide)], a1, a2, a3⟩
    | succ r ih =>
      intro j f' e hj hf a1 a2 a3
      obtain ⟨f', rfl⟩ : ∃ g, f' = g + 1 := ⟨f' - 1, by omega⟩
      rw [lp_X12_rows_16, if_neg (show ¬ (5 : Int32) ≤ nI j from fun q => absurd ((nIle (a := 5) (by omega) (by omega)).mp q) (by omega)), show e.1 150 1 = nI nb by rw [a1 150 (by decide) (by decide)]; exact hd]
      have v : ∃ v : Int32, (if nI nb ≤ nI j then some (0 : Int32) else some 1) = some v ∧ vp_nar .boolean v = if j < nb then 1 else 0 := by
        by_cases q : j < nb
        · rw [if_neg (fun z => absurd ((nIle (by omega) (by omega)).mp z) (by omega)), if_pos q]
          exact ⟨1, rfl, rfl⟩
        · rw [if_pos ((nIle (by omega) (by omega)).mpr (by omega)), if_neg q]
          exact ⟨0, rfl, rfl⟩
      obtain ⟨v, v1, v2⟩ := v
      rw [v1]
      simp only [Option.bind_some]
      rw [v2, ck_t (nI_xi (by omega) (by omega)), nI_cl (by omega)]
      simp only [xm_let]
      rw [ck_t (nI_xi (by omega) (by omega)), ← nI_succ]
      refine ih (j + 1) f' _ (by omega) (by omega) (fun q h1 h2 => by rw [rI_nc h1, rI_nc h2]; exact a1 q h1 h2) a2 (fun i hi => ?_)
      by_cases q : i = j
      · subst q
        exact ⟨rI_eq, by rw [rI_ne (by omega), rI_eq]⟩
      · rw [rI_ne (by omega), rI_ne (by omega), rI_ne (by omega), rI_ne (by omega)]
        exact a3 i (by omega)
  obtain ⟨l, e, q⟩ := s1 5 0 (f + 6) d (by omega) (by omega) (fun _ _ _ => rfl) rfl (fun i hi => by omega)
  exact ⟨l, e, q⟩
theorem tf_rows {m : Nat} (hm : 3100 ≤ m) (x0 : Int32) : tf_ PL_ FL_ (fn_X11_rows m x0) (fn_X12_rows m x0) := by
  intro c d iv
  obtain ⟨n, nb, gc, h1, h2, h3, h4, h5, h6, h7, h8, h9, h10⟩ := id iv
  obtain ⟨a1, a2, a3, a4, a5, a6, a7⟩ := id h1
  by_cases q : (if x0 < 1 then (0 : Int32) else if 5 < x0 then 0 else 1) = 0
  · refine ⟨-1, c, d, ?_, md_.rf c, ?_, cl_.rf d, iv⟩
    · rw [fn_X11_rows, szC, q]; rfl
    · rw [fn_X12_rows, szR, q]; rfl
  have sa : ¬ x0 < 1 := fun z => q (by rw [if_pos z])
  have sb : ¬ 5 < x0 := fun z => q (by rw [if_neg sa, if_pos z])
  obtain ⟨s, rfl, s1, s5⟩ := szN sa sb
  obtain ⟨u, l1, l2, l3, l4⟩ := ev_learn (FL := FL_) (m := m) (by omega) h1 h2 h5 h8 (c1 := c) (fun _ _ => rfl) rfl
  obtain ⟨u1, f1, f2, f3, f4⟩ := ev_fill (m := m) 143 5 (by decide) (by omega) (-1) u
  obtain ⟨le, e1, g1, g2, g3, g4⟩ := ev_r16 (m := m) (nb := nb) (by omega) a7 a6
  have u11 : u.1 1 1 = nI n := by rw [l2.1 1 (by decide) (fun b _ => by omega)]; exact a1
  have st : rzw_ u d nb 0 (fun _ => true) u1 e1 := by
    refine ⟨⟨fun q _ _ _ h => f3 q h, fun q _ => by rw [f2]⟩, ⟨fun q _ _ _ h3 h4 => g2 q h3 h4, fun e _ _ _ => by rw [g2 150 (by decide) (by decide)], fun q _ _ _ => by rw [g3]⟩, fun b hb => ?_, fun j hj => ?_, fun j _ hj => (g4 j hj).1, fun j hj => by omega, fun _ => ⟨f3 142 (by decide), g2 161 (by decide) (by decide)⟩⟩
    · rw [f4 b (by omega), (g4 b (by omega)).2, if_pos hb]
      exact ⟨⟨fun _ => rfl, fun _ => rfl⟩, fun w => absurd w (by decide), fun w => absurd (show true = false from w) (by decide)⟩
    · rw [f4 j hj, (g4 j hj).1]
  obtain ⟨z', k', l, L', u2, e2, p1, p2, p3, p4, p5⟩ := rows_lp hm l3 u11 s1 s5 5 0 m m nb (fun _ => true) u1 e1 (cnL_all nb) (by omega) (by omega) (by omega) (by omega) st
  obtain ⟨cs, es, -, x3, x4, x5, x6⟩ := p5
  have u12 : u1.1 1 2 = nI nb := by rw [f3 1 (by decide)]; exact l3.2.1
  have uc : ∀ q, 139 ≤ q → u.1 q = c.1 q := fun q hq => l2.1 q (by omega) (fun b hb => by omega)
  have zz : nI z' = 0 ↔ nI z' ≤ 0 := by
    rw [show (0 : Int32) = nI 0 from rfl, nIle (by omega) (by omega)]
    exact ⟨fun w => by have := nIinj (by omega) (by omega) w; omega, fun w => by rw [show z' = 0 by omega]⟩
  have ans : ∀ (v w : xm_Y), ((if nI z' = 0 then some (nI k') else some (-3 : Int32)).bind fun q16 => some (q16, v)) = some (if nI z' = 0 then nI k' else -3, v) := fun v w => by split <;> rfl
  have pl : ∀ v : xm_Y, (∀ q, q < 123 → v.1 q = u.1 q) → (∀ q, (∀ b, b < 5 → q ≠ 8 + 24 * b) → v.2 q = u.2 q) → ∀ b, b < 5 → v.1 (6 + 24 * b) 3 = 0 ∨ (v.1 (6 + 24 * b) 3 = 1 ∧ b < nb ∧ PL_ v b) := fun v e1 e2 b hb => by
    rw [e1 _ (by omega)]
    rcases l4 b hb with w | ⟨w1, w2, w3⟩
    · exact Or.inl w
    · exact Or.inr ⟨w1, w2, PL_q hb w3 (fun k hk => e1 k hk) (e2 _ (fun b' _ => by omega)) (e2 128 (fun b' _ => by omega))⟩
  have fin : ∀ (v w : xm_Y), (∀ q, q ≠ 139 → v.1 q = u2.1 q) → v.1 139 6 = u2.1 139 6 → v.2 = u2.2 → (∀ q, q ≠ 150 → w.1 q = e2.1 q) → (∀ e, e ≠ 19 → w.1 150 e = e2.1 150 e) → w.2 = e2.2 → (∃ f : Nat, f ≤ 5 ∧ v.1 139 2 = nI f ∧ w.1 150 19 = nI f ∧ ∀ k, k < 3 * f → v.1 142 k = w.1 161 k) → md_ c v ∧ cl_ d w ∧ iv_ PL_ FL_ v w := fun v w v1 v2 v3 w1 w2 w3 hf => by
    have cf : cw_ c v := ⟨fun q a b e => (v1 q (by omega)).trans ((cs.1 q (by omega) (by omega) (by omega) (by omega)).trans (l2.1 q a e)), fun q a b b' e => by rw [v3]; exact (cs.2 q (fun k hk => (e k hk).2)).trans (l2.2 q a b (fun k hk => (e k hk).1))⟩
    have df : dw_ d w := ⟨fun q a b e => (w1 q a).trans (es.1 q a b (by omega) (by omega) (by omega)), fun e he => (w2 e (by omega)).trans (es.2.1 e (by omega) (by omega) (by omega)), fun q a b b' => by rw [w3]; exact es.2.2 q a b b'⟩
    have k6 : v.1 139 6 = c.1 139 6 := by rw [v2, cs.1 139 (by decide) (by decide) (by decide) (by decide), uc 139 (by decide)]
    have k21 : w.1 150 21 = d.1 150 21 := (w2 21 (by decide)).trans (es.2.1 21 (by decide) (by decide) (by decide))
    have k44 : v.1 144 = c.1 144 := by rw [v1 144 (by decide), cs.1 144 (by decide) (by decide) (by decide) (by decide), uc 144 (by decide)]
    have k62 : w.1 162 = d.1 162 := (w1 162 (by decide)).trans (es.1 162 (by decide) (by decide) (by decide) (by decide) (by decide))
    refine ⟨cw_md cf, dw_cl df, n, nb, gc, iv_wd h1 h2 h3 h4 h5 h6 h9 h10 cf df ⟨hf, fun b hb => ?_⟩ ⟨?_, pl v (fun q hq => (v1 q (by omega)).trans (cs.1 q (by omega) (by omega) (by omega) (by omega))) (fun q a => by rw [v3]; exact cs.2 q a)⟩⟩
    · rw [v1 143 (by decide), w1 163 (by decide)]
      exact ⟨x3 b hb, fun hn => x4 b hn hb⟩
    · rw [k6, k21, k44, k62]
      rcases h8.1 with w | ⟨t1, t2, t3, t4⟩
      · exact Or.inl w
      · refine Or.inr ⟨t1, t2, t3, pf_PF.2 c v d w ?_ (df.2.1 0 (by omega)) (df.2.1 1 (by omega)) (df.1 151 (by decide) (by decide) (by decide)) (df.1 152 (by decide) (by decide) (by decide)) (df.1 156 (by decide) (by decide) (by decide)) (df.2.2 155 (by decide) (by decide) (by decide)) k62 t4⟩
        rw [v3, cs.2 139 (fun b _ => by omega), l2.2 139 (by decide) (by decide) (fun b _ => by omega)]
  have c19 : u2.1 139 2 = c.1 139 2 := by rw [cs.1 139 (by decide) (by decide) (by decide) (by decide), uc 139 (by decide)]
  have d19 : e2.1 150 19 = d.1 150 19 := es.2.1 19 (by decide) (by decide) (by decide)
  have hC : fn_X11_rows m (nI s) c = ((if nI k' ≤ 0 then some u2 else some (w_I u2 139 2 (nI k')) : Option xm_Y).bind fun q12 => some (if nI z' = 0 then nI k' else -3, q12)) := by
    rw [fn_X11_rows, szC, if_neg sa, if_neg sb]
    simp only [Option.bind_some]
    rw [if_neg (by decide), l1]
    simp only [Option.bind_some]
    rw [fn_X5_seekRows, f1]
    simp only [Option.bind_some, xm_let]
    rw [u12, show lp_X5_seekRows_16 m (nI s) m (nI nb) 0 u1 = _ from p1]
    simp only [Option.bind_some]
    by_cases q : nI k' ≤ 0
    · rw [if_pos q]
      simp only [Option.bind_some]
      split <;> rfl
    · rw [if_neg q]
      simp only [Option.bind_some]
      split <;> rfl
  have hR : fn_X12_rows m (nI s) d = ((if nI k' ≤ 0 then some (e2.1 150 19) else some (nI k') : Option Int32).bind fun q42 => some (if nI z' = 0 then nI k' else -3, w_I e2 150 19 q42)) := by
    rw [fn_X12_rows, szR, if_neg sa, if_neg sb]
    simp only [Option.bind_some, xm_let]
    rw [if_neg (by decide), a6, g1]
    simp only [Option.bind_some]
    rw [show lp_X12_rows_58 m (nI s) m (nI nb) 0 1 e1 = _ from p2]
    simp only [Option.bind_some]
    by_cases w : nI z' = 0
    · rw [if_pos w, if_pos (zz.mp w)]
      split <;> rfl
    · rw [if_neg w, if_neg (fun q => w (zz.mpr q))]
      split <;> rfl
  by_cases k0 : k' = 0
  · subst k0
    rw [if_pos (show nI 0 ≤ 0 by decide)] at hC hR
    obtain ⟨b1, b2, b3⟩ := fin u2 (w_I e2 150 19 (e2.1 150 19)) (fun _ _ => rfl) rfl rfl (fun q hq => rI_nc hq) (fun e he => rI_ne (by omega)) rfl (by
      obtain ⟨f, t1, t2, t3, t4⟩ := h7.1
      refine ⟨f, t1, c19.trans t2, rI_eq.trans (d19.trans t3), fun k hk => ?_⟩
      rw [rI_nc (by decide), (x6 rfl).1, (x6 rfl).2, uc 142 (by decide)]
      exact t4 k hk)
    exact ⟨_, _, _, hC, b1, hR, b2, b3⟩
  · have kn : ¬ nI k' ≤ 0 := fun w => k0 (by have := (nIle (b := 0) (by omega) (by omega)).mp w; omega)
    rw [if_neg kn] at hC hR
    obtain ⟨b1, b2, b3⟩ := fin (w_I u2 139 2 (nI k')) (w_I e2 150 19 (nI k')) (fun q hq => rI_nc hq) (rI_ne (by decide)) rfl (fun q hq => rI_nc hq) (fun e he => rI_ne (by omega)) rfl ⟨k', p4, rI_eq, rI_eq, fun k hk => by rw [rI_nc (by decide), rI_nc (by decide)]; exact x5 k hk⟩
    exact ⟨_, _, _, hC, b1, hR, b2, b3⟩
