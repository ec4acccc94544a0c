theorem ob_ok {d : xm_Y} {n nb : Nat} {gc : Nat → Nat} {X : T_} (hX : ok_ n X) : ∀ k y, ob_ (sd_ d n nb gc) X k = some y → ok_ n y
  | 0, y, h => by
    have : X = y := Option.some.inj h
    rw [← this]; exact hX
  | k + 1, y, h => by
    have h' : nx_ (sd_ d n nb gc) (ob_ (sd_ d n nb gc) X k) = some y := h
    cases ho : ob_ (sd_ d n nb gc) X k with
    | none => rw [ho] at h'; cases h'
    | some x =>
      rw [ho] at h'
      have h2 : (match sd_ d n nb gc x with | some (some t) => some t | _ => none) = some y := h'
      cases hs : sd_ d n nb gc x with
      | none => rw [hs] at h2; cases h2
      | some o =>
        cases o with
        | none => rw [hs] at h2; cases h2
        | some t =>
          rw [hs] at h2
          have : t = y := Option.some.inj h2
          rw [← this]
          exact sd_ok hs
theorem ev_ringc {m N n nb : Nat} {gc : Nat → Nat} {c d : xm_Y} (hm : 100000 ≤ m) (hN1 : 1 ≤ N) (hN : N ≤ 10000) (h1 : iv_1 c d n nb) (h2 : iv_2 c d n nb gc) (hX : ok_ n (gt_ c 123)) {r : Int32} {lead : Option Nat} (hr : rr_ (sd_ d n nb gc) (gt_ c 123) N r lead) : ∃ u' : xm_Y, fn_X4_findRing m (nI N) c = some (r, u') ∧ (∀ q, q ≠ 124 → u'.1 q = c.1 q) ∧ (∀ q, q ≠ 125 → q ≠ 126 → u'.2 q = c.2 q) ∧ (∀ e, e ≠ 2 → u'.1 124 e = c.1 124 e) ∧ (u'.1 124 2 = match lead with | none => c.1 124 2 | some μ => nI μ) := by
  have hok := ob_ok (d := d) (nb := nb) (gc := gc) hX
  have f0 : fx_ (fun q => q = 125 ∨ q = 126) c (cp_J (cp_J c 123 125 0 0 3) 123 126 0 0 3) := ((fx_.rf c).cp (Or.inl rfl)).cp (Or.inr rfl)
  have g1 : gt_ (cp_J (cp_J c 123 125 0 0 3) 123 126 0 0 3) 125 = gt_ c 123 := by rw [gt_cpn (by decide), gt_cp]
  have g2 : gt_ (cp_J (cp_J c 123 125 0 0 3) 123 126 0 0 3) 126 = gt_ c 123 := by rw [gt_cp, gt_cpn (by decide)]
  obtain ⟨k, u1, p1, p2, p3⟩ := len_lp (X := gt_ c 123) hm hN h1 h2 hok (2 * N) 1 m 0 (cp_J (cp_J c 123 125 0 0 3) 123 126 0 0 3) (by omega) (by omega) (by omega) (by omega) (by omega) (by omega) f0 (by rw [g1]; rfl) (by rw [g2]; rfl) (fun s s1 s2 => absurd s2 (by omega))
  have e1 : fn_X4_lengthWithin m (nI N) c = some (k, u1) := by
    rw [fn_X4_lengthWithin, ev_copy]
    simp only [Option.bind_some]
    rw [ev_copy]
    simp only [Option.bind_some]
    exact p1
  rw [fn_X4_findRing, e1]
  simp only [Option.bind_some, xm_let]
  rcases ob_all hr k p3 with ⟨rfl, rfl, no⟩ | ⟨l, l1, l2, rfl, inf, fin⟩
  · rw [if_neg no]
    exact ⟨u1, rfl, fun q _ => by rw [p2.1], fun q a b => p2.2 q (by rintro (h | h) <;> contradiction), fun e _ => by rw [p2.1], by rw [p2.1]⟩
  · rw [if_pos (show (0 : Int32) < nI l from (nIlt (a := 0) (by omega) (by omega)).mpr (by omega)), nI_sb l2 (by omega)]
    have f1 : fx_ (fun q => q = 125 ∨ q = 126) c (cp_J (cp_J u1 123 125 0 0 3) 123 126 0 0 3) := (p2.cp (Or.inl rfl)).cp (Or.inr rfl)
    have gx : gt_ u1 123 = gt_ c 123 := gt_c (p2.2 123 (by decide))
    have g3 : gt_ (cp_J (cp_J u1 123 125 0 0 3) 123 126 0 0 3) 125 = gt_ c 123 := by rw [gt_cpn (by decide), gt_cp, gx]
    have g4 : gt_ (cp_J (cp_J u1 123 125 0 0 3) 123 126 0 0 3) 126 = gt_ c 123 := by rw [gt_cp, gt_cpn (by decide), gx]
    obtain ⟨z0, u2, s1, s2, s3, s4⟩ := lead1_lp (X := gt_ c 123) (l := l) hm (by omega) h1 h2 hok inf l 0 m _ (by omega) (by omega) f1 (by rw [g3]; rfl)
    obtain ⟨z, u3, t1, t2, t3⟩ := lead2_lp (X := gt_ c 123) hm l2 hN h1 h2 hok inf (N - l + 1) 0 m u2 (by omega) (by omega) s2 (by rw [Nat.zero_add]; exact s3) (by rw [s4, g4]; rfl) (fun s hs => absurd hs (by omega))
    have e2 : fn_X4_leadOf m (nI l) (nI (N - l)) u1 = some (z, u3) := by
      rw [fn_X4_leadOf, ev_copy]
      simp only [Option.bind_some]
      rw [ev_copy]
      simp only [Option.bind_some]
      rw [show lp_X4_leadOf_19 m (nI l) m (0 : Int32) _ = _ from s1]
      simp only [Option.bind_some]
      exact t1
    rw [e2]
    simp only [Option.bind_some]
    rcases fin z t3 with ⟨μ, rfl, μN, rfl, rfl⟩ | ⟨rfl, rfl, rfl⟩
    · rw [if_pos (show (0 : Int32) ≤ nI μ from (nIle (a := 0) (by omega) (by omega)).mpr (by omega))]
      exact ⟨_, rfl, fun q hq => (rI_nc hq).trans (by rw [t2.1]), fun q a b => t2.2 q (by rintro (h | h) <;> contradiction), fun e he => by rw [rI_ne (by omega), t2.1], rI_eq⟩
    · rw [if_neg (by decide)]
      exact ⟨u3, rfl, fun q _ => by rw [t2.1], fun q a b => t2.2 q (by rintro (h | h) <;> contradiction), fun e _ => by rw [t2.1], by rw [t2.1]⟩
section XT_
variable {PL : xm_Y → Nat → Prop} {FL : xm_Y → xm_Y → Prop} {m : Nat}
theorem tf_ring (pf : pf_ PL FL) (hm : 100000 ≤ m) (x : Int32) : tf_ PL FL (fn_X11_ring m x) (fn_X12_ring m x) := by
  intro c d iv
  obtain ⟨n, nb, gc, h1, h2, h3, h4, h5, h6, h7, h8, h9, h10⟩ := id iv
  obtain ⟨a1, a2, a3, a4, a5, a6, a7⟩ := id h1
  rw [fn_X11_ring, ev_X11_isTurns]
  simp only [Option.bind_some]
  by_cases x0 : x < 1
  · rw [if_pos x0, if_pos rfl, fn_X12_ring, if_pos x0]
    exact ⟨-1, c, d, rfl, md_.rf c, rfl, cl_.rf d, iv⟩
  by_cases x1 : 10000 < x
  · rw [if_neg x0, if_pos x1, if_pos rfl, fn_X12_ring, if_neg x0, if_neg (Int32.not_le.mpr x1)]
    exact ⟨-1, c, d, rfl, md_.rf c, rfl, cl_.rf d, iv⟩
  rw [if_neg x0, if_neg x1, if_neg (by decide)]
  obtain ⟨N, N1, N2, rfl⟩ := trn_ x0 x1
  obtain ⟨eg, hX⟩ := ok_3 h3
  obtain ⟨z, d', lead, q1, q2, q3, q4, q5, q6⟩ := ev_ringd (m := m) hm N1 N2 a4 a2 a7 a6 (fun b hb => ⟨(h2 b hb).2.1, (h2 b hb).2.2.1⟩)
  rw [← eg] at hX q6
  obtain ⟨c', p1, p2, p3, p4, p5⟩ := ev_ringc (m := m) hm N1 N2 h1 h2 hX q6
  refine ⟨z, c', d', by rw [p1]; rfl, fun q hq => ⟨p2 q (by omega), p3 q (by omega) (by omega)⟩, q1, fun q hq => ⟨q2 q (by omega) (by omega), q3 q (by omega) (by omega) (by omega)⟩, n, nb, gc, ?_, ?_, ?_, ?_, ?_, ?_, ?_, ?_, ?_, ?_⟩
  · unfold iv_1; rw [p2 1 (by decide), q4 0 (by decide), q4 1 (by decide)]; exact h1
  · exact iv_2c (c := c) (d := d) (fun k hk => p2 k (by omega)) (q2 _ (by decide) (by decide)) (q2 _ (by decide) (by decide)) (q2 _ (by decide) (by decide)) a4 a7 h2
  · unfold iv_3; rw [p3 123 (by decide) (by decide), q3 154 (by decide) (by decide) (by decide)]; exact h3
  · unfold iv_4; rw [p3 130 (by decide) (by decide), q3 157 (by decide) (by decide) (by decide), q2 158 (by decide) (by decide)]; exact h4
  · unfold iv_5; rw [p3 128 (by decide) (by decide), q3 155 (by decide) (by decide) (by decide), q2 156 (by decide) (by decide)]; exact h5
  · unfold iv_6
    rw [p5, q5]
    cases lead with
    | none => exact h6
    | some μ => rfl
  · unfold iv_7; rw [p2 139 (by decide), p2 142 (by decide), p2 143 (by decide), q4 19 (by decide), q2 161 (by decide) (by decide), q2 163 (by decide) (by decide)]; exact h7
  · exact iv_8c (c := c) (d := d) pf (fun q hq => ⟨p2 q (by omega), p3 q (by omega) (by omega)⟩) (p3 128 (by decide) (by decide)) (by rw [p2 139 (by decide)]) (p2 144 (by decide)) (by rw [p3 139 (by decide) (by decide)]) (q4 0 (by decide)) (q4 1 (by decide)) (q4 21 (by decide)) (q2 151 (by decide) (by decide)) (q2 152 (by decide) (by decide)) (q2 156 (by decide) (by decide)) (q3 155 (by decide) (by decide) (by decide)) (q2 162 (by decide) (by decide)) h8
  · unfold iv_9; rw [p2 146 (by decide), p3 147 (by decide) (by decide), q4 36 (by decide), q2 173 (by decide) (by decide), q2 174 (by decide) (by decide), q2 175 (by decide) (by decide)]; exact h9
  · unfold iv_10; rw [p2 146 (by decide), q4 40 (by decide), q4 42 (by decide), q4 43 (by decide)]; exact h10
end XT_
