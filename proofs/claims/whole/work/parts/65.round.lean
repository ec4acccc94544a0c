theorem god2_lp {m n nb : Nat} {gc : Nat → Nat} {d : xm_Y} {E : E_} (hm : 10 ≤ m) (rd : rd_ d n nb gc) (hbE : ∀ k, k < 6 → bd_ 1000000000 (E k)) : ∀ (r b f : Nat) (u : xm_Y) (NE : E_), b + r = nb → r + 1 ≤ f → gx_ d u → by_ u 170 169 E → (∀ k, k < 6 → bd_ 100000000000 (NE k)) → by_ u 172 171 NE → ∃ (l : Int32) (u' : xm_Y), lp_X12_goRound_40 m f (nI b) u = some (l, u') ∧ gx_ d u' ∧ by_ u' 170 169 E ∧ by_ u' 172 171 (ls_ n (ppd_ d gc E) (rrd_ d E) r b NE)
  | 0, b, f, u, NE, hb, hf, gx, hE, hbN, hN => by
    obtain ⟨f', rfl⟩ : ∃ f', f = f' + 1 := ⟨f - 1, by omega⟩
    obtain ⟨r1, r2, r3, r4, r5, r6⟩ := id rd
    refine ⟨nI b, u, ?_, gx, hE, hN⟩
    rw [lp_X12_goRound_40, gx.2.1 1 (by decide), r4, if_pos ((nIle (by omega) (by omega)).mpr (by omega))]
  | r + 1, b, f, u, NE, hb, hf, gx, hE, hbN, hN => by
    obtain ⟨f', rfl⟩ : ∃ f', f = f' + 1 := ⟨f - 1, by omega⟩
    obtain ⟨r1, r2, r3, r4, r5, r6⟩ := id rd
    obtain ⟨u1, a1, a2⟩ := ev_passd (m := m) hm rd (show b < nb by omega) hbE gx hE
    have gx1 := gx.r a2
    have hE1 := by_rf a2 (by decide) (by decide) hE
    have hN1 := by_rf a2 (by decide) (by decide) hN
    rw [lp_X12_goRound_40, gx.2.1 1 (by decide), r4, if_neg (fun q => absurd ((nIle (by omega) (by omega)).mp q) (by omega)), a1]
    simp only [Option.bind_some, xm_let]
    by_cases hp : ppd_ d gc E b = true
    · obtain ⟨l, u', p1, p2, p3, p4⟩ := god2_lp hm rd hbE r (b + 1) f' u1 NE (by omega) (by omega) gx1 hE1 hbN hN1
      refine ⟨l, u', ?_, p2, p3, ?_⟩
      · rw [if_pos hp, if_neg (by decide)]
        simp only [Option.bind_some]
        rw [← nI_succ, p1]
      · unfold ls_
        rw [if_pos hp]; exact p4
    · obtain ⟨g1, g2, g3, g4⟩ := r6 b (by omega)
      obtain ⟨l2, u2, s1, s2, s3, s4⟩ := god_lp (m := m) hm rd (show b < nb by omega) hbE hbN (2 * n) 0 m u1 (by omega) (by omega) gx1 hE1 (fun k hk => by
        have : pb_ 0 (rrd_ d E b) NE k = NE k := if_neg (by omega)
        rw [this]; exact hN1 k hk)
      obtain ⟨l, u', p1, p2, p3, p4⟩ := god2_lp hm rd hbE r (b + 1) f' u2 (pb_ (2 * n) (rrd_ d E b) NE) (by omega) (by omega) s2 s3 (fun k hk => by
        unfold pb_
        split
        · refine wd_b (hbN k hk) ?_
          obtain ⟨q1, q2, q3⟩ := g4 (k / 2) (by omega)
          exact fa_b (fun i hi => ⟨(q1 i hi).1, (q1 i hi).2.1⟩) q2 q3 hbE (Nat.mod_lt _ (by omega))
        · exact hbN k hk) s4
      refine ⟨l, u', ?_, p2, p3, ?_⟩
      · rw [if_neg hp, if_pos rfl, show lp_X12_goRound_61 m (nI b) m (0 : Int32) u1 = some (l2, u2) from s1]
        simp only [Option.bind_some]
        rw [← nI_succ, p1]
      · unfold ls_
        rw [if_neg hp]; exact p4
theorem by_01 {u : xm_Y} {fl vl : Nat} {E : E_} (h : by_ u fl vl E) {k : Nat} (hk : k < 6) : u.1 fl k = 0 ∨ u.1 fl k = 1 := by
  have := h k hk
  cases e : E k with
  | none => rw [e] at this; exact Or.inr this
  | some v => rw [e] at this; exact Or.inl this.1
theorem cpy_lp (m : Nat) {d : xm_Y} {E : E_} : ∀ (r k f : Nat) (u : xm_Y), k + r = 6 → r + 1 ≤ f → gx_ d u → by_ u 170 169 E → (∀ j, j < k → match E j with | none => u.1 172 j = 1 | some v => u.1 172 j = 0 ∧ u.2 171 j = Int64.ofInt v) → ∃ (l : Int32) (u' : xm_Y), lp_X12_goRound_2 m f (nI k) u = some (l, u') ∧ gx_ d u' ∧ by_ u' 170 169 E ∧ by_ u' 172 171 E
  | 0, k, f, u, hk, hf, gx, hE, hN => by
    obtain ⟨f', rfl⟩ : ∃ f', f = f' + 1 := ⟨f - 1, by omega⟩
    obtain rfl : k = 6 := by omega
    refine ⟨nI 6, u, ?_, gx, hE, hN⟩
    rw [lp_X12_goRound_2, if_pos (show (6 : Int32) ≤ nI 6 by decide)]
  | r + 1, k, f, u, hk, hf, gx, hE, hN => by
    obtain ⟨f', rfl⟩ : ∃ f', f = f' + 1 := ⟨f - 1, by omega⟩
    have k6 : k < 6 := by omega
    have hin : xm_in (nI k) 6 := nI_xi k6 (by omega)
    have e170 : (w_J u 171 k (u.2 169 k)).1 170 k = u.1 170 k := rfl
    rw [lp_X12_goRound_2, if_neg (show ¬ (6 : Int32) ≤ nI k from fun q => absurd ((nIle (a := 6) (by omega) (by omega)).mp q) (by omega))]
    simp only [xm_let, ck_t hin, nI_cl (show k < 2 ^ 31 by omega)]
    rw [e170, b_nar (by_01 hE k6), ← nI_succ]
    have o1 : ∀ j, (w_I (w_J u 171 k (u.2 169 k)) 172 k (u.1 170 k)).1 172 j = if j = k then u.1 170 k else u.1 172 j := fun j => by
      by_cases q : j = k
      · rw [if_pos q, q, rI_eq]
      · rw [if_neg q, rI_ne (by omega)]; rfl
    have o2 : ∀ j, (w_I (w_J u 171 k (u.2 169 k)) 172 k (u.1 170 k)).2 171 j = if j = k then u.2 169 k else u.2 171 j := fun j => by
      show (w_J u 171 k (u.2 169 k)).2 171 j = _
      by_cases q : j = k
      · rw [if_pos q, q, rJ_eq]
      · rw [if_neg q, rJ_ne (by omega)]
    refine cpy_lp m r (k + 1) f' _ (by omega) (by omega) ((gx.wJ (Or.inr rfl)).wI (Or.inr rfl)) ?_ ?_
    · intro j hj
      have e1 : (w_I (w_J u 171 k (u.2 169 k)) 172 k (u.1 170 k)).1 170 = u.1 170 := rI_nc (by decide)
      have e2 : (w_I (w_J u 171 k (u.2 169 k)) 172 k (u.1 170 k)).2 169 = u.2 169 := (show (w_J u 171 k (u.2 169 k)).2 169 = u.2 169 from rJ_nc (by decide))
      rw [e1, e2]; exact hE j hj
    · intro j hj
      rw [o1, o2]
      by_cases q : j = k
      · rw [if_pos q, if_pos q, q]; exact hE k k6
      · rw [if_neg q, if_neg q]; exact hN j (by omega)
theorem ev_changed {m k : Nat} {u : xm_Y} {E NE : E_} (k6 : k < 6) (hE : by_ u 170 169 E) (hN : by_ u 172 171 NE) (hbE : bd_ 100000000000 (E k)) (hbN : bd_ 100000000000 (NE k)) : fn_X12_isChanged m (nI k) u = some (if NE k ≠ E k then 1 else 0, u) := by
  have hin : xm_in (nI k) 6 := nI_xi k6 (by omega)
  have h1 := hE k k6
  have h2 := hN k k6
  rw [fn_X12_isChanged]
  simp only [ck_t hin, nI_cl (show k < 2 ^ 31 by omega)]
  cases e1 : E k with
  | none =>
    rw [e1] at h1
    have a : u.1 170 k = 1 := h1
    cases e2 : NE k with
    | none =>
      rw [e2] at h2
      have b : u.1 172 k = 1 := h2
      rw [a, b]; rfl
    | some y =>
      rw [e2] at h2
      rw [a, h2.1, if_neg (by decide)]; rfl
  | some x =>
    rw [e1] at h1
    cases e2 : NE k with
    | none =>
      rw [e2] at h2
      have b : u.1 172 k = 1 := h2
      rw [h1.1, b, if_neg (by decide)]; rfl
    | some y =>
      rw [e2] at h2
      rw [h1.1, h2.1, h1.2, h2.2, if_pos rfl, if_pos rfl]
      by_cases q : y = x
      · rw [q, if_pos rfl, if_neg (fun z => z rfl)]; rfl
      · rw [if_neg (fun z => q (by
          have := congrArg Int64.toInt z
          rw [ec_t (hbN y e2).1 (hbN y e2).2, ec_t (hbE x e1).1 (hbE x e1).2] at this
          exact this)), if_pos (fun z => q (Option.some.inj z))]; rfl
theorem chg_lp {m n : Nat} {u : xm_Y} {E NE : E_} (hn3 : n ≤ 3) (hn : u.1 150 0 = nI n) (hE : by_ u 170 169 E) (hN : by_ u 172 171 NE) (hbE : ∀ k, k < 6 → bd_ 100000000000 (E k)) (hbN : ∀ k, k < 6 → bd_ 100000000000 (NE k)) : ∀ (r k f : Nat), k + r = 2 * n → r + 1 ≤ f → ∃ l : Int32, lp_X12_goRound_212 m f (if cg_ E NE k = true then 1 else 0) (nI k) u = some (if cg_ E NE (2 * n) = true then 1 else 0, l, u)
  | 0, k, f, hk, hf => by
    obtain ⟨f', rfl⟩ : ∃ f', f = f' + 1 := ⟨f - 1, by omega⟩
    obtain rfl : k = 2 * n := by omega
    refine ⟨nI (2 * n), ?_⟩
    rw [lp_X12_goRound_212, hn, show (2 : Int32) * nI n = nI (2 * n) from nI_mu 2 n, if_pos ((nIle (by omega) (by omega)).mpr (by omega))]
  | r + 1, k, f, hk, hf => by
    obtain ⟨f', rfl⟩ : ∃ f', f = f' + 1 := ⟨f - 1, by omega⟩
    have k6 : k < 6 := by omega
    obtain ⟨l, ih⟩ := chg_lp (m := m) hn3 hn hE hN hbE hbN r (k + 1) f' (by omega) (by omega)
    refine ⟨l, ?_⟩
    rw [lp_X12_goRound_212, hn, show (2 : Int32) * nI n = nI (2 * n) from nI_mu 2 n, if_neg (fun q => absurd ((nIle (by omega) (by omega)).mp q) (by omega)), ev_changed k6 hE hN (hbE k k6) (hbN k k6), ← ih, nI_succ]
    have st : cg_ E NE (k + 1) = (cg_ E NE k || decide (NE k ≠ E k)) := rfl
    rw [st]
    cases cg_ E NE k with
    | true =>
      rw [if_pos rfl, Bool.true_or, if_pos rfl, if_neg (show ¬ ((1 : Int32) = 0) by decide)]
      rfl
    | false =>
      rw [if_neg (show ¬ (false = true) by decide), Bool.false_or, if_pos rfl]
      by_cases q : NE k ≠ E k
      · rw [decide_eq_true q, if_pos q, if_pos rfl]; rfl
      · rw [decide_eq_false q, if_neg q, if_neg (show ¬ (false = true) by decide)]; rfl
theorem cg_2n {E NE : E_} {n : Nat} (hn : n ≤ 3) (h : ∀ q, 2 * n ≤ q → NE q = E q) : cg_ E NE (2 * n) = cg_ E NE 6 := by
  have : cg_ E NE (2 * n) = true ↔ cg_ E NE 6 = true := by
    rw [cg_t, cg_t]
    constructor
    · rintro ⟨q, a, b⟩; exact ⟨q, by omega, b⟩
    · rintro ⟨q, a, b⟩
      by_cases z : q < 2 * n
      · exact ⟨q, z, b⟩
      · exact absurd (h q (by omega)) b
  cases h1 : cg_ E NE (2 * n) <;> cases h2 : cg_ E NE 6
  · rfl
  · exact absurd (this.mpr h2) (by rw [h1]; decide)
  · exact absurd (this.mp h1) (by rw [h2]; decide)
  · rfl
theorem lsd_b {d : xm_Y} {n nb : Nat} {gc : Nat → Nat} {E : E_} (rd : rd_ d n nb gc) (hbE : ∀ k, k < 6 → bd_ 1000000000 (E k)) : ∀ k, k < 6 → bd_ 100000000000 (nxd_ d n nb gc E k) := by
  intro k hk
  obtain ⟨r1, r2, r3, r4, r5, r6⟩ := rd
  by_cases h : k < 2 * n
  · have e : nxd_ d n nb gc E k = ls_ n (ppd_ d gc E) (fun b q => if q < 2 * n then rrd_ d E b q else none) nb 0 E k := by
      unfold nxd_
      rw [ls_c nb 0 E (P' := ppd_ d gc E) (R' := fun b q => if q < 2 * n then rrd_ d E b q else none) (fun j _ _ => ⟨rfl, fun q hq => by rw [if_pos hq]⟩)]
    rw [e]
    refine ls_b (nb := nb) (fun b q hb hq => ?_) nb 0 E (by omega) (fun q hq => bd_mn (hbE q hq) (by omega)) k hk
    split
    · rename_i hq2
      obtain ⟨g1, g2, g3, g4⟩ := r6 b hb
      obtain ⟨q1, q2, q3⟩ := g4 (q / 2) (by omega)
      exact fa_b (fun i hi => ⟨(q1 i hi).1, (q1 i hi).2.1⟩) q2 q3 hbE (Nat.mod_lt _ (by omega))
    · exact fun v hv => by cases hv
  · unfold nxd_
    rw [ls_hi (by omega)]
    exact bd_mn (hbE k hk) (by omega)
theorem ev_goRound {m n nb : Nat} {gc : Nat → Nat} {d u : xm_Y} {E : E_} (hm : 10 ≤ m) (rd : rd_ d n nb gc) (hbE : ∀ k, k < 6 → bd_ 1000000000 (E k)) (gx : gx_ d u) (hE : by_ u 170 169 E) : ∃ u', fn_X12_goRound m u = some (if cg_ E (nxd_ d n nb gc E) 6 = true then 1 else 0, u') ∧ gx_ d u' ∧ by_ u' 170 169 E ∧ by_ u' 172 171 (nxd_ d n nb gc E) := by
  obtain ⟨r1, r2, r3, r4, r5, r6⟩ := id rd
  obtain ⟨l1, u1, a1, a2, a3, a4⟩ := cpy_lp m (d := d) (E := E) 6 0 m u (by omega) (by omega) gx hE (fun j hj => absurd hj (by omega))
  obtain ⟨l2, u2, b1, b2, b3, b4⟩ := god2_lp (m := m) hm rd hbE nb 0 m u1 E (by omega) (by omega) a2 a3 (fun k hk => bd_mn (hbE k hk) (by omega)) a4
  have b4 : by_ u2 172 171 (nxd_ d n nb gc E) := b4
  have hbN := lsd_b rd hbE
  obtain ⟨l3, c1⟩ := chg_lp (m := m) r3 ((b2.2.1 0 (by decide)).trans r1) b3 b4 (fun k hk => bd_mn (hbE k hk) (by omega)) hbN (2 * n) 0 m (by omega) (by omega)
  rw [cg_2n r3 (fun q hq => by unfold nxd_; rw [ls_hi hq])] at c1
  refine ⟨u2, ?_, b2, b3, b4⟩
  rw [fn_X12_goRound, show lp_X12_goRound_2 m m (0 : Int32) u = _ from a1]
  simp only [Option.bind_some]
  rw [show lp_X12_goRound_40 m m (0 : Int32) u1 = _ from b1]
  simp only [Option.bind_some]
  rw [show lp_X12_goRound_212 m m (0 : Int32) (0 : Int32) u2 = _ from c1]
  simp only [Option.bind_some]
  rw [ck_t (by split <;> decide)]
