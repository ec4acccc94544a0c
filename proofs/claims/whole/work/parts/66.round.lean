def mx_ (k : Nat) (S E : E_) : E_ := fun i => if i < k then S i else E i
theorem mx_l {k i : Nat} {S E : E_} (h : i < k) : mx_ k S E i = S i := if_pos h
theorem mx_g {k i : Nat} {S E : E_} (h : ¬ i < k) : mx_ k S E i = E i := if_neg h
theorem ou_up {S : E_} {e : Nat} (h : ou_ S (e + 1) = true) : ∀ k, e + 1 ≤ k → ou_ S k = true := by
  intro k hk
  induction k with
  | zero => omega
  | succ k ih =>
    by_cases q : e + 1 ≤ k
    · show (ou_ S k || _) = true
      rw [ih q, Bool.true_or]
    · obtain rfl : k = e := by omega
      exact h
theorem ou_hi {S : E_} {j : Nat} (h : ∀ q, j ≤ q → q < 6 → bd_ 1000000000 (S q)) (h0 : ou_ S j = false) : ∀ k, j ≤ k → k ≤ 6 → ou_ S k = false := by
  intro k hk k6
  induction k with
  | zero => have : j = 0 := by omega
            rw [← this]; exact h0
  | succ k ih =>
    by_cases q : j ≤ k
    · show (ou_ S k || _) = false
      rw [ih q (by omega), Bool.false_or]
      have b := h k q (by omega)
      cases e : S k with
      | none => rfl
      | some v =>
        have := b v e
        show (decide (v < -1000000000) || decide (1000000000 < v)) = false
        rw [decide_eq_false (by omega), decide_eq_false (by omega)]; rfl
    · have : j = k + 1 := by omega
      rw [← this]; exact h0
theorem upd_lp {m n nb w j : Nat} {gc : Nat → Nat} {d : xm_Y} {E NE : E_} (hj : j < 100) (hw : w ≤ 20) (rd : rd_ d n nb gc) (hbE : ∀ k, k < 6 → bd_ 1000000000 (E k)) (hbN : ∀ k, k < 6 → bd_ 100000000000 (NE k)) (hhi : ∀ q, 2 * n ≤ q → NE q = E q) : ∀ (r k f : Nat) (u : xm_Y), k + r = 2 * n → r + 1 ≤ f → gx_ d u → by_ u 170 169 (mx_ k (se_ (decide (w ≤ j)) E NE) E) → by_ u 172 171 NE → ou_ (se_ (decide (w ≤ j)) E NE) k = false → ∃ (l : Int32) (u' : xm_Y), lp_X12_round_139 m (nI w) (nI j) f (nI k) u = some (if ou_ (se_ (decide (w ≤ j)) E NE) 6 = true then .inl (-4, u') else .inr (l, u')) ∧ gx_ d u' ∧ (ou_ (se_ (decide (w ≤ j)) E NE) 6 = false → by_ u' 170 169 (se_ (decide (w ≤ j)) E NE))
  | 0, k, f, u, hk, hf, gx, hE, hN, ho => by
    obtain ⟨f', rfl⟩ : ∃ f', f = f' + 1 := ⟨f - 1, by omega⟩
    obtain ⟨r1, r2, r3, r4, r5, r6⟩ := id rd
    obtain rfl : k = 2 * n := by omega
    have hs : ∀ q, 2 * n ≤ q → se_ (decide (w ≤ j)) E NE q = E q := fun q hq => by rw [se_at (hhi q hq), hhi q hq]
    have ho6 := ou_hi (fun q hq h6 => by rw [hs q hq]; exact hbE q h6) ho 6 (by omega) (by omega)
    refine ⟨nI (2 * n), u, ?_, gx, fun _ q hq => ?_⟩
    · rw [lp_X12_round_139, gx.2.1 0 (by decide), r1, show (2 : Int32) * nI n = nI (2 * n) from nI_mu 2 n, if_pos ((nIle (by omega) (by omega)).mpr (by omega)), ho6]
      rfl
    · have := hE q hq
      by_cases z : q < 2 * n
      · rw [mx_l z] at this; exact this
      · rw [mx_g z, ← hs q (by omega)] at this; exact this
  | r + 1, k, f, u, hk, hf, gx, hE, hN, ho => by
    obtain ⟨f', rfl⟩ : ∃ f', f = f' + 1 := ⟨f - 1, by omega⟩
    obtain ⟨r1, r2, r3, r4, r5, r6⟩ := id rd
    have k6 : k < 6 := by omega
    have hin : xm_in (nI k) 6 := nI_xi k6 (by omega)
    have chg := ev_changed (m := m) k6 hE hN (by rw [mx_g (by omega)]; exact bd_mn (hbE k k6) (by omega)) (hbN k k6)
    rw [mx_g (by omega)] at chg
    have hbS : bd_ 100000000000 (se_ (decide (w ≤ j)) E NE k) := se_b (hbN k k6)
    have opn : ((if nI j < nI w then some ((0 : Int32), u) else ((some ((if NE k ≠ E k then (1 : Int32) else 0), u)).bind fun q25 => if q25.1 = 0 then some ((0 : Int32), q25.2) else some ((1 : Int32), q25.2))) : Option (Int32 × xm_Y)) = some (if decide (w ≤ j) = true ∧ NE k ≠ E k then 1 else 0, u) := by
      by_cases q : w ≤ j
      · rw [if_neg (fun z => absurd ((nIlt (by omega) (by omega)).mp z) (by omega))]
        simp only [Option.bind_some]
        by_cases z : NE k ≠ E k
        · rw [if_pos z, if_neg (by decide), if_pos ⟨decide_eq_true q, z⟩]
        · rw [if_neg z, if_pos rfl, if_neg (fun y => z y.2)]
      · rw [if_pos ((nIlt (by omega) (by omega)).mpr (by omega)), if_neg (fun y => q (of_decide_eq_true y.1))]
    rw [lp_X12_round_139, gx.2.1 0 (by decide), r1, show (2 : Int32) * nI n = nI (2 * n) from nI_mu 2 n, if_neg (fun q => absurd ((nIle (by omega) (by omega)).mp q) (by omega)), chg, opn]
    simp only [Option.bind_some, xm_let, ck_t hin, nI_cl (show k < 2 ^ 31 by omega)]
    have hNk := hN k k6
    -- the flag
    obtain ⟨q27, e27, h27⟩ : ∃ q27 : Int32, ((if u.1 172 k = 0 then (if (if decide (w ≤ j) = true ∧ NE k ≠ E k then (1 : Int32) else 0) = 0 then some (0 : Int32) else some 1) else some (1 : Int32)) : Option Int32) = some q27 ∧ (match se_ (decide (w ≤ j)) E NE k with | none => q27 = 1 | some v => q27 = 0 ∧ u.2 171 k = Int64.ofInt v) := by
      unfold se_
      by_cases z : decide (w ≤ j) = true ∧ NE k ≠ E k
      · rw [if_pos z, if_pos z, if_neg (show ¬ ((1 : Int32) = 0) by decide)]
        exact ⟨1, by split <;> rfl, rfl⟩
      · rw [if_neg z, if_neg z, if_pos rfl]
        cases e : NE k with
        | none =>
          rw [e] at hNk
          have a : u.1 172 k = 1 := hNk
          exact ⟨1, by rw [a]; rfl, rfl⟩
        | some v =>
          rw [e] at hNk
          exact ⟨0, by rw [hNk.1]; rfl, rfl, hNk.2⟩
    rw [e27]
    simp only [Option.bind_some]
    have h01 : q27 = 0 ∨ q27 = 1 := by
      cases e : se_ (decide (w ≤ j)) E NE k with
      | none => rw [e] at h27; exact Or.inr h27
      | some v => rw [e] at h27; exact Or.inl h27.1
    rw [b_nar h01]
    have g1 : ∀ x : Int64, (w_J (w_I u 170 k q27) 169 k x).1 170 k = q27 := fun x => (show (w_I u 170 k q27).1 170 k = q27 from rI_eq)
    have g0 : (w_I u 170 k q27).1 170 k = q27 := rI_eq
    have g2 : ∀ x : Int64, (w_J (w_I u 170 k q27) 169 k x).2 169 k = x := fun x => rJ_eq
    have g3 : (w_I u 170 k q27).2 171 k = u.2 171 k := rfl
    -- going on
    have go : ∀ x : Int64, (∀ v, se_ (decide (w ≤ j)) E NE k = some v → x = Int64.ofInt v) → ou_ (se_ (decide (w ≤ j)) E NE) (k + 1) = false → ∃ (l : Int32) (u' : xm_Y), lp_X12_round_139 m (nI w) (nI j) f' (nI k + 1) (w_J (w_I u 170 k q27) 169 k x) = some (if ou_ (se_ (decide (w ≤ j)) E NE) 6 = true then .inl (-4, u') else .inr (l, u')) ∧ gx_ d u' ∧ (ou_ (se_ (decide (w ≤ j)) E NE) 6 = false → by_ u' 170 169 (se_ (decide (w ≤ j)) E NE)) := by
      intro x hx ho'
      rw [← nI_succ]
      refine upd_lp hj hw rd hbE hbN hhi r (k + 1) f' _ (by omega) (by omega) ((gx.wI (Or.inl rfl)).wJ (Or.inl rfl)) ?_ ?_ ho'
      · intro i hi
        have a1 : (w_J (w_I u 170 k q27) 169 k x).1 170 i = if i = k then q27 else u.1 170 i := by
          show (w_I u 170 k q27).1 170 i = _
          by_cases q : i = k
          · rw [if_pos q, q, rI_eq]
          · rw [if_neg q, rI_ne (by omega)]
        have a2 : (w_J (w_I u 170 k q27) 169 k x).2 169 i = if i = k then x else u.2 169 i := by
          by_cases q : i = k
          · rw [if_pos q, q, rJ_eq]
          · rw [if_neg q, rJ_ne (by omega)]; rfl
        rw [a1, a2]
        by_cases q : i = k
        · rw [if_pos q, if_pos q, mx_l (by omega), q]
          cases e : se_ (decide (w ≤ j)) E NE k with
          | none => rw [e] at h27; exact h27
          | some v => rw [e] at h27; exact ⟨h27.1, hx v e⟩
        · rw [if_neg q, if_neg q]
          have := hE i hi
          by_cases z : i < k
          · rw [mx_l z] at this; rw [mx_l (by omega)]; exact this
          · rw [mx_g z] at this; rw [mx_g (by omega)]; exact this
      · intro i hi
        have a1 : (w_J (w_I u 170 k q27) 169 k x).1 172 = u.1 172 := (show (w_I u 170 k q27).1 172 = u.1 172 from rI_nc (by decide))
        have a2 : (w_J (w_I u 170 k q27) 169 k x).2 171 = u.2 171 := rJ_nc (by decide)
        rw [a1, a2]; exact hN i hi
    have st : ou_ (se_ (decide (w ≤ j)) E NE) (k + 1) = (ou_ (se_ (decide (w ≤ j)) E NE) k || (match se_ (decide (w ≤ j)) E NE k with | none => false | some v => decide (v < -1000000000) || decide (1000000000 < v))) := rfl
    rw [g0, g3]
    cases e : se_ (decide (w ≤ j)) E NE k with
    | none =>
      rw [e] at h27
      have h27 : q27 = 1 := h27
      rw [if_neg (show ¬ q27 = 0 by rw [h27]; decide)]
      simp only [Option.bind_some]
      rw [g1, if_neg (show ¬ q27 = 0 by rw [h27]; decide)]
      exact go _ (fun v hv => by rw [e] at hv; cases hv) (by rw [st, e, ho]; rfl)
    | some v =>
      rw [e] at h27 hbS
      have bv := hbS v rfl
      rw [if_pos h27.1]
      simp only [Option.bind_some]
      rw [g1, if_pos h27.1, g2, h27.2]
      have e1 : (1000000000 : Int64) < Int64.ofInt v ↔ 1000000000 < v := by
        rw [show (1000000000 : Int64) = Int64.ofInt 1000000000 from rfl]
        exact oflt (by omega) (by omega) bv.1 bv.2
      have e2 : (-1000000000 : Int64) ≤ Int64.ofInt v ↔ -1000000000 ≤ v := by
        rw [show (-1000000000 : Int64) = Int64.ofInt (-1000000000) from rfl]
        exact ofle (by omega) (by omega) bv.1 bv.2
      rw [e, ho] at st
      have st : ou_ (se_ (decide (w ≤ j)) E NE) (k + 1) = (false || (decide (v < -1000000000) || decide (1000000000 < v))) := st
      have out : ou_ (se_ (decide (w ≤ j)) E NE) (k + 1) = true → ∃ (l : Int32) (u' : xm_Y), some (Sum.inl ((-4 : Int32), w_J (w_I u 170 k q27) 169 k (Int64.ofInt v))) = some (if ou_ (se_ (decide (w ≤ j)) E NE) 6 = true then .inl (-4, u') else .inr (l, u')) ∧ gx_ d u' ∧ (ou_ (se_ (decide (w ≤ j)) E NE) 6 = false → by_ u' 170 169 (se_ (decide (w ≤ j)) E NE)) := by
        intro h
        have h6 := ou_up h 6 (by omega)
        refine ⟨0, w_J (w_I u 170 k q27) 169 k (Int64.ofInt v), by rw [if_pos h6], (gx.wI (Or.inl rfl)).wJ (Or.inl rfl), fun z => ?_⟩
        rw [h6] at z; cases z
      by_cases c1 : 1000000000 < v
      · rw [if_pos (e1.mpr c1)]
        exact out (by rw [st, decide_eq_true c1, Bool.or_true]; rfl)
      · rw [if_neg (fun z => c1 (e1.mp z))]
        by_cases c2 : -1000000000 ≤ v
        · rw [if_pos (e2.mpr c2)]
          exact go _ (fun v' hv' => by rw [e] at hv'; rw [Option.some.inj hv']) (by rw [st, decide_eq_false c1, decide_eq_false (show ¬ v < -1000000000 by omega)]; rfl)
        · rw [if_neg (fun z => c2 (e2.mp z))]
          exact out (by rw [st, decide_eq_true (show v < -1000000000 by omega)]; rfl)
theorem rnd_lp {m n nb w : Nat} {gc : Nat → Nat} {d : xm_Y} (hm : 100 ≤ m) (rd : rd_ d n nb gc) (hw : w ≤ 20) : ∀ (r j f : Nat) (u : xm_Y) (E : E_) (o : Option (Nat × E_)), 1 ≤ j → j + r = 28 → r + 1 ≤ f → gx_ d u → (∀ k, k < 6 → bd_ 1000000000 (E k)) → by_ u 170 169 E → gr_ (nxd_ d n nb gc) w r j E = some o → ∃ u' : xm_Y, lp_X12_round_130 m (nI w) f (nI j) u = some (match o with | none => .inl (-4, u') | some z => .inr (nI z.1, u')) ∧ gx_ d u' ∧ (∀ z, o = some z → by_ u' 170 169 z.2 ∧ (∀ k, k < 6 → bd_ 1000000000 (z.2 k)) ∧ 1 ≤ z.1 ∧ z.1 ≤ 28 ∧ ∀ q, 2 * n ≤ q → z.2 q = E q)
  | 0, j, f, u, E, o, h1, h2, hf, gx, hbE, hx, hg => by cases hg
  | r + 1, j, f, u, E, o, h1, h2, hf, gx, hbE, hx, hg => by
    obtain ⟨f', rfl⟩ : ∃ f', f = f' + 1 := ⟨f - 1, by omega⟩
    unfold gr_ at hg
    obtain ⟨r1, r2, r3, r4, r5, r6⟩ := id rd
    obtain ⟨u1, a1, a2, a3, a4⟩ := ev_goRound (m := m) (by omega) rd hbE gx hx
    have hbN := lsd_b rd hbE
    have hhi : ∀ q, 2 * n ≤ q → nxd_ d n nb gc E q = E q := fun q hq => by unfold nxd_; rw [ls_hi hq]
    rw [lp_X12_round_130, a1]
    simp only [Option.bind_some]
    by_cases hc : cg_ E (nxd_ d n nb gc E) 6 = true
    · rw [if_pos hc] at hg
      rw [if_pos hc, if_neg (by decide)]
      obtain ⟨l, u2, b1, b2, b3⟩ := upd_lp (m := m) (j := j) (by omega) hw rd hbE hbN hhi (2 * n) 0 m u1 (by omega) (by omega) a2 (fun q hq => by rw [mx_g (by omega)]; exact a3 q hq) a4 rfl
      rw [show lp_X12_round_139 m (nI w) (nI j) m (0 : Int32) u1 = _ from b1]
      by_cases hu : ou_ (se_ (decide (w ≤ j)) E (nxd_ d n nb gc E)) 6 = true
      · rw [if_pos hu] at hg
        cases hg
        rw [if_pos hu]
        exact ⟨u2, rfl, b2, fun z hz => by cases hz⟩
      · rw [if_neg hu] at hg
        have hu' := Bool.eq_false_iff.mpr hu
        rw [if_neg hu]
        obtain ⟨u', p1, p2, p3⟩ := rnd_lp hm rd hw r (j + 1) f' u2 (se_ (decide (w ≤ j)) E (nxd_ d n nb gc E)) o (by omega) (by omega) (by omega) b2 (ou_f hu') (b3 hu') hg
        refine ⟨u', ?_, p2, fun z hz => ?_⟩
        · rw [← p1, nI_succ]; rfl
        · obtain ⟨q1, q2, q3, q4, q5⟩ := p3 z hz
          exact ⟨q1, q2, q3, q4, fun q hq => by rw [q5 q hq, se_at (hhi q hq), hhi q hq]⟩
    · rw [if_neg hc] at hg
      cases hg
      rw [if_neg hc, if_pos rfl]
      exact ⟨u1, rfl, a2, fun z hz => by cases hz; exact ⟨a3, hbE, h1, by omega, fun _ _ => rfl⟩⟩
