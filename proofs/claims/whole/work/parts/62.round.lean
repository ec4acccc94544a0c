/-- what the bodies' rows may be -/
def rb_ (c : xm_Y) (n nb : Nat) (gc : Nat → Nat) : Prop := c.1 1 1 = nI n ∧ n ≤ 3 ∧ c.1 1 2 = nI nb ∧ nb ≤ 5 ∧ ∀ b, b < nb → c.1 (3 + 24 * b) 4 = nI (gc b) ∧ gc b ≤ 6 ∧ (∀ g, g < gc b → (∀ i, i < 3 → -20 ≤ wc_ c (9 + 24 * b + 2 * g) i ∧ wc_ c (9 + 24 * b + 2 * g) i ≤ 20) ∧ -1000 ≤ kc_ c (9 + 24 * b + 2 * g) ∧ kc_ c (9 + 24 * b + 2 * g) ≤ 1000) ∧ (∀ j, j < n → (∀ i, i < 3 → -20 ≤ wc_ c (21 + 24 * b + 2 * j) i ∧ wc_ c (21 + 24 * b + 2 * j) i ≤ 20) ∧ -1000 ≤ kc_ c (21 + 24 * b + 2 * j) ∧ kc_ c (21 + 24 * b + 2 * j) ≤ 1000)
theorem rb_iv {c d : xm_Y} {n nb : Nat} {gc : Nat → Nat} (h1 : iv_1 c d n nb) (h2 : iv_2 c d n nb gc) : rb_ c n nb gc := by
  obtain ⟨a1, a2, a3, a4, a5, a6, a7⟩ := h1
  refine ⟨a1, a4, a5, a7, fun b hb => ?_⟩
  obtain ⟨g1, g2, g3, g4, g5, g6⟩ := h2 b hb
  exact ⟨g1, g3, fun g hg => ⟨fun i hi => ⟨((g4 g hg).1 i hi).2.1, ((g4 g hg).1 i hi).2.2.1⟩, (g4 g hg).2.2.1, (g4 g hg).2.2.2⟩, fun j hj => ⟨fun i hi => ⟨((g5 j hj).1 i hi).2.1, ((g5 j hj).1 i hi).2.2.1⟩, (g5 j hj).2.2.1, (g5 j hj).2.2.2⟩⟩
theorem look1_lp {m n nb : Nat} {gc : Nat → Nat} {c : xm_Y} {E : E_} (hm : 10 ≤ m) (rb : rb_ c n nb gc) (hbE : ∀ k, k < 6 → bd_ 1000000000 (E k)) : ∀ (r b f : Nat) (u : xm_Y) (NE : E_), b + r = nb → r + 1 ≤ f → fx_ (fun q => q = 133 ∨ q = 135) c u → bx_ u 133 E → (∀ k, k < 6 → bd_ 100000000000 (NE k)) → bx_ u 135 NE → ∃ (l : Int32) (u' : xm_Y), lp_X8_lookAtBodies_13 m f (nI b) u = some (l, u') ∧ fx_ (fun q => q = 133 ∨ q = 135) c u' ∧ bx_ u' 133 E ∧ bx_ u' 135 (ls_ n (pp_ c gc E) (rr2_ c E) r b NE)
  | 0, b, f, u, NE, hb, hf, fc, h1, hbN, h2 => by
    obtain ⟨f', rfl⟩ : ∃ f', f = f' + 1 := ⟨f - 1, by omega⟩
    obtain ⟨r1, r2, r3, r4, r5⟩ := rb
    refine ⟨nI b, u, ?_, fc, h1, h2⟩
    rw [lp_X8_lookAtBodies_13, fc.1, r3, if_pos ((nIle (by omega) (by omega)).mpr (by omega))]
  | r + 1, b, f, u, NE, hb, hf, fc, h1, hbN, h2 => by
    obtain ⟨f', rfl⟩ : ∃ f', f = f' + 1 := ⟨f - 1, by omega⟩
    obtain ⟨r1, r2, r3, r4, r5⟩ := id rb
    obtain ⟨g1, g2, g3, g4⟩ := r5 b (by omega)
    have hbE' : ∀ k, k < 6 → bd_ 100000000000 (E k) := fun k hk => bd_mn (hbE k hk) (by omega)
    have hbR : ∀ k, k < 2 * n → bd_ 100000000000 (rr2_ c E b k) := fun k hk => fa_b (fun i hi => (g4 (k / 2) (by omega)).1 i hi) (g4 (k / 2) (by omega)).2.1 (g4 (k / 2) (by omega)).2.2 hbE (Nat.mod_lt _ (by omega))
    have ps : fn_X1_isPassedOver m b 132 u = some (if pp_ c gc E b = true then 1 else 0, u) := by
      have := ev_passed (m := m) (b := b) (o := 132) (G := gc b) (u := u) (E := E) hm (by rw [fc.1]; exact g1) g2 h1 hbE' (fun g hg => by
        unfold wc_ kc_
        rw [fc.1]
        exact fa_b (fun i hi => (g3 g hg).1 i hi) (g3 g hg).2.1 (g3 g hg).2.2 hbE (by omega))
      rw [this]
      unfold pp_ wc_ kc_
      rw [fc.1]
    rw [lp_X8_lookAtBodies_13, fc.1, r3, if_neg (fun q => absurd ((nIle (by omega) (by omega)).mp q) (by omega)), ck_t (nI_xi (by omega) (by omega)), nI_cl (by omega), ps]
    simp only [Option.bind_some, xm_let]
    by_cases hp : pp_ c gc E b = true
    · obtain ⟨l, u', p1, p2, p3, p4⟩ := look1_lp hm rb hbE r (b + 1) f' u NE (by omega) (by omega) fc h1 hbN h2
      refine ⟨l, u', ?_, p2, p3, ?_⟩
      · rw [if_pos hp, if_neg (by decide)]
        simp only [Option.bind_some]
        rw [← nI_succ, p1]
      · unfold ls_
        rw [if_pos hp]; exact p4
    · obtain ⟨l2, u2, s1, s2, s3, s4⟩ := look2_lp (b := b) (E := E) (NE := NE) hm r1 r2 (by omega) hbE' hbN hbR n 0 m u (by omega) (by omega) fc h1 (fun k hk => by
        rw [h2 k hk]
        unfold pb_
        rw [if_neg (by omega)])
      obtain ⟨l, u', p1, p2, p3, p4⟩ := look1_lp hm rb hbE r (b + 1) f' u2 (pb_ (2 * n) (rr2_ c E b) NE) (by omega) (by omega) s2 s3 (fun k hk => by
        unfold pb_
        split
        · exact wd_b (hbN k hk) (hbR k (by assumption))
        · exact hbN k hk) s4
      refine ⟨l, u', ?_, p2, p3, ?_⟩
      · rw [if_neg hp, if_pos rfl, show lp_X8_lookAtBodies_42 m b m (0 : Int32) u = some (l2, u2) from s1]
        simp only [Option.bind_some]
        rw [← nI_succ, p1]
      · unfold ls_
        rw [if_neg hp]; exact p4
theorem ev_copy6 (m o o2 : Nat) (u : xm_Y) : fn_X2_copyFrom m o o2 u = some ((), cp_J u (o2 + 1) (o + 1) 0 0 6) := by
  rw [fn_X2_copyFrom, ck_t (by decide)]
  rfl
theorem bx_cp {u : xm_Y} {p q : Nat} {E : E_} (h : bx_ u p E) : bx_ (cp_J u p q 0 0 6) q E := by
  have e : ∀ k, k < 6 → (cp_J u p q 0 0 6).2 q k = u.2 p k := by
    intro k hk
    unfold cp_J xm_u1
    simp only [if_pos]
    have : k = 0 ∨ k = 1 ∨ k = 2 ∨ k = 3 ∨ k = 4 ∨ k = 5 := by omega
    rcases this with rfl | rfl | rfl | rfl | rfl | rfl <;> rfl
  intro k hk
  rw [e k hk]; exact h k hk
theorem bx_cpn {u : xm_Y} {p q r : Nat} {E : E_} (hr : r ≠ q) (h : bx_ u r E) : bx_ (cp_J u p q 0 0 6) r E := by
  intro k hk
  unfold cp_J xm_u1
  simp only [if_neg hr]
  exact h k hk
theorem ev_look {m n nb : Nat} {gc : Nat → Nat} {c u : xm_Y} {E : E_} (hm : 10 ≤ m) (rb : rb_ c n nb gc) (hbE : ∀ k, k < 6 → bd_ 1000000000 (E k)) (fc : fx_ (fun q => q = 133 ∨ q = 135) c u) (h1 : bx_ u 133 E) : ∃ u' : xm_Y, fn_X8_lookAtBodies m u = some ((), u') ∧ fx_ (fun q => q = 133 ∨ q = 135) c u' ∧ bx_ u' 133 E ∧ bx_ u' 135 (nxc_ c n nb gc E) := by
  have h5 := rb.2.2.2.1
  obtain ⟨l, u', p1, p2, p3, p4⟩ := look1_lp hm rb hbE nb 0 m (cp_J u 133 135 0 0 6) E (by omega) (by omega) (fc.cp (Or.inr rfl)) (bx_cpn (by decide) h1) (fun k hk => bd_mn (hbE k hk) (by omega)) (bx_cp h1)
  refine ⟨u', ?_, p2, p3, p4⟩
  rw [fn_X8_lookAtBodies, ev_copy6]
  simp only [Option.bind_some]
  rw [show lp_X8_lookAtBodies_13 m m (0 : Int32) _ = _ from p1]
  rfl
theorem ls_bb {c : xm_Y} {n nb : Nat} {gc : Nat → Nat} {E : E_} (rb : rb_ c n nb gc) (hbE : ∀ k, k < 6 → bd_ 1000000000 (E k)) : ∀ k, k < 6 → bd_ 100000000000 (nxc_ c n nb gc E k) := by
  intro k hk
  obtain ⟨r1, r2, r3, r4, r5⟩ := rb
  by_cases h : k < 2 * n
  · have e : nxc_ c n nb gc E k = ls_ n (pp_ c gc E) (fun b q => if q < 2 * n then rr2_ c E b q else none) nb 0 E k := by
      unfold nxc_
      rw [ls_c nb 0 E (P' := pp_ c gc E) (R' := fun b q => if q < 2 * n then rr2_ c E b q else none) (fun j _ _ => ⟨rfl, fun q hq => by rw [if_pos hq]⟩)]
    rw [e]
    refine ls_b (nb := nb) (fun b q hb hq => ?_) nb 0 E (by omega) (fun q hq => bd_mn (hbE q hq) (by omega)) k hk
    split
    · rename_i hq2
      obtain ⟨g1, g2, g3, g4⟩ := r5 b hb
      exact fa_b (fun i hi => (g4 (q / 2) (by omega)).1 i hi) (g4 (q / 2) (by omega)).2.1 (g4 (q / 2) (by omega)).2.2 hbE (Nat.mod_lt _ (by omega))
    · exact fun v hv => by cases hv
  · unfold nxc_
    rw [ls_hi (by omega)]
    exact bd_mn (hbE k hk) (by omega)
theorem se_at {o : Bool} {E NE : E_} {k : Nat} (h : NE k = E k) : se_ o E NE k = NE k := by
  unfold se_
  rw [if_neg (fun q => q.2 h)]
def pse_ (e : Nat) (o : Bool) (E NE : E_) : E_ := fun k => if k < e then se_ o E NE k else NE k
theorem pse_l {e k : Nat} {o : Bool} {E NE : E_} (h : k < e) : pse_ e o E NE k = se_ o E NE k := if_pos h
theorem pse_g {e k : Nat} {o : Bool} {E NE : E_} (h : ¬ k < e) : pse_ e o E NE k = NE k := if_neg h
theorem settle_lp {m : Nat} {c : xm_Y} {E NE : E_} (o : Bool) (hbE : ∀ k, k < 6 → bd_ 100000000000 (E k)) (hbN : ∀ k, k < 6 → bd_ 100000000000 (NE k)) : ∀ (r e f : Nat) (u : xm_Y), e + r = 6 → r + 1 ≤ f → fx_ (fun q => q = 133 ∨ q = 135) c u → bx_ u 133 E → bx_ u 135 (pse_ e o E NE) → ∃ (l : Int32) (u' : xm_Y), lp_X8_settle_4 m (if o = true then 1 else 0) f (if cg_ E NE e = true then 1 else 0) (nI e) u = some (if cg_ E NE 6 = true then 1 else 0, l, u') ∧ fx_ (fun q => q = 133 ∨ q = 135) c u' ∧ bx_ u' 133 E ∧ bx_ u' 135 (se_ o E NE)
  | 0, e, f, u, he, hf, fc, h1, h2 => by
    obtain ⟨f', rfl⟩ : ∃ f', f = f' + 1 := ⟨f - 1, by omega⟩
    obtain rfl : e = 6 := by omega
    refine ⟨nI 6, u, ?_, fc, h1, fun k hk => by rw [h2 k hk, pse_l hk]⟩
    rw [lp_X8_settle_4, if_pos (show (6 : Int32) ≤ nI 6 by decide)]
  | r + 1, e, f, u, he, hf, fc, h1, h2 => by
    obtain ⟨f', rfl⟩ : ∃ f', f = f' + 1 := ⟨f - 1, by omega⟩
    have he6 : e < 6 := by omega
    have v1 : u.2 (134 + 1) e = ec_ (NE e) := by rw [show 134 + 1 = 135 from rfl, h2 e he6, pse_g (by omega)]
    have v2 : u.2 (132 + 1) e = ec_ (E e) := h1 e he6
    rw [lp_X8_settle_4, if_neg (show ¬ (6 : Int32) ≤ nI e from fun q => absurd ((nIle (a := 6) (by omega) (by omega)).mp q) (by omega)), ck_t (nI_xi he6 (by omega)), ck_t (nI_xi he6 (by omega)), ck_t (nI_xi he6 (by omega)), nI_cl (by omega), v1, v2]
    simp only [xm_let]
    by_cases hq : NE e = E e
    · rw [if_pos (by rw [hq])]
      simp only [Option.bind_some]
      have ce : cg_ E NE (e + 1) = cg_ E NE e := by
        show (cg_ E NE e || decide (NE e ≠ E e)) = _
        rw [decide_eq_false (fun z => z hq), Bool.or_false]
      rw [← ce, ← nI_succ]
      refine settle_lp o hbE hbN r (e + 1) f' u (by omega) (by omega) fc h1 (fun k hk => ?_)
      rw [h2 k hk]
      by_cases k1 : k < e
      · rw [pse_l k1, pse_l (by omega)]
      · rw [pse_g k1]
        by_cases k2 : k = e
        · rw [pse_l (by omega), k2, se_at hq]
        · rw [pse_g (by omega)]
    · rw [if_neg (fun z => hq ((ec_in (hbN e he6) (hbE e he6)).mp z))]
      have ce : cg_ E NE (e + 1) = true := by
        show (cg_ E NE e || decide (NE e ≠ E e)) = true
        rw [decide_eq_true hq, Bool.or_true]
      cases o with
      | false =>
        rw [if_pos (show (if false = true then (1 : Int32) else 0) = 0 from rfl)]
        simp only [Option.bind_some]
        have := settle_lp false hbE hbN (m := m) (c := c) r (e + 1) f' u (by omega) (by omega) fc h1 (fun k hk => by
          rw [h2 k hk]
          by_cases k1 : k < e
          · rw [pse_l k1, pse_l (by omega)]
          · rw [pse_g k1]
            by_cases k2 : k = e
            · rw [pse_l (by omega)]
              unfold se_
              rw [if_neg (fun z => absurd z.1 (by decide))]
            · rw [pse_g (by omega)])
        rw [ce, if_pos rfl, nI_succ] at this
        exact this
      | true =>
        rw [if_pos rfl, if_neg (by decide)]
        simp only [Option.bind_some]
        have := settle_lp true hbE hbN (m := m) (c := c) r (e + 1) f' (w_J u (134 + 1) e (-3000000000000)) (by omega) (by omega) (fc.wJ (Or.inr rfl)) (fun k hk => by rw [rJ_ne (by omega)]; exact h1 k hk) (fun k hk => by
          by_cases k2 : k = e
          · rw [k2, pse_l (by omega)]
            show (w_J u 135 e (-3000000000000)).2 135 e = _
            rw [rJ_eq]
            unfold se_
            rw [if_pos ⟨rfl, hq⟩]
            rfl
          · rw [rJ_ne (by omega), h2 k hk]
            by_cases k1 : k < e
            · rw [pse_l k1, pse_l (by omega)]
            · rw [pse_g k1, pse_g (by omega)])
        rw [ce, if_pos rfl, nI_succ] at this
        exact this
theorem ev_settle {m : Nat} {c u : xm_Y} {E NE : E_} (o : Bool) (hm : 10 ≤ m) (hbE : ∀ k, k < 6 → bd_ 100000000000 (E k)) (hbN : ∀ k, k < 6 → bd_ 100000000000 (NE k)) (fc : fx_ (fun q => q = 133 ∨ q = 135) c u) (h1 : bx_ u 133 E) (h2 : bx_ u 135 NE) : ∃ u' : xm_Y, fn_X8_settle m (if o = true then 1 else 0) u = some (if cg_ E NE 6 = true then 1 else 0, u') ∧ fx_ (fun q => q = 133 ∨ q = 135) c u' ∧ bx_ u' 133 E ∧ bx_ u' 135 (se_ o E NE) := by
  obtain ⟨l, u', p1, p2, p3, p4⟩ := settle_lp (m := m) o hbE hbN 6 0 m u (by omega) (by omega) fc h1 (fun k hk => by rw [h2 k hk, pse_g (by omega)])
  refine ⟨u', ?_, p2, p3, p4⟩
  rw [fn_X8_settle, show lp_X8_settle_4 m (if o = true then 1 else 0) m (0 : Int32) (0 : Int32) u = _ from p1]
  simp only [Option.bind_some]
  rw [ck_t (by split <;> decide)]
theorem isOut_lp {m : Nat} {u : xm_Y} {E : E_} (hb : ∀ k, k < 6 → bd_ 100000000000 (E k)) (h : bx_ u 135 E) : ∀ (r e f : Nat), e + r = 6 → r + 1 ≤ f → ou_ E e = false → ∃ l : Int32, lp_X2_isOut_2 m 134 f (nI e) u = some (if ou_ E 6 = true then .inl (1, u) else .inr (l, u))
  | 0, e, f, he, hf, ho => by
    obtain ⟨f', rfl⟩ : ∃ f', f = f' + 1 := ⟨f - 1, by omega⟩
    obtain rfl : e = 6 := by omega
    refine ⟨nI 6, ?_⟩
    rw [lp_X2_isOut_2, if_pos (show (6 : Int32) ≤ nI 6 by decide), ho]
    rfl
  | r + 1, e, f, he, hf, ho => by
    obtain ⟨f', rfl⟩ : ∃ f', f = f' + 1 := ⟨f - 1, by omega⟩
    have he6 : e < 6 := by omega
    have v1 : u.2 (134 + 1) e = ec_ (E e) := h e he6
    rw [lp_X2_isOut_2, if_neg (show ¬ (6 : Int32) ≤ nI e from fun q => absurd ((nIle (a := 6) (by omega) (by omega)).mp q) (by omega)), ck_t (nI_xi he6 (by omega)), ck_t (nI_xi he6 (by omega)), nI_cl (by omega), v1]
    simp only [xm_let]
    have st : ou_ E (e + 1) = (ou_ E e || (match E e with | none => false | some v => decide (v < -1000000000) || decide (1000000000 < v))) := rfl
    cases hE : E e with
    | none =>
      rw [if_pos (show ec_ none = -3000000000000 from rfl), ← nI_succ]
      rw [hE, ho] at st
      exact isOut_lp hb h r (e + 1) f' (by omega) (by omega) st
    | some v =>
      have bv := hb e he6 v hE
      rw [if_neg (show ¬ ec_ (some v) = -3000000000000 from ec_no bv.1 bv.2)]
      rw [hE, ho] at st
      have st : ou_ E (e + 1) = (false || (decide (v < -1000000000) || decide (1000000000 < v))) := st
      have e1 : Int64.ofInt v < -(1000000000 : Int64) ↔ v < -1000000000 := by
        rw [show -(1000000000 : Int64) = Int64.ofInt (-1000000000) from rfl]
        exact oflt bv.1 bv.2 (by omega) (by omega)
      have e2 : Int64.ofInt v ≤ (1000000000 : Int64) ↔ v ≤ 1000000000 := by
        rw [show (1000000000 : Int64) = Int64.ofInt 1000000000 from rfl]
        exact ofle bv.1 bv.2 (by omega) (by omega)
      by_cases c1 : v < -1000000000
      · have big : ∀ k, e + 1 ≤ k → ou_ E k = true := by
          intro k hk
          induction k with
          | zero => omega
          | succ k ih =>
            by_cases q : e + 1 ≤ k
            · show (ou_ E k || _) = true
              rw [ih q, Bool.true_or]
            · obtain rfl : k = e := by omega
              rw [st, decide_eq_true c1]; rfl
        refine ⟨0, ?_⟩
        rw [fn_X11_isBeyond, if_pos (show ec_ (some v) < -(1000000000 : Int64) from e1.mpr c1), big 6 (by omega)]
        rfl
      · by_cases c2 : v ≤ 1000000000
        · rw [fn_X11_isBeyond, if_neg (show ¬ ec_ (some v) < -(1000000000 : Int64) from fun q => c1 (e1.mp q)), if_pos (show ec_ (some v) ≤ (1000000000 : Int64) from e2.mpr c2)]
          simp only [Option.bind_some]
          rw [ck_t (by decide)]
          simp only [Option.bind_some]
          rw [if_pos trivial, ← nI_succ]
          rw [decide_eq_false c1, decide_eq_false (show ¬ 1000000000 < v by omega)] at st
          exact isOut_lp hb h r (e + 1) f' (by omega) (by omega) st
        · have big : ∀ k, e + 1 ≤ k → ou_ E k = true := by
            intro k hk
            induction k with
            | zero => omega
            | succ k ih =>
              by_cases q : e + 1 ≤ k
              · show (ou_ E k || _) = true
                rw [ih q, Bool.true_or]
              · obtain rfl : k = e := by omega
                rw [st, decide_eq_true (show 1000000000 < v by omega), Bool.or_true]; rfl
          refine ⟨0, ?_⟩
          rw [fn_X11_isBeyond, if_neg (show ¬ ec_ (some v) < -(1000000000 : Int64) from fun q => c1 (e1.mp q)), if_neg (show ¬ ec_ (some v) ≤ (1000000000 : Int64) from fun q => c2 (e2.mp q)), big 6 (by omega)]
          rfl
theorem se_b {o : Bool} {E NE : E_} {k : Nat} {B : Int} (h : bd_ B (NE k)) : bd_ B (se_ o E NE k) := by
  unfold se_
  split
  · exact fun v hv => by cases hv
  · exact h
theorem go_lp {m n nb w : Nat} {gc : Nat → Nat} {c : xm_Y} (hm : 100 ≤ m) (rb : rb_ c n nb gc) (hw : w ≤ 20) : ∀ (r j f : Nat) (u : xm_Y) (E : E_) (o : Option (Nat × E_)), 1 ≤ j → j + r = 28 → r + 1 ≤ f → fx_ (fun q => q = 133 ∨ q = 135) c u → (∀ k, k < 6 → bd_ 1000000000 (E k)) → bx_ u 133 E → gr_ (nxc_ c n nb gc) w r j E = some o → ∃ u' : xm_Y, (lp_X8_goRound_11 m (nI w) f (nI j) u).bind (Sum.elim (fun r => some r) (fun q => some ((-4 : Int32), q.2))) = some (match o with | none => -4 | some z => nI z.1, u') ∧ fx_ (fun q => q = 133 ∨ q = 135) c u' ∧ (∀ z, o = some z → bx_ u' 133 z.2 ∧ ∀ k, k < 6 → bd_ 1000000000 (z.2 k))
  | 0, j, f, u, E, o, h1, h2, hf, fc, hbE, hx, hg => by cases hg
  | r + 1, j, f, u, E, o, h1, h2, hf, fc, hbE, hx, hg => by
    obtain ⟨f', rfl⟩ : ∃ f', f = f' + 1 := ⟨f - 1, by omega⟩
    unfold gr_ at hg
    obtain ⟨u1, a1, a2, a3, a4⟩ := ev_look (m := m) (by omega) rb hbE fc hx
    have hbN := ls_bb rb hbE
    obtain ⟨u2, s1, s2, s3, s4⟩ := ev_settle (m := m) (decide (w ≤ j)) (by omega) (fun k hk => bd_mn (hbE k hk) (by omega)) hbN a2 a3 a4
    have ow : ((if nI j < nI w then some (0 : Int32) else some (1 : Int32)) : Option Int32) = some (if decide (w ≤ j) = true then 1 else 0) := by
      by_cases q : w ≤ j
      · rw [if_neg (fun z => absurd ((nIlt (by omega) (by omega)).mp z) (by omega)), decide_eq_true q]; rfl
      · rw [if_pos ((nIlt (by omega) (by omega)).mpr (by omega)), decide_eq_false q]; rfl
    rw [lp_X8_goRound_11, if_neg (show ¬ (27 : Int32) < nI j from fun q => absurd ((nIlt (a := 27) (by omega) (by omega)).mp q) (by omega)), a1, ow]
    simp only [Option.bind_some, xm_let]
    rw [s1]
    simp only [Option.bind_some]
    by_cases hc : cg_ E (nxc_ c n nb gc E) 6 = true
    · rw [if_pos hc] at hg
      rw [if_pos hc, if_neg (by decide)]
      have hbS : ∀ k, k < 6 → bd_ 100000000000 (se_ (decide (w ≤ j)) E (nxc_ c n nb gc E) k) := fun k hk => se_b (hbN k hk)
      obtain ⟨l, iso⟩ := isOut_lp (m := m) hbS s4 6 0 m (by omega) (by omega) rfl
      rw [fn_X2_isOut, show lp_X2_isOut_2 m 134 m (0 : Int32) u2 = _ from iso]
      by_cases hu : ou_ (se_ (decide (w ≤ j)) E (nxc_ c n nb gc E)) 6 = true
      · rw [if_pos hu] at hg
        cases hg
        rw [if_pos hu]
        exact ⟨u2, rfl, s2, fun z hz => by cases hz⟩
      · rw [if_neg hu] at hg
        rw [if_neg hu]
        obtain ⟨u', p1, p2, p3⟩ := go_lp hm rb hw r (j + 1) f' (cp_J u2 135 133 0 0 6) (se_ (decide (w ≤ j)) E (nxc_ c n nb gc E)) o (by omega) (by omega) (by omega) (s2.cp (Or.inl rfl)) (ou_f (Bool.eq_false_iff.mpr hu)) (bx_cp s4) hg
        refine ⟨u', ?_, p2, p3⟩
        rw [← p1, nI_succ]
        simp only [Option.bind_some, Sum.elim]
        rw [if_pos trivial, ev_copy6]
        rfl
    · rw [if_neg hc] at hg
      cases hg
      rw [if_neg hc, if_pos rfl]
      exact ⟨u2, rfl, s2, fun z hz => by cases hz; exact ⟨s3, hbE⟩⟩
