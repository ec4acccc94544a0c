/-! what a sum TELLS of a body, by the reference -/
theorem ev_atLeast {m : Nat} {u : xm_Y} {o : Option (Int × Int)} (ho : lst_ u o) {v : Int} (nv : nb_ 400000 v) : ∃ r : Int32, fn_X12_isLeastAtLeast m (Int64.ofInt v) u = some (r, u) ∧ (r = 0 ∨ r = 1) ∧ (r = 1 ↔ ge_ o v) := by
  rw [fn_X12_isLeastAtLeast]
  cases o with
  | none =>
    have ho : u.1 150 16 = 0 := ho
    rw [if_pos ho]
    exact ⟨0, rfl, Or.inl rfl, fun w => absurd w (by decide), fun w => w.elim⟩
  | some p =>
    obtain ⟨o1, o2, o3, o4, o5, o6, o7⟩ := ho
    rw [if_neg (show ¬ u.1 150 16 = 0 by rw [o1]; decide), o2, o4, om]
    have nvd : nb_ 19200000000 (v * p.2) := nb_m nv o7
    have P6 : nb_ 1000000000000000000 (1000000 : Int) := by unfold nb_; decide
    obtain ⟨f1, f2⟩ := ev_fdiv (m := m) (y := 1000000) (nb_w nvd (by decide)) P6 (by decide) u
    rw [show (1000000 : Int64) = Int64.ofInt 1000000 from rfl, f1]
    simp only [Option.bind_some]
    rw [o4, om, f2]
    simp only [Option.bind_some]
    rw [o3, os, os]
    have e1 := Int.mul_ediv_add_emod (v * p.2) 1000000
    have e2 := Int.mul_ediv_add_emod p.1 1000000
    have a1 : nb_ 1000000000000 (p.1 / 1000000 - v * p.2 / 1000000) := by
      generalize v * p.2 = x at *
      unfold nb_ at *; omega
    have a2 : nb_ 1000000000000 (p.1 % 1000000 - v * p.2 % 1000000) := by
      generalize v * p.2 = x at *
      unfold nb_ at *; omega
    have z0 : nb_ 1000000000000 (0 : Int) := by unfold nb_; decide
    have z1 : nb_ 48000 (1 : Int) := by unfold nb_; decide
    have ab := ev_above (m := m) (a := 0) (l := 0) (y := 1) (o := 1) z0 z0 z1 a1 a2 z1 u
    rw [show fn_X12_isAbove m 0 0 1 (Int64.ofInt (p.1 / 1000000 - v * p.2 / 1000000)) (Int64.ofInt (p.1 % 1000000 - v * p.2 % 1000000)) 1 u = _ from ab]
    simp only [Option.bind_some]
    have cmp : 0 < (0 * 1 - (p.1 / 1000000 - v * p.2 / 1000000) * 1) * 1000000 + (0 * 1 - (p.1 % 1000000 - v * p.2 % 1000000) * 1) ↔ p.1 < v * p.2 := by
      generalize v * p.2 = x at *
      omega
    by_cases q : p.1 < v * p.2
    · rw [if_pos (cmp.mpr q), if_neg (by decide)]
      refine ⟨0, rfl, Or.inl rfl, fun w => absurd w (by decide), fun w => ?_⟩
      have w : v * p.2 ≤ p.1 := w
      omega
    · rw [if_neg (fun w => q (cmp.mp w)), if_pos rfl]
      exact ⟨1, rfl, Or.inr rfl, fun _ => (show v * p.2 ≤ p.1 by omega), fun _ => rfl⟩
def rwd_ (d : xm_Y) (b i : Nat) : V4_ := (wr_ d 153 ((3 * b + i) * 4) 0, wr_ d 153 ((3 * b + i) * 4) 1, wr_ d 153 ((3 * b + i) * 4) 2, kr_ d 153 ((3 * b + i) * 4))
def wk_ (d : xm_Y) (b : Nat) (R : V4_) : Nat → V4_
  | 0 => R
  | i + 1 => ((wk_ d b R i).1 - cm_ R i * (rwd_ d b i).1, (wk_ d b R i).2.1 - cm_ R i * (rwd_ d b i).2.1, (wk_ d b R i).2.2.1 - cm_ R i * (rwd_ d b i).2.2.1, 0)
def ap_ (d : xm_Y) (b : Nat) (R : V4_) : Nat → Int
  | 0 => 0
  | i + 1 => ap_ d b R i + cm_ R i * (rwd_ d b i).2.2.2
def rb3_ (R : V4_) : Prop := nb_ 100 R.1 ∧ nb_ 100 R.2.1 ∧ nb_ 100 R.2.2.1 ∧ R.2.2.2 = 0
theorem cmR_b {R : V4_} (h : rb3_ R) (i : Nat) : nb_ 100 (cm_ R i) := by
  unfold cm_
  split
  · exact h.1
  · split
    · exact h.2.1
    · exact h.2.2.1
theorem wk_b {d : xm_Y} {b n : Nat} {R : V4_} (h : rb3_ R) (hr : ∀ i, i < n → rl_ (rwd_ d b i)) : ∀ i, i ≤ n → nb_ (100 + 2000 * i) (wk_ d b R i).1 ∧ nb_ (100 + 2000 * i) (wk_ d b R i).2.1 ∧ nb_ (100 + 2000 * i) (wk_ d b R i).2.2.1 ∧ (wk_ d b R i).2.2.2 = 0 ∧ nb_ (100000 * i) (ap_ d b R i)
  | 0, _ => ⟨nb_w h.1 (by omega), nb_w h.2.1 (by omega), nb_w h.2.2.1 (by omega), h.2.2.2, by unfold ap_ nb_; omega⟩
  | i + 1, hi => by
    obtain ⟨a1, a2, a3, a4, a5⟩ := wk_b h hr i (by omega)
    obtain ⟨b1, b2, b3, b4⟩ := hr i (by omega)
    have c := cmR_b h i
    exact ⟨nb_w (nb_s a1 (nb_m c b1)) (by omega), nb_w (nb_s a2 (nb_m c b2)) (by omega), nb_w (nb_s a3 (nb_m c b3)) (by omega), rfl, nb_w (nb_a a5 (nb_m c b4)) (by omega)⟩
/-- only want -/
def wf_ (c u : xm_Y) : Prop := u.1 = c.1 ∧ ∀ q, q ≠ 181 → u.2 q = c.2 q
theorem wt3 {u : xm_Y} {x y z : Int} : wt_ (w_J (w_J (w_J u 181 0 (Int64.ofInt x)) 181 1 (Int64.ofInt y)) 181 2 (Int64.ofInt z)) (x, y, z, 0) ∧ wf_ u (w_J (w_J (w_J u 181 0 (Int64.ofInt x)) 181 1 (Int64.ofInt y)) 181 2 (Int64.ofInt z)) := by
  refine ⟨⟨?_, ?_, ?_⟩, rfl, fun q hq => ?_⟩
  · rw [rJ_ne (by decide), rJ_ne (by decide), rJ_eq]
  · rw [rJ_ne (by decide), rJ_eq]
  · rw [rJ_eq]
  · rw [rJ_nc hq, rJ_nc hq, rJ_nc hq]
theorem tel109 {m : Nat} (hm : 10 ≤ m) {u : xm_Y} {W w : V4_} {r : Int32} {A : Nat} (hA : A + 3 < 60) (hW : wt_ u W) (h0 : (u.1 153 A).toInt = w.1) (h1 : (u.1 153 (A + 1)).toInt = w.2.1) (h2 : (u.1 153 (A + 2)).toInt = w.2.2.1) : ∃ u', (∃ l, lp_X12_tellsOf_109 m r (nI A) m (0 : Int32) u = some (l, u')) ∧ wf_ u u' ∧ wt_ u' (W.1 - r.toInt * w.1, W.2.1 - r.toInt * w.2.1, W.2.2.1 - r.toInt * w.2.2.1, 0) := by
  obtain ⟨w0, w1, w2⟩ := hW
  obtain ⟨g, rfl⟩ : ∃ g, m = g + 4 := ⟨m - 4, by omega⟩
  have e0 : nI A + 0 = nI A := Int32.add_zero _
  have e1 : nI A + (0 + 1) = nI (A + 1) := nI_ad A 1
  have e2 : nI A + (0 + 1 + 1) = nI (A + 2) := nI_ad A 2
  obtain ⟨t1, t2⟩ := wt3 (u := u) (x := W.1 - r.toInt * w.1) (y := W.2.1 - r.toInt * w.2.1) (z := W.2.2.1 - r.toInt * w.2.2.1)
  refine ⟨_, ⟨3, ?_⟩, t2, t1⟩
  have s0 : u.2 181 (Int32.toNatClampNeg 0) - Int32.toInt64 r * Int32.toInt64 (u.1 153 (nI A + 0).toNatClampNeg) = Int64.ofInt (W.1 - r.toInt * w.1) := by
    rw [e0, nI_cl (by omega), show u.2 181 (Int32.toNatClampNeg 0) = _ from w0, i64o, i64o, h0, om, os]
  rw [lp_X12_tellsOf_109, if_neg (by decide), ck_t (by decide), ck_t (by rw [e0]; exact nI_xi (by omega) (by omega)), ck_t (by decide), s0]
  simp only [xm_let]
  have s1 : (w_J u 181 (Int32.toNatClampNeg 0) (Int64.ofInt (W.1 - r.toInt * w.1))).2 181 (Int32.toNatClampNeg (0 + 1)) - Int32.toInt64 r * Int32.toInt64 ((w_J u 181 (Int32.toNatClampNeg 0) (Int64.ofInt (W.1 - r.toInt * w.1))).1 153 (nI A + (0 + 1)).toNatClampNeg) = Int64.ofInt (W.2.1 - r.toInt * w.2.1) := by
    rw [rJ_ne (by decide), e1, nI_cl (by omega), show u.2 181 (Int32.toNatClampNeg (0 + 1)) = _ from w1]
    show Int64.ofInt W.2.1 - Int32.toInt64 r * Int32.toInt64 (u.1 153 (A + 1)) = _
    rw [i64o, i64o, h1, om, os]
  rw [lp_X12_tellsOf_109, if_neg (by decide), ck_t (by decide), ck_t (by rw [e1]; exact nI_xi (by omega) (by omega)), ck_t (by decide), s1]
  simp only [xm_let]
  have s2 : (w_J (w_J u 181 (Int32.toNatClampNeg 0) (Int64.ofInt (W.1 - r.toInt * w.1))) 181 (Int32.toNatClampNeg (0 + 1)) (Int64.ofInt (W.2.1 - r.toInt * w.2.1))).2 181 (Int32.toNatClampNeg (0 + 1 + 1)) - Int32.toInt64 r * Int32.toInt64 ((w_J (w_J u 181 (Int32.toNatClampNeg 0) (Int64.ofInt (W.1 - r.toInt * w.1))) 181 (Int32.toNatClampNeg (0 + 1)) (Int64.ofInt (W.2.1 - r.toInt * w.2.1))).1 153 (nI A + (0 + 1 + 1)).toNatClampNeg) = Int64.ofInt (W.2.2.1 - r.toInt * w.2.2.1) := by
    rw [rJ_ne (by decide), rJ_ne (by decide), e2, nI_cl (by omega), show u.2 181 (Int32.toNatClampNeg (0 + 1 + 1)) = _ from w2]
    show Int64.ofInt W.2.2.1 - Int32.toInt64 r * Int32.toInt64 (u.1 153 (A + 2)) = _
    rw [i64o, i64o, h2, om, os]
  rw [lp_X12_tellsOf_109, if_neg (by decide), ck_t (by decide), ck_t (by rw [e2]; exact nI_xi (by omega) (by omega)), ck_t (by decide), s2]
  simp only [xm_let]
  rw [lp_X12_tellsOf_109, if_pos (by decide)]
  rfl
theorem tel64 {m b n : Nat} (hm : 20 ≤ m) (hb : b < 5) (hn3 : n ≤ 3) {R : V4_} {x1 x2 x3 : Int32} (r1 : x1.toInt = R.1) (r2 : x2.toInt = R.2.1) (r3 : x3.toInt = R.2.2.1) {d : xm_Y} (hn : d.1 150 0 = nI n) : ∀ (r i f : Nat) (u : xm_Y), i + r = n → r + 1 ≤ f → (∀ q j, q ≠ 150 → u.1 q j = d.1 q j) → u.1 150 0 = d.1 150 0 → wt_ u (wk_ d b R i) → ∃ (l : Int32) (u' : xm_Y), lp_X12_tellsOf_64 m (nI b) x1 x2 x3 f (Int64.ofInt (ap_ d b R i)) (nI i) u = some (Int64.ofInt (ap_ d b R n), l, u') ∧ wf_ u u' ∧ wt_ u' (wk_ d b R n)
  | 0, i, f, u, hi, hf, hu, h0, hW => by
    obtain ⟨f', rfl⟩ : ∃ f', f = f' + 1 := ⟨f - 1, by omega⟩
    obtain rfl : i = n := by omega
    exact ⟨nI i, u, by rw [lp_X12_tellsOf_64, h0, hn, if_pos ((nIle (by omega) (by omega)).mpr (by omega))], ⟨rfl, fun _ _ => rfl⟩, hW⟩
  | r + 1, i, f, u, hi, hf, hu, h0, hW => by
    obtain ⟨f', rfl⟩ : ∃ f', f = f' + 1 := ⟨f - 1, by omega⟩
    have sel : ∃ x : Int32, ((if nI i = 0 then some x1 else if nI i = 1 then some x2 else some x3) : Option Int32) = some x ∧ x.toInt = cm_ R i := by
      have : i = 0 ∨ i = 1 ∨ i = 2 := by omega
      rcases this with rfl | rfl | rfl
      · exact ⟨x1, rfl, r1⟩
      · exact ⟨x2, rfl, r2⟩
      · exact ⟨x3, rfl, r3⟩
    obtain ⟨x, xe, xv⟩ := sel
    have hA : ((3 : Int32) * nI b + nI i) * 4 = nI ((3 * b + i) * 4) := by
      rw [show (3 : Int32) = nI 3 from rfl, show (4 : Int32) = nI 4 from rfl, nI_mu, nI_ad, nI_mu]
    obtain ⟨u1, ⟨l1, a1⟩, a2, a3⟩ := tel109 (m := m) (by omega) (u := u) (W := wk_ d b R i) (w := rwd_ d b i) (r := x) (A := (3 * b + i) * 4) (by omega) hW (by rw [hu 153 _ (by decide)]; rfl) (by rw [hu 153 _ (by decide)]; rfl) (by rw [hu 153 _ (by decide)]; rfl)
    rw [xv] at a3
    obtain ⟨l, u', p1, p2, p3⟩ := tel64 hm hb hn3 r1 r2 r3 hn r (i + 1) f' u1 (by omega) (by omega) (fun q j hq => by rw [a2.1]; exact hu q j hq) (by rw [a2.1]; exact h0) a3
    refine ⟨l, u', ?_, ⟨p2.1.trans a2.1, fun q hq => (p2.2 q hq).trans (a2.2 q hq)⟩, p3⟩
    have e3 : nI ((3 * b + i) * 4) + 3 = nI ((3 * b + i) * 4 + 3) := nI_ad _ 3
    rw [lp_X12_tellsOf_64, h0, hn, if_neg (fun q => absurd ((nIle (by omega) (by omega)).mp q) (by omega)), xe]
    simp only [Option.bind_some, xm_let]
    rw [hA, a1]
    simp only [Option.bind_some]
    rw [e3, ck_t (nI_xi (by omega) (by omega)), nI_cl (by omega), show u1.1 153 ((3 * b + i) * 4 + 3) = d.1 153 ((3 * b + i) * 4 + 3) by rw [a2.1]; exact hu 153 _ (by decide), i64o, i64o, xv, om, oa, ← nI_succ]
    exact p1
/-- the number told -/
def trl_ (L : List V4_) (R W : V4_) (ap : Int) (t : Nat) : Prop := (Emp_ L ∧ t = 7) ∨ (¬ Emp_ L ∧ ∃ x y z : Nat, x ≤ 1 ∧ y ≤ 1 ∧ z ≤ 1 ∧ t = 4 * x + 2 * y + z ∧ (x = 1 ↔ ∃ v, lb_ L R v) ∧ (y = 1 ↔ lb_ L W (ap + 1)) ∧ (z = 1 ↔ lb_ L W ap))
/-- scratch of tellsOf -/
def tf2_ (c u : xm_Y) : Prop := (∀ q, q ≠ 150 → u.1 q = c.1 q) ∧ (∀ e, e ≠ 11 → e ≠ 16 → e ≠ 17 → u.1 150 e = c.1 150 e) ∧ (∀ q, q ≠ 150 → q ≠ 159 → q ≠ 181 → u.2 q = c.2 q)
theorem tf2_.rf (c : xm_Y) : tf2_ c c := ⟨fun _ _ => rfl, fun _ _ _ _ => rfl, fun _ _ _ _ => rfl⟩
theorem tf2_.tr {a b c : xm_Y} (h : tf2_ a b) (g : tf2_ b c) : tf2_ a c := ⟨fun q hq => (g.1 q hq).trans (h.1 q hq), fun e h1 h2 h3 => (g.2.1 e h1 h2 h3).trans (h.2.1 e h1 h2 h3), fun q h1 h2 h3 => (g.2.2 q h1 h2 h3).trans (h.2.2 q h1 h2 h3)⟩
theorem sf_t {a b : xm_Y} (h : sf_ a b) : tf2_ a b := ⟨h.1, fun e h1 _ h3 => h.2.1 e h1 h3, fun q _ h2 _ => h.2.2 q h2⟩
theorem lf3_t {a b : xm_Y} (h : lf3_ a b) : tf2_ a b := ⟨h.1, fun e _ h2 _ => h.2.1 e h2, fun q h1 _ _ => h.2.2 q h1⟩
theorem wf_t {a b : xm_Y} (h : wf_ a b) : tf2_ a b := ⟨fun q _ => by rw [h.1], fun e _ _ _ => by rw [h.1], fun q _ _ h3 => h.2 q h3⟩
theorem sq_w {c u : xm_Y} {L : List V4_} (h : sq_ c L) (e : wf_ c u) : sq_ u L := by
  obtain ⟨h1, h2, h3⟩ := h
  exact ⟨by rw [e.1]; exact h1, h2, fun k p hp => by rw [e.2 159 (by decide)]; exact h3 k p hp⟩
theorem ge_ex {o : Option (Int × Int)} {u : xm_Y} (h : lst_ u o) : (∃ v, ge_ o v) ↔ u.1 150 16 = 1 := by
  cases o with
  | none =>
    have h : u.1 150 16 = 0 := h
    exact ⟨fun ⟨v, hv⟩ => hv.elim, fun w => absurd (h.symm.trans w) (by decide)⟩
  | some p =>
    refine ⟨fun _ => h.1, fun _ => ⟨p.1 / p.2, ?_⟩⟩
    show p.1 / p.2 * p.2 ≤ p.1
    have e := Int.mul_ediv_add_emod p.1 p.2
    have p0 := h.2.2.2.2.2.1
    have r1 := Int.emod_nonneg p.1 (show p.2 ≠ 0 by omega)
    rw [Int.mul_comm] at e
    omega
theorem lst_01 {o : Option (Int × Int)} {u : xm_Y} (h : lst_ u o) : u.1 150 16 = 0 ∨ u.1 150 16 = 1 := by
  cases o with
  | none => exact Or.inl h
  | some p => exact Or.inr h.1
theorem ev_tellsOf {m b G n : Nat} (hm : 100 ≤ m) {d : xm_Y} {E : E_} (hb5 : b < 5) (hn : d.1 150 0 = nI n) (hn3 : n ≤ 3) (db : db_ d b G) (hE : bz_ d n E) (hbd : ∀ k, k < 2 * n → bd_ 1000000000 (E k)) (hr : ∀ i, i < n → rl_ (rwd_ d b i)) {R : V4_} (rb : rb3_ R) {x1 x2 x3 : Int32} (r1 : x1.toInt = R.1) (r2 : x2.toInt = R.2.1) (r3 : x3.toInt = R.2.2.1) : ∃ (t : Nat) (u' : xm_Y), fn_X12_tellsOf m (nI b) x1 x2 x3 d = some (nI t, u') ∧ t ≤ 7 ∧ tf2_ d u' ∧ trl_ (SS_ d b G n E) R (wk_ d b R n) (ap_ d b R n) t := by
  obtain ⟨u1, a1, a2, a3, a4⟩ := ev_lays (m := m) (by omega) hb5 hn hn3 db hE hbd
  have sb := SS_b (E := E) (n := n) db hn3 hbd
  rw [fn_X12_tellsOf, a1]
  simp only [Option.bind_some]
  rcases a4 with ⟨f0, ne⟩ | ⟨f1, em⟩
  · rw [if_pos f0, ck_t (by decide)]
    simp only [xm_let]
    rw [ck_t (by decide), ck_t (by decide), i64o, i64o, i64o, r1, r2, r3]
    obtain ⟨t1, t2⟩ := wt3 (u := u1) (x := R.1) (y := R.2.1) (z := R.2.2.1)
    have R4 : ((R.1, R.2.1, R.2.2.1, 0) : V4_) = R := by
      obtain ⟨p1, p2, p3, p4⟩ := R
      have : p4 = 0 := rb.2.2.2
      rw [this]
    rw [R4] at t1
    show ∃ t u', Option.bind (fn_X12_findLeast m (w_J (w_J (w_J u1 181 0 (Int64.ofInt R.1)) 181 1 (Int64.ofInt R.2.1)) 181 2 (Int64.ofInt R.2.2.1))) _ = _ ∧ _
    generalize w_J (w_J (w_J u1 181 0 (Int64.ofInt R.1)) 181 1 (Int64.ofInt R.2.1)) 181 2 (Int64.ofInt R.2.2.1) = u2 at t1 t2 ⊢
    obtain ⟨u3, o1, b1, b2, b3, b4⟩ := ev_least (m := m) (by omega) (sq_w a3 t2) sb t1 ⟨nb_w rb.1 (by decide), nb_w rb.2.1 (by decide), nb_w rb.2.2.1 (by decide), rb.2.2.2⟩ ne
    rw [b1]
    simp only [Option.bind_some]
    have q7 : ∃ x : Nat, x ≤ 1 ∧ ((if u3.1 150 16 = 0 then some (0 : Int32) else some 4) : Option Int32) = some (nI (4 * x)) ∧ (x = 1 ↔ ∃ v, lb_ (SS_ d b G n E) R v) := by
      have eq : (∃ v, lb_ (SS_ d b G n E) R v) ↔ u3.1 150 16 = 1 := by
        rw [← ge_ex b3]
        exact ⟨fun ⟨v, hv⟩ => ⟨v, (b4 v).mpr hv⟩, fun ⟨v, hv⟩ => ⟨v, (b4 v).mp hv⟩⟩
      rcases lst_01 b3 with z | z
      · exact ⟨0, by omega, by rw [if_pos z]; rfl, fun w => by omega, fun w => absurd (z.symm.trans (eq.mp w)) (by decide)⟩
      · exact ⟨1, by omega, by rw [if_neg (by rw [z]; decide)]; rfl, fun _ => eq.mpr z, fun _ => rfl⟩
    obtain ⟨x, x1', x2', x3'⟩ := q7
    rw [x2']
    simp only [Option.bind_some]
    have fr3 : tf2_ d u3 := ((sf_t a2).tr (wf_t t2)).tr (lf3_t b2)
    obtain ⟨l4, u4, c1, c2, c3⟩ := tel64 (m := m) (by omega) hb5 hn3 r1 r2 r3 hn n 0 m u3 (by omega) (by omega) (fun q j hq => by rw [fr3.1 q hq]) (fr3.2.1 0 (by decide) (by decide) (by decide)) (wt_l t1 b2)
    rw [show lp_X12_tellsOf_64 m (nI b) x1 x2 x3 m (0 : Int64) (0 : Int32) u3 = _ from c1]
    simp only [Option.bind_some]
    obtain ⟨k1, k2, k3, k4, k5⟩ := wk_b rb hr n (Nat.le_refl _)
    have wbn : wb_ (wk_ d b R n) := ⟨nb_w k1 (by omega), nb_w k2 (by omega), nb_w k3 (by omega), k4⟩
    obtain ⟨u5, o2, d1, d2, d3, d4⟩ := ev_least (m := m) (by omega) (sq_w (sq_l (sq_w a3 t2) b2) c2) sb c3 wbn ne
    rw [d1]
    simp only [Option.bind_some]
    have nap : nb_ 300000 (ap_ d b R n) := nb_w k5 (by omega)
    obtain ⟨ry, y1, y2, y3⟩ := ev_atLeast (m := m) d3 (v := 1 + ap_ d b R n) (by unfold nb_ at *; omega)
    obtain ⟨rz, z1, z2, z3⟩ := ev_atLeast (m := m) d3 (v := ap_ d b R n) (nb_w nap (by decide))
    rw [show (1 : Int64) + Int64.ofInt (ap_ d b R n) = Int64.ofInt (1 + ap_ d b R n) from oa 1 _, y1]
    simp only [Option.bind_some]
    have qy : ∃ y : Nat, y ≤ 1 ∧ ((if ry = 0 then some (0 : Int32) else some 2) : Option Int32) = some (nI (2 * y)) ∧ (y = 1 ↔ lb_ (SS_ d b G n E) (wk_ d b R n) (ap_ d b R n + 1)) := by
      rw [← d4, show ap_ d b R n + 1 = 1 + ap_ d b R n by omega, ← y3]
      rcases y2 with z | z
      · exact ⟨0, by omega, by rw [if_pos z]; rfl, fun w => by omega, fun w => absurd (z.symm.trans w) (by decide)⟩
      · exact ⟨1, by omega, by rw [if_neg (by rw [z]; decide)]; rfl, fun _ => z, fun _ => rfl⟩
    have qz : ∃ z : Nat, z ≤ 1 ∧ ((if rz = 0 then some (0 : Int32) else some 1) : Option Int32) = some (nI z) ∧ (z = 1 ↔ lb_ (SS_ d b G n E) (wk_ d b R n) (ap_ d b R n)) := by
      rw [← d4, ← z3]
      rcases z2 with z | z
      · exact ⟨0, by omega, by rw [if_pos z]; rfl, fun w => by omega, fun w => absurd (z.symm.trans w) (by decide)⟩
      · exact ⟨1, by omega, by rw [if_neg (by rw [z]; decide)]; rfl, fun _ => z, fun _ => rfl⟩
    obtain ⟨y, y1', y2', y3'⟩ := qy
    obtain ⟨z, z1', z2', z3'⟩ := qz
    rw [y2']
    simp only [Option.bind_some]
    rw [z1]
    simp only [Option.bind_some]
    rw [z2']
    simp only [Option.bind_some]
    rw [nI_ad, nI_ad]
    exact ⟨4 * x + 2 * y + z, u5, rfl, by omega, (fr3.tr (wf_t c2)).tr (lf3_t d2), Or.inr ⟨ne, x, y, z, x1', y1', z1', rfl, x3', y3', z3'⟩⟩
  · rw [if_neg (show ¬ u1.1 150 17 = 0 by rw [f1]; decide)]
    exact ⟨7, u1, rfl, by omega, sf_t a2, Or.inl ⟨em, rfl⟩⟩
