/-! the reference's MADE -/
theorem sp_lp {m w T : Nat} (hT : T < 3 ^ 16) : ∀ (j f : Nat) (u : xm_Y), j ≤ 16 → j + 1 ≤ f → (∀ i, j ≤ i → i < 16 → u.1 w i = nI (dt_ T i)) → ∃ (a l : Int32) (u' : xm_Y), lp_X12_spread_5 m w f (nI (T / 3 ^ (16 - j))) (nI j + (-1 : Int32)) u = some (a, l, u') ∧ u'.2 = u.2 ∧ (∀ q, q ≠ w → u'.1 q = u.1 q) ∧ (∀ i, i < 16 → u'.1 w i = nI (dt_ T i))
  | 0, f, u, hj, hf, h => by
    obtain ⟨f', rfl⟩ : ∃ f', f = f' + 1 := ⟨f - 1, by omega⟩
    refine ⟨nI (T / 3 ^ (16 - 0)), nI 0 + (-1 : Int32), u, ?_, rfl, fun _ _ => rfl, fun i hi => h i (by omega) hi⟩
    rw [lp_X12_spread_5, if_pos (by decide)]
  | j + 1, f, u, hj, hf, h => by
    obtain ⟨f', rfl⟩ : ∃ f', f = f' + 1 := ⟨f - 1, by omega⟩
    have hq : T / 3 ^ (16 - (j + 1)) < 2 ^ 31 := Nat.lt_of_le_of_lt (Nat.div_le_self _ _) (Nat.lt_trans hT (by decide))
    have e1 : nI (T / 3 ^ (16 - (j + 1))) - nI (T / 3 ^ (16 - (j + 1))) / 3 * 3 = nI (dt_ T j) := by
      rw [show (3 : Int32) = nI 3 from rfl, nI_md hq (by omega)]
      unfold dt_
      rw [show 16 - (j + 1) = 15 - j by omega]
    have e2 : nI (T / 3 ^ (16 - (j + 1))) / 3 = nI (T / 3 ^ (16 - j)) := by
      rw [show (3 : Int32) = nI 3 from rfl, nI_dv hq (by omega), Nat.div_div_eq_div_mul, ← Nat.pow_succ, show (16 - (j + 1)).succ = 16 - j by omega]
    obtain ⟨a, l, u', p1, p2, p3, p4⟩ := sp_lp (m := m) (w := w) hT j f' (w_I u w j (nI (dt_ T j))) (by omega) (by omega) (fun i h1 h2 => by
      by_cases q : i = j
      · subst q; rw [rI_eq]
      · rw [rI_ne (by omega)]; exact h i (by omega) h2)
    refine ⟨a, l, u', ?_, p2, fun q hq => (p3 q hq).trans (rI_nc hq), p4⟩
    rw [nI_dn, lp_X12_spread_5, if_neg (show ¬ nI j < 0 from fun z => absurd ((nIlt (b := 0) (by omega) (by omega)).mp z) (by omega)), ck_t (by decide), ck_t (nI_xi (by omega) (by omega)), nI_cl (by omega), e1]
    simp only [xm_let]
    rw [ck_t (by decide), e2, p1]
theorem ev_spread {m : Nat} (hm : 20 ≤ m) (w : Nat) {T : Nat} (hT : T < 3 ^ 16) (u : xm_Y) : ∃ u', fn_X12_spread m (nI T) w u = some ((), u') ∧ u'.2 = u.2 ∧ (∀ q, q ≠ w → u'.1 q = u.1 q) ∧ (∀ i, i < 16 → u'.1 w i = nI (dt_ T i)) := by
  obtain ⟨a, l, u', p1, p2, p3, p4⟩ := sp_lp (m := m) (w := w) hT 16 m u (by omega) (by omega) (fun i h1 h2 => by omega)
  refine ⟨u', ?_, p2, p3, p4⟩
  rw [show T / 3 ^ (16 - 16) = T by simp] at p1
  rw [fn_X12_spread, show (15 : Int32) = nI 16 + (-1 : Int32) by decide, p1]
  rfl
theorem td1_lp {m R j : Nat} (hR : R < 4) (hj : j < 4) {a b : Nat → Nat} (ha : ∀ i, a i < 3) (hb : ∀ i, b i < 3) {u : xm_Y} (h1 : ∀ i, i < 16 → u.1 179 i = nI (a i)) (h2 : ∀ i, i < 16 → u.1 180 i = nI (b i)) : ∀ (r k f : Nat), k + r = 4 → r + 1 ≤ f → ∃ l, lp_X12_together_42 m (nI R) (nI j) u f (nI (mxl_ a b R j k)) (nI k) = some (nI (mxl_ a b R j 4), l)
  | 0, k, f, hk, hf => by
    obtain ⟨f', rfl⟩ : ∃ f', f = f' + 1 := ⟨f - 1, by omega⟩
    obtain rfl : k = 4 := by omega
    exact ⟨nI 4, by rw [lp_X12_together_42, if_pos (by decide)]⟩
  | r + 1, k, f, hk, hf => by
    obtain ⟨f', rfl⟩ : ∃ f', f = f' + 1 := ⟨f - 1, by omega⟩
    obtain ⟨l, ih⟩ := td1_lp (m := m) hR hj ha hb h1 h2 r (k + 1) f' (by omega) (by omega)
    refine ⟨l, ?_⟩
    have x1 : (4 : Int32) * nI R + nI k = nI (4 * R + k) := by rw [show (4 : Int32) = nI 4 from rfl, nI_mu, nI_ad]
    have x2 : (4 : Int32) * nI k + nI j = nI (4 * k + j) := by rw [show (4 : Int32) = nI 4 from rfl, nI_mu, nI_ad]
    rw [lp_X12_together_42, if_neg (show ¬ (4 : Int32) ≤ nI k from fun q => absurd ((nIle (a := 4) (by omega) (by omega)).mp q) (by omega)), x1, x2, ck_t (nI_xi (by omega) (by omega))]
    simp only [xm_let]
    rw [ck_t (nI_xi (by omega) (by omega)), nI_cl (by omega), nI_cl (by omega), h1 _ (by omega), h2 _ (by omega), ← nI_succ]
    have st : mxl_ a b R j (k + 1) = if mxl_ a b R j k < mu_ (a (4 * R + k)) (b (4 * k + j)) then mu_ (a (4 * R + k)) (b (4 * k + j)) else mxl_ a b R j k := rfl
    rw [st] at ih
    have v3 := ha (4 * R + k)
    have w3 := hb (4 * k + j)
    have z3 := mxl_3 a b R j k
    have e8 : ((if nI (a (4 * R + k)) = 0 then some (0 : Int32) else if nI (b (4 * k + j)) = 0 then some (0 : Int32) else if nI (a (4 * R + k)) = 2 then some (2 : Int32) else if nI (b (4 * k + j)) = 2 then some (2 : Int32) else some (1 : Int32)) : Option Int32) = some (nI (mu_ (a (4 * R + k)) (b (4 * k + j)))) := by
      generalize a (4 * R + k) = v at v3
      generalize b (4 * k + j) = w at w3
      have hv : v = 0 ∨ v = 1 ∨ v = 2 := by omega
      have hw : w = 0 ∨ w = 1 ∨ w = 2 := by omega
      rcases hv with rfl | rfl | rfl <;> rcases hw with rfl | rfl | rfl <;> rfl
    rw [e8]
    simp only [Option.bind_some]
    have m3 := mu_3 (a (4 * R + k)) (b (4 * k + j))
    generalize mu_ (a (4 * R + k)) (b (4 * k + j)) = y at ih m3
    by_cases q : mxl_ a b R j k < y
    · rw [if_pos q] at ih
      rw [if_neg (fun z => absurd ((nIle (by omega) (by omega)).mp z) (by omega))]
      exact ih
    · rw [if_neg q] at ih
      rw [if_pos ((nIle (by omega) (by omega)).mpr (by omega))]
      exact ih
theorem td2_lp {m R : Nat} (hm : 10 ≤ m) (hR : R < 4) {a b : Nat → Nat} (ha : ∀ i, a i < 3) (hb : ∀ i, b i < 3) {u : xm_Y} (h1 : ∀ i, i < 16 → u.1 179 i = nI (a i)) (h2 : ∀ i, i < 16 → u.1 180 i = nI (b i)) : ∀ (r k f : Nat), k + r = 4 → r + 1 ≤ f → ∃ l, lp_X12_together_30 m (nI R) u f (nI (hr_ (tg_ a b) (4 * R + k))) (nI k) = some (nI (hr_ (tg_ a b) (4 * R + 4)), l)
  | 0, k, f, hk, hf => by
    obtain ⟨f', rfl⟩ : ∃ f', f = f' + 1 := ⟨f - 1, by omega⟩
    obtain rfl : k = 4 := by omega
    exact ⟨nI 4, by rw [lp_X12_together_30, if_pos (by decide)]⟩
  | r + 1, k, f, hk, hf => by
    obtain ⟨f', rfl⟩ : ∃ f', f = f' + 1 := ⟨f - 1, by omega⟩
    obtain ⟨l, ih⟩ := td2_lp hm hR ha hb h1 h2 r (k + 1) f' (by omega) (by omega)
    obtain ⟨l2, e⟩ := td1_lp (m := m) hR (show k < 4 by omega) ha hb h1 h2 4 0 m (by omega) (by omega)
    refine ⟨l, ?_⟩
    rw [lp_X12_together_30, if_neg (show ¬ (4 : Int32) ≤ nI k from fun q => absurd ((nIle (a := 4) (by omega) (by omega)).mp q) (by omega)), show lp_X12_together_42 m (nI R) (nI k) u m (0 : Int32) (0 : Int32) = _ from e]
    simp only [Option.bind_some, xm_let]
    rw [← nI_succ, ← ih, show (3 : Int32) = nI 3 from rfl, nI_mu, nI_ad]
    congr 2
    show _ = 3 * hr_ (tg_ a b) (4 * R + k) + tg_ a b (4 * R + k)
    unfold tg_
    rw [show (4 * R + k) / 4 = R by omega, show (4 * R + k) % 4 = k by omega]
theorem td3_lp {m : Nat} (hm : 10 ≤ m) {a b : Nat → Nat} (ha : ∀ i, a i < 3) (hb : ∀ i, b i < 3) {u : xm_Y} (h1 : ∀ i, i < 16 → u.1 179 i = nI (a i)) (h2 : ∀ i, i < 16 → u.1 180 i = nI (b i)) : ∀ (r R f : Nat), R + r = 4 → r + 1 ≤ f → ∃ l, lp_X12_together_21 m u f (nI (hr_ (tg_ a b) (4 * R))) (nI R) = some (nI (hr_ (tg_ a b) 16), l)
  | 0, R, f, hk, hf => by
    obtain ⟨f', rfl⟩ : ∃ f', f = f' + 1 := ⟨f - 1, by omega⟩
    obtain rfl : R = 4 := by omega
    exact ⟨nI 4, by rw [lp_X12_together_21, if_pos (by decide)]⟩
  | r + 1, R, f, hk, hf => by
    obtain ⟨f', rfl⟩ : ∃ f', f = f' + 1 := ⟨f - 1, by omega⟩
    obtain ⟨l, ih⟩ := td3_lp hm ha hb h1 h2 r (R + 1) f' (by omega) (by omega)
    obtain ⟨l2, e⟩ := td2_lp (R := R) hm (by omega) ha hb h1 h2 4 0 m (by omega) (by omega)
    refine ⟨l, ?_⟩
    rw [lp_X12_together_21, if_neg (show ¬ (4 : Int32) ≤ nI R from fun q => absurd ((nIle (a := 4) (by omega) (by omega)).mp q) (by omega)), show lp_X12_together_30 m (nI R) u m (nI (hr_ (tg_ a b) (4 * R))) (0 : Int32) = _ from e]
    simp only [Option.bind_some, xm_let]
    rw [← nI_succ, ← ih]
    rfl
def er_ (d u : xm_Y) : Prop := u.2 = d.2 ∧ (∀ q, q ≠ 150 → q ≠ 176 → q ≠ 177 → q ≠ 178 → q ≠ 179 → q ≠ 180 → u.1 q = d.1 q) ∧ (∀ e, e ≠ 40 → e ≠ 41 → u.1 150 e = d.1 150 e)
theorem er_.rf (d : xm_Y) : er_ d d := ⟨rfl, fun _ _ _ _ _ _ _ => rfl, fun _ _ _ => rfl⟩
theorem er_.tr {a b c : xm_Y} (h : er_ a b) (g : er_ b c) : er_ a c := ⟨g.1.trans h.1, fun q a b c d e f => (g.2.1 q a b c d e f).trans (h.2.1 q a b c d e f), fun e x y => (g.2.2 e x y).trans (h.2.2 e x y)⟩
/-- only 179 and 180 -/
def es_ (d u : xm_Y) : Prop := u.2 = d.2 ∧ (∀ q, q ≠ 179 → q ≠ 180 → u.1 q = d.1 q)
theorem es_er {d u : xm_Y} (h : es_ d u) : er_ d u := ⟨h.1, fun q _ _ _ _ e f => h.2 q e f, fun e _ _ => by rw [h.2 150 (by decide) (by decide)]⟩
theorem ev_tgd {m : Nat} (hm : 20 ≤ m) {x y : It_} (hx : iok_ x) (hy : iok_ y) (u : xm_Y) : ∃ u', fn_X12_together m (nI x.2.2) (nI y.2.2) u = some (nI (pr_ x y).2.2, u') ∧ es_ u u' := by
  obtain ⟨u1, a1, a2, a3, a4⟩ := ev_spread hm 179 hx.2.2 u
  obtain ⟨u2, b1, b2, b3, b4⟩ := ev_spread hm 180 hy.2.2 u1
  obtain ⟨l, e⟩ := td3_lp (m := m) (by omega) (fun i => dt_3 x.2.2 i) (fun i => dt_3 y.2.2 i) (u := u2) (fun i hi => by rw [b3 179 (by decide)]; exact a4 i hi) b4 4 0 m (by omega) (by omega)
  refine ⟨u2, ?_, b2.trans a2, fun q h1 h2 => (b3 q h2).trans (a3 q h1)⟩
  rw [fn_X12_together, a1]
  simp only [Option.bind_some]
  rw [b1]
  simp only [Option.bind_some]
  rw [show lp_X12_together_21 m u2 m (0 : Int32) (0 : Int32) = _ from e]
  rfl
def kr2_ (u : xm_Y) (L : List It_) : Prop := u.1 150 40 = nI L.length ∧ L.length ≤ 1000 ∧ (∀ x, x ∈ L → iok_ x) ∧ (∀ (j : Nat) (x : It_), L[j]? = some x → u.1 176 j = nI x.1 ∧ u.1 177 j = nI x.2.1 ∧ u.1 178 j = nI x.2.2)
theorem kr2_es {u u' : xm_Y} {L : List It_} (h : kr2_ u L) (e : es_ u u') : kr2_ u' L := by
  unfold kr2_
  rw [e.2 150 (by decide) (by decide), e.2 176 (by decide) (by decide), e.2 177 (by decide) (by decide), e.2 178 (by decide) (by decide)]
  exact h
theorem it_eq {x y : It_} (hx : iok_ x) (hy : iok_ y) : x = y ↔ nI x.1 = nI y.1 ∧ nI x.2.1 = nI y.2.1 ∧ nI x.2.2 = nI y.2.2 := by
  constructor
  · intro h; rw [h]; exact ⟨rfl, rfl, rfl⟩
  · rintro ⟨a, b, c⟩
    have a := nIinj (Nat.lt_trans hx.1 (by decide)) (Nat.lt_trans hy.1 (by decide)) a
    have b := nIinj (Nat.lt_trans hx.2.1 (by decide)) (Nat.lt_trans hy.2.1 (by decide)) b
    have c := nIinj (iok31 hx) (iok31 hy) c
    obtain ⟨x1, x2, x3⟩ := x
    obtain ⟨y1, y2, y3⟩ := y
    have a : x1 = y1 := a
    have b : x2 = y2 := b
    have c : x3 = y3 := c
    rw [a, b, c]
theorem mkd_lp {m : Nat} {u : xm_Y} {L : List It_} (h : kr2_ u L) {x : It_} (hx : iok_ x) : ∀ (xs : List It_) (k f : Nat), k + xs.length = L.length → xs.length + 1 ≤ f → (∀ (i : Nat) (y : It_), xs[i]? = some y → L[k + i]? = some y) → ∃ l : Int32, lp_X12_make_3 m (nI x.1) (nI x.2.1) (nI x.2.2) u f (nI k) = some (if x ∈ xs then .inl (1, u) else .inr l)
  | [], k, f, hk, hf, hc => by
    obtain ⟨f', rfl⟩ : ∃ f', f = f' + 1 := ⟨f - 1, by omega⟩
    have hk : k = L.length := hk
    subst hk
    have := h.2.1
    exact ⟨nI L.length, by rw [lp_X12_make_3, h.1, if_pos ((nIle (by omega) (by omega)).mpr (by omega)), if_neg (by simp)]⟩
  | y :: ys, k, f, hk, hf, hc => by
    obtain ⟨f', rfl⟩ : ∃ f', f = f' + 1 := ⟨f - 1, by omega⟩
    have hk : k + (ys.length + 1) = L.length := hk
    have hf : ys.length + 1 + 1 ≤ f' + 1 := hf
    have hl := h.2.1
    have hy0 : L[k]? = some y := hc 0 y rfl
    have yok : iok_ y := h.2.2.1 y (List.mem_of_getElem? hy0)
    obtain ⟨c1, c2, c3⟩ := h.2.2.2 k y hy0
    obtain ⟨l, ih⟩ := mkd_lp (m := m) h hx ys (k + 1) f' (by omega) (by omega) (fun i z hz => by
      have := hc (i + 1) z (by simpa using hz)
      rw [show k + 1 + i = k + (i + 1) by omega]; exact this)
    refine ⟨l, ?_⟩
    have ik : xm_in (nI k) 1001 := nI_xi (by omega) (by omega)
    rw [lp_X12_make_3, h.1, if_neg (fun q => absurd ((nIle (by omega) (by omega)).mp q) (by omega))]
    simp only [ck_t ik, nI_cl (show k < 2 ^ 31 by omega), xm_let, c1, c2, c3]
    rw [← nI_succ, ih]
    by_cases q : x = y
    · obtain ⟨e1, e2, e3⟩ := (it_eq hx yok).mp q
      rw [if_pos e1.symm, if_pos e2.symm, if_pos e3.symm, if_pos (by simp [q])]
    · have rest : (if x ∈ y :: ys then Sum.inl ((1 : Int32), u) else Sum.inr l) = (if x ∈ ys then Sum.inl ((1 : Int32), u) else Sum.inr l) := by
        simp [q]
      rw [rest]
      by_cases e1 : nI y.1 = nI x.1
      · rw [if_pos e1]
        by_cases e2 : nI y.2.1 = nI x.2.1
        · rw [if_pos e2, if_neg (fun e3 => q ((it_eq hx yok).mpr ⟨e1.symm, e2.symm, e3.symm⟩))]
        · rw [if_neg e2]
      · rw [if_neg e1]
theorem ev_make {m : Nat} (hm : 2100 ≤ m) {u : xm_Y} {L : List It_} {x : It_} (h : kr2_ u L) (hx : iok_ x) : ∃ u', fn_X12_make m (nI x.1) (nI x.2.1) (nI x.2.2) u = some (if (kp_ L x).isSome = true then 1 else 0, u') ∧ er_ u u' ∧ (∀ L', kp_ L x = some L' → kr2_ u' L') := by
  obtain ⟨h1, h2, h3, h4⟩ := id h
  obtain ⟨l, e⟩ := mkd_lp (m := m) h hx L 0 m (by omega) (by omega) (fun i y hy => by rw [Nat.zero_add]; exact hy)
  rw [fn_X12_make, show lp_X12_make_3 m (nI x.1) (nI x.2.1) (nI x.2.2) u m (0 : Int32) = _ from e]
  by_cases q : x ∈ L
  · rw [if_pos q]
    have kpe : kp_ L x = some L := by unfold kp_; rw [if_pos q]
    rw [kpe]
    exact ⟨u, rfl, er_.rf u, fun L' hL' => by cases hL'; exact h⟩
  · rw [if_neg q]
    simp only [Option.bind_some, Sum.elim, h1]
    have kpe : kp_ L x = if L.length < 1000 then some (L ++ [x]) else none := by unfold kp_; rw [if_neg q]
    by_cases z : L.length < 1000
    · rw [if_neg (show ¬ nI L.length = 1000 from fun w => absurd (nIinj (b := 1000) (by omega) (by omega) w) (by omega)), kpe, if_pos z]
      have i1 : xm_in (nI L.length) 1001 := nI_xi (by omega) (by omega)
      have g1 : ∀ v : Int32, (w_I u 176 L.length v).1 150 40 = nI L.length := fun v => (show (w_I u 176 L.length v).1 150 40 = _ from (rI_ne (by omega)).trans h1)
      have g2 : ∀ v w : Int32, (w_I (w_I u 176 L.length v) 177 L.length w).1 150 40 = nI L.length := fun v w => (rI_ne (by omega)).trans (g1 v)
      have g3 : ∀ v w z : Int32, (w_I (w_I (w_I u 176 L.length v) 177 L.length w) 178 L.length z).1 150 40 = nI L.length := fun v w z => (rI_ne (by omega)).trans (g2 v w)
      simp only [xm_let, nI_cl (show L.length < 2 ^ 31 by omega), g1, g2, g3, ck_t i1]
      rw [← nI_succ]
      refine ⟨_, rfl, ⟨rfl, fun q a1 a2 a3 a4 a5 a6 => ?_, fun e a1 a2 => ?_⟩, fun L' hL' => ?_⟩
      · rw [rI_nc a1, rI_nc a4, rI_nc a3, rI_nc a2]
      · rw [rI_ne (by omega), rI_ne (by omega), rI_ne (by omega), rI_ne (by omega)]
      · cases hL'
        have hlen : (L ++ [x]).length = L.length + 1 := by simp
        refine ⟨by rw [rI_eq, hlen], by omega, fun y hy => ?_, fun j y hy => ?_⟩
        · rw [List.mem_append, List.mem_singleton] at hy
          rcases hy with hy | rfl
          · exact h3 y hy
          · exact hx
        · by_cases jl : j = L.length
          · subst jl
            have : y = x := by simpa using hy.symm
            rw [this]
            refine ⟨?_, ?_, ?_⟩
            · rw [rI_ne (by omega), rI_ne (by omega), rI_ne (by omega), rI_eq]
            · rw [rI_ne (by omega), rI_ne (by omega), rI_eq]
            · rw [rI_ne (by omega), rI_eq]
          · have jlt : j < L.length := by
              rw [List.getElem?_eq_some_iff] at hy
              have := hy.1
              rw [hlen] at this
              omega
            rw [List.getElem?_append_left jlt] at hy
            obtain ⟨y1, y2, y3⟩ := h4 j y hy
            refine ⟨?_, ?_, ?_⟩
            · rw [rI_ne (by omega), rI_ne (by omega), rI_ne (by omega), rI_ne (by omega)]; exact y1
            · rw [rI_ne (by omega), rI_ne (by omega), rI_ne (by omega), rI_ne (by omega)]; exact y2
            · rw [rI_ne (by omega), rI_ne (by omega), rI_ne (by omega), rI_ne (by omega)]; exact y3
    · have l1 : L.length = 1000 := by omega
      rw [if_pos (by rw [l1]; rfl), kpe, if_neg z]
      exact ⟨u, rfl, er_.rf u, fun L' hL' => by cases hL'⟩
