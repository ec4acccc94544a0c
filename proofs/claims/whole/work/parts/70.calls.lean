/-! an item: from, to, its number -/
abbrev It_ := Nat × Nat × Nat
def iok_ (x : It_) : Prop := x.1 < 8 ∧ x.2.1 < 8 ∧ x.2.2 < 3 ^ 16
def pi_ (x : It_) : Int64 := pk_ (nI x.1) (nI x.2.1) (mk_ 16 0 (nI x.2.2))
def pr_ (x y : It_) : It_ := (x.1, y.2.1, hr_ (tg_ (dt_ x.2.2) (dt_ y.2.2)) 16)
theorem n8 {f : Nat} (h : f < 8) : 0 ≤ (nI f).toInt ∧ (nI f).toInt < 8 := by
  rw [nI_toInt (by omega)]; omega
theorem hr16 (a b : Nat → Nat) : hr_ (tg_ a b) 16 < 3 ^ 16 := hr_lt (fun i _ => tg_3 a b i) 16 (by omega)
theorem pr_ok {x y : It_} (hx : iok_ x) (hy : iok_ y) : iok_ (pr_ x y) := ⟨hx.1, hy.2.1, hr16 _ _⟩
theorem iok31 {x : It_} (h : iok_ x) : x.2.2 < 2 ^ 31 := Nat.lt_of_lt_of_le h.2.2 (by decide)
theorem pi_tl {x : It_} (h : iok_ x) {i : Nat} (hi : i < 16) : gb_ (tl_ (pi_ x)) i = decide (1 ≤ dt_ x.2.2 i) := by
  unfold gb_ pi_
  rw [tl_b (n8 h.1).1 (n8 h.1).2 (n8 h.2.1).1 (n8 h.2.1).2, decide_eq_true hi, Bool.true_and, (mk_ms (iok31 h) i hi).1]
theorem pi_le {x : It_} (h : iok_ x) {i : Nat} (hi : i < 16) : gb_ (le_ (pi_ x)) i = decide (2 ≤ dt_ x.2.2 i) := by
  unfold gb_ pi_
  rw [le_b (n8 h.1).1 (n8 h.1).2 (n8 h.2.1).1 (n8 h.2.1).2, decide_eq_true hi, Bool.true_and, (mk_ms (iok31 h) i hi).2]
theorem pi_fr {x : It_} (h : iok_ x) : fr_ (pi_ x) = nI x.1 := fr_e (n8 h.1).1 (n8 h.1).2 (n8 h.2.1).1 (n8 h.2.1).2
theorem pi_to {x : It_} (h : iok_ x) : to_ (pi_ x) = nI x.2.1 := to_e (n8 h.1).1 (n8 h.1).2 (n8 h.2.1).1 (n8 h.2.1).2
theorem ev_tgc {m : Nat} (hm : 10 ≤ m) {x y : It_} (hx : iok_ x) (hy : iok_ y) (u : xm_Y) : fn_X3_together m (pi_ x) (pi_ y) u = some (pi_ (pr_ x y), u) := by
  obtain ⟨K, l, e, hK⟩ := tg2_lp hm (pi_ x) (pi_ y) u 4 0 m 0 (by omega) (by omega) (fun i hi => by
    rw [decide_eq_false (show ¬ i < 4 * 0 by omega)]
    unfold gb_
    rw [b0_, b0_]
    exact ⟨rfl, rfl⟩)
  have mK := ms_tg (K := K) (fun i hi => pi_tl hx hi) (fun i hi => pi_le hx hi) (fun i hi => pi_tl hy hi) (fun i hi => pi_le hy hi) (fun i => dt_3 _ _) (fun i => dt_3 _ _) hK
  have mQ : ms_ (mk_ 16 0 (nI (pr_ x y).2.2)) (tg_ (dt_ x.2.2) (dt_ y.2.2)) := by
    intro i hi
    have := mk_ms (iok31 (pr_ok hx hy)) i hi
    rw [show dt_ (pr_ x y).2.2 i = tg_ (dt_ x.2.2) (dt_ y.2.2) i from dt_hr (fun i _ => tg_3 _ _ i) hi] at this
    exact this
  rw [fn_X3_together, show lp_X3_together_6 m (pi_ x) (pi_ y) m (0 : Int32) (0 : Int32) u = _ from e]
  simp only [Option.bind_some, fn_X3_fromOf, fn_X3_toOf, fn_X3_packed]
  show some (pk_ (fr_ (pi_ x)) (to_ (pi_ y)) K, u) = _
  rw [pi_fr hx, pi_to hy, ms_u mK mQ]
  rfl
theorem num_lp {m : Nat} {x : It_} (h : iok_ x) (u : xm_Y) : ∀ (r k f : Nat), k + r = 16 → r + 1 ≤ f → ∃ l, lp_X3_numberOf_4 m (pi_ x) f (nI (hr_ (dt_ x.2.2) k)) (nI k) u = some (nI x.2.2, l, u)
  | 0, k, f, hk, hf => by
    obtain ⟨f', rfl⟩ : ∃ f', f = f' + 1 := ⟨f - 1, by omega⟩
    obtain rfl : k = 16 := by omega
    exact ⟨nI 16, by rw [lp_X3_numberOf_4, if_pos (by decide), hr_all h.2.2]⟩
  | r + 1, k, f, hk, hf => by
    obtain ⟨f', rfl⟩ : ∃ f', f = f' + 1 := ⟨f - 1, by omega⟩
    obtain ⟨l, ih⟩ := num_lp (m := m) h u r (k + 1) f' (by omega) (by omega)
    refine ⟨l, ?_⟩
    rw [lp_X3_numberOf_4, if_neg (show ¬ (16 : Int32) ≤ nI k from fun q => absurd ((nIle (a := 16) (by omega) (by omega)).mp q) (by omega))]
    simp only [xm_let, fn_X3_toldOf, fn_X3_lessOf, Option.bind_some]
    show lp_X3_numberOf_4 m (pi_ x) f' (((3 : Int32) * nI (hr_ (dt_ x.2.2) k) + ((tl_ (pi_ x) >>> (nI k &&& 31)) &&& 1)) + ((le_ (pi_ x) >>> (nI k &&& 31)) &&& 1)) (nI k + 1) u = _
    rw [← ih, nI_succ, bv_ _ (by omega), bv_ _ (by omega), show (tl_ (pi_ x)).toBitVec.getLsbD k = _ from pi_tl h (show k < 16 by omega), show (le_ (pi_ x)).toBitVec.getLsbD k = _ from pi_le h (show k < 16 by omega)]
    congr 1
    have e : hr_ (dt_ x.2.2) (k + 1) = 3 * hr_ (dt_ x.2.2) k + dt_ x.2.2 k := rfl
    have d3 := dt_3 x.2.2 k
    rw [e, show (3 : Int32) = nI 3 from rfl, nI_mu]
    generalize dt_ x.2.2 k = d at d3
    have : d = 0 ∨ d = 1 ∨ d = 2 := by omega
    rcases this with rfl | rfl | rfl
    · rw [decide_eq_false (by omega), decide_eq_false (by omega)]
      show nI (3 * hr_ (dt_ x.2.2) k) + nI 0 + nI 0 = _
      rw [nI_ad, nI_ad]
    · rw [decide_eq_true (by omega), decide_eq_false (by omega)]
      show nI (3 * hr_ (dt_ x.2.2) k) + nI 1 + nI 0 = _
      rw [nI_ad, nI_ad]
    · rw [decide_eq_true (by omega), decide_eq_true (by omega)]
      show nI (3 * hr_ (dt_ x.2.2) k) + nI 1 + nI 1 = _
      rw [nI_ad, nI_ad]
theorem ev_num {m : Nat} (hm : 20 ≤ m) {x : It_} (h : iok_ x) (u : xm_Y) : fn_X3_numberOf m (pi_ x) u = some (nI x.2.2, u) := by
  obtain ⟨l, e⟩ := num_lp (m := m) h u 16 0 m (by omega) (by omega)
  rw [fn_X3_numberOf, show lp_X3_numberOf_4 m (pi_ x) m (0 : Int32) (0 : Int32) u = _ from e]
  rfl
theorem pi_in {x y : It_} (hx : iok_ x) (hy : iok_ y) (h : pi_ x = pi_ y) : x = y := by
  have a := pi_fr hx
  have b := pi_to hx
  rw [h, pi_fr hy] at a
  rw [h, pi_to hy] at b
  have c : dt_ x.2.2 = dt_ y.2.2 ∨ hr_ (dt_ x.2.2) 16 = hr_ (dt_ y.2.2) 16 := by
    right
    apply hr_c
    intro i hi
    have t := pi_tl hx hi
    have l := pi_le hx hi
    rw [h, pi_tl hy hi] at t
    rw [h, pi_le hy hi] at l
    have d1 := dt_3 x.2.2 i
    have d2 := dt_3 y.2.2 i
    rw [decide_eq_decide] at t l
    omega
  have c : x.2.2 = y.2.2 := by
    rcases c with c | c
    · rw [← hr_all hx.2.2, ← hr_all hy.2.2, c]
    · rw [hr_all hx.2.2, hr_all hy.2.2] at c; exact c
  have hx' := hx
  have hy' := hy
  obtain ⟨x1, x2, x3⟩ := x
  obtain ⟨y1, y2, y3⟩ := y
  have a : y1 = x1 := nIinj (Nat.lt_trans hy'.1 (by decide)) (Nat.lt_trans hx'.1 (by decide)) a
  have b : y2 = x2 := nIinj (Nat.lt_trans hy'.2.1 (by decide)) (Nat.lt_trans hx'.2.1 (by decide)) b
  have c : x3 = y3 := c
  rw [a, b, c]
/-! faults -/
def df_ (d : Nat → Nat) : Nat → Nat → Bool
  | 0, _ => false
  | r + 1, k => decide (2 ≤ d (5 * k)) || df_ d r (k + 1)
def ft_ (x : It_) : Bool := decide (x.1 = x.2.1) && !df_ (dt_ x.2.2) 4 0 && decide (pr_ x x = x)
theorem flt_lp {m : Nat} {x : It_} (h : iok_ x) (u : xm_Y) : ∀ (r k f : Nat), k + r = 4 → r + 1 ≤ f → ∃ l : Int32, lp_X3_isFault_15 m (pi_ x) f (nI k) u = some (if df_ (dt_ x.2.2) r k = true then .inl (0, u) else .inr (l, u))
  | 0, k, f, hk, hf => by
    obtain ⟨f', rfl⟩ : ∃ f', f = f' + 1 := ⟨f - 1, by omega⟩
    obtain rfl : k = 4 := by omega
    exact ⟨nI 4, by rw [lp_X3_isFault_15, if_pos (by decide)]; rfl⟩
  | r + 1, k, f, hk, hf => by
    obtain ⟨f', rfl⟩ : ∃ f', f = f' + 1 := ⟨f - 1, by omega⟩
    obtain ⟨l, ih⟩ := flt_lp (m := m) h u r (k + 1) f' (by omega) (by omega)
    refine ⟨l, ?_⟩
    rw [lp_X3_isFault_15, if_neg (show ¬ (4 : Int32) ≤ nI k from fun q => absurd ((nIle (a := 4) (by omega) (by omega)).mp q) (by omega))]
    simp only [xm_let, fn_X3_lessOf, Option.bind_some]
    have e1 : (4 : Int32) * nI k + nI k = nI (5 * k) := by rw [show (4 : Int32) = nI 4 from rfl, nI_mu, nI_ad]; congr 1; omega
    rw [e1, ← nI_succ, ih]
    show (if (le_ (pi_ x) >>> (nI (5 * k) &&& 31)) &&& 1 = 0 then _ else _) = _
    have e : df_ (dt_ x.2.2) (r + 1) k = (decide (2 ≤ dt_ x.2.2 (5 * k)) || df_ (dt_ x.2.2) r (k + 1)) := rfl
    have hb : (le_ (pi_ x)).toBitVec.getLsbD (5 * k) = decide (2 ≤ dt_ x.2.2 (5 * k)) := pi_le h (by omega)
    rw [e]
    by_cases q : 2 ≤ dt_ x.2.2 (5 * k)
    · rw [if_neg (fun z => absurd ((bt_ _ (by omega)).mp z) (by rw [hb, decide_eq_true q]; decide)), decide_eq_true q, Bool.true_or]; rfl
    · rw [if_pos ((bt_ _ (by omega)).mpr (by rw [hb, decide_eq_false q])), decide_eq_false q, Bool.false_or]
theorem ev_isFault {m : Nat} (hm : 20 ≤ m) {x : It_} (h : iok_ x) (u : xm_Y) : fn_X3_isFault m (pi_ x) u = some (if ft_ x = true then 1 else 0, u) := by
  obtain ⟨l, e⟩ := flt_lp (m := m) h u 4 0 m (by omega) (by omega)
  rw [fn_X3_isFault]
  simp only [fn_X3_fromOf, fn_X3_toOf, Option.bind_some]
  show (if fr_ (pi_ x) = to_ (pi_ x) then _ else _) = _
  rw [pi_fr h, pi_to h, show lp_X3_isFault_15 m (pi_ x) m (0 : Int32) u = _ from e]
  unfold ft_
  by_cases q1 : x.1 = x.2.1
  · rw [if_pos (by rw [q1]), decide_eq_true q1]
    by_cases q2 : df_ (dt_ x.2.2) 4 0 = true
    · rw [if_pos q2, q2]; rfl
    · rw [if_neg q2, Bool.eq_false_iff.mpr q2]
      simp only [Option.bind_some, Sum.elim]
      rw [ev_tgc (by omega) h h]
      simp only [Option.bind_some]
      by_cases q3 : pr_ x x = x
      · rw [if_pos (by rw [q3]), decide_eq_true q3]
        rfl
      · rw [if_neg (fun z => q3 (pi_in (pr_ok h h) h z)), decide_eq_false q3]
        rfl
  · rw [if_neg (fun z => q1 (nIinj (Nat.lt_trans h.1 (by decide)) (Nat.lt_trans h.2.1 (by decide)) z)), decide_eq_false q1]
    rfl
def ah_ (x y : It_) : Bool := if x.1 = y.1 then decide (x.2.2 < y.2.2) else decide (x.1 < y.1)
theorem ev_isAhead {m : Nat} (hm : 20 ≤ m) {x y : It_} (hx : iok_ x) (hy : iok_ y) (u : xm_Y) : fn_X3_isAhead m (pi_ x) (pi_ y) u = some (if ah_ x y = true then 1 else 0, u) := by
  rw [fn_X3_isAhead]
  simp only [fn_X3_fromOf, Option.bind_some]
  show (if fr_ (pi_ x) = fr_ (pi_ y) then _ else Option.bind (if fr_ (pi_ y) ≤ fr_ (pi_ x) then some (0 : Int32) else some 1) _) = _
  rw [pi_fr hx, pi_fr hy]
  have l1 : x.1 < 2 ^ 31 := Nat.lt_trans hx.1 (by decide)
  have l2 : y.1 < 2 ^ 31 := Nat.lt_trans hy.1 (by decide)
  unfold ah_
  by_cases q : x.1 = y.1
  · rw [if_pos (by rw [q]), if_pos q, ev_num hm hx]
    simp only [Option.bind_some]
    rw [ev_num hm hy]
    simp only [Option.bind_some]
    by_cases z : x.2.2 < y.2.2
    · rw [if_neg (fun w => absurd ((nIle (iok31 hy) (iok31 hx)).mp w) (by omega)), decide_eq_true z]; rfl
    · rw [if_pos ((nIle (iok31 hy) (iok31 hx)).mpr (by omega)), decide_eq_false z]; rfl
  · rw [if_neg (fun z => q (nIinj l1 l2 z)), if_neg q]
    by_cases z : x.1 < y.1
    · rw [if_neg (fun w => absurd ((nIle l2 l1).mp w) (by omega)), decide_eq_true z]; rfl
    · rw [if_pos ((nIle l2 l1).mpr (by omega)), decide_eq_false z]; rfl
