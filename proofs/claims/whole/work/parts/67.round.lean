/-! round, put together -/
def xr_ (E : E_) : Nat → Nat → Bool
  | 0, _ => false
  | r + 1, i => match E (2 * i), E (2 * i + 1) with
    | some a, some b => if b < a then true else xr_ E r (i + 1)
    | _, _ => xr_ E r (i + 1)
theorem xr_no1 {E : E_} {r i : Nat} (h : E (2 * i) = none) : xr_ E (r + 1) i = xr_ E r (i + 1) := by
  show (match E (2 * i), E (2 * i + 1) with | some a, some b => if b < a then true else xr_ E r (i + 1) | _, _ => xr_ E r (i + 1)) = _
  rw [h]
theorem xr_no2 {E : E_} {r i : Nat} (h : E (2 * i + 1) = none) : xr_ E (r + 1) i = xr_ E r (i + 1) := by
  show (match E (2 * i), E (2 * i + 1) with | some a, some b => if b < a then true else xr_ E r (i + 1) | _, _ => xr_ E r (i + 1)) = _
  rw [h]
  cases E (2 * i) <;> rfl
theorem xr_s {E : E_} {r i : Nat} {a b : Int} (h1 : E (2 * i) = some a) (h2 : E (2 * i + 1) = some b) : xr_ E (r + 1) i = if b < a then true else xr_ E r (i + 1) := by
  show (match E (2 * i), E (2 * i + 1) with | some a, some b => if b < a then true else xr_ E r (i + 1) | _, _ => xr_ E r (i + 1)) = _
  rw [h1, h2]
theorem xr_n {E : E_} {n : Nat} (h1 : 1 ≤ n) (h3 : n ≤ 3) (h : ∀ q, 2 * n ≤ q → q < 6 → E q = some 0) : xr_ E 3 0 = xr_ E n 0 := by
  have z : ∀ i r, n ≤ i → i < 3 → xr_ E (r + 1) i = xr_ E r (i + 1) := fun i r a b => by
    rw [xr_s (h (2 * i) (by omega) (by omega)) (h (2 * i + 1) (by omega) (by omega)), if_neg (by omega)]
  have c0 : ∀ r r', xr_ E r 1 = xr_ E r' 1 → xr_ E (r + 1) 0 = xr_ E (r' + 1) 0 := fun r r' e => by
    show (match E (2 * 0), E (2 * 0 + 1) with | some a, some b => if b < a then true else xr_ E r (0 + 1) | _, _ => xr_ E r (0 + 1)) = (match E (2 * 0), E (2 * 0 + 1) with | some a, some b => if b < a then true else xr_ E r' (0 + 1) | _, _ => xr_ E r' (0 + 1))
    rw [show (0 + 1 : Nat) = 1 from rfl, e]
  have c1 : ∀ r r', xr_ E r 2 = xr_ E r' 2 → xr_ E (r + 1) 1 = xr_ E (r' + 1) 1 := fun r r' e => by
    show (match E (2 * 1), E (2 * 1 + 1) with | some a, some b => if b < a then true else xr_ E r (1 + 1) | _, _ => xr_ E r (1 + 1)) = (match E (2 * 1), E (2 * 1 + 1) with | some a, some b => if b < a then true else xr_ E r' (1 + 1) | _, _ => xr_ E r' (1 + 1))
    rw [show (1 + 1 : Nat) = 2 from rfl, e]
  rcases lt3n h1 h3 with rfl | rfl | rfl
  · exact c0 2 0 (by rw [z 1 1 (by omega) (by omega), z 2 0 (by omega) (by omega)]; rfl)
  · exact c0 2 1 (c1 1 0 (by rw [z 2 0 (by omega) (by omega)]; rfl))
  · rfl
theorem ev_end {m o i s : Nat} {u : xm_Y} {E : E_} (h : bx_ u (o + 1) E) (hi : i < 3) (hs : s < 2) : fn_X2_end m o (nI i) (nI s) u = some (ec_ (E (2 * i + s)), u) := by
  rw [fn_X2_end, show (2 : Int32) = nI 2 from rfl, nI_mu, nI_ad, ck_t (nI_xi (show 2 * i + s < 6 by omega) (by omega)), nI_cl (by omega)]
  rw [h _ (by omega)]
theorem crs_lp {m o : Nat} {u : xm_Y} {E : E_} (h : bx_ u (o + 1) E) (hb : ∀ k, k < 6 → bd_ 100000000000 (E k)) : ∀ (r i f : Nat), i + r = 3 → r + 1 ≤ f → ∃ l : Int32, lp_X2_isCrossed_2 m o f (nI i) u = some (if xr_ E r i = true then .inl (1, u) else .inr (l, u))
  | 0, i, f, hi, hf => by
    obtain ⟨f', rfl⟩ : ∃ f', f = f' + 1 := ⟨f - 1, by omega⟩
    obtain rfl : i = 3 := by omega
    exact ⟨nI 3, by rw [lp_X2_isCrossed_2, if_pos (by decide)]; rfl⟩
  | r + 1, i, f, hi, hf => by
    obtain ⟨f', rfl⟩ : ∃ f', f = f' + 1 := ⟨f - 1, by omega⟩
    obtain ⟨l, ih⟩ := crs_lp (m := m) h hb r (i + 1) f' (by omega) (by omega)
    have e1 := ev_end (m := m) h (show i < 3 by omega) (show 1 < 2 by omega)
    have e0 := ev_end (m := m) h (show i < 3 by omega) (show 0 < 2 by omega)
    refine ⟨l, ?_⟩
    rw [lp_X2_isCrossed_2, if_neg (show ¬ (3 : Int32) ≤ nI i from fun q => absurd ((nIle (a := 3) (by omega) (by omega)).mp q) (by omega)), show fn_X2_end m o (nI i) (0 : Int32) u = _ from e0]
    simp only [Option.bind_some]
    rw [show fn_X2_end m o (nI i) (1 : Int32) u = _ from e1]
    simp only [Option.bind_some, xm_let]
    rw [← nI_succ, ih]
    have b0 := hb (2 * i) (by omega)
    have b1 := hb (2 * i + 1) (by omega)
    rw [show 2 * i + 0 = 2 * i by omega]
    cases q0 : E (2 * i) with
    | none => rw [if_pos (show ec_ none = -3000000000000 from rfl), xr_no1 q0]
    | some a =>
      rw [q0] at b0
      rw [if_neg (show ¬ ec_ (some a) = -3000000000000 from ec_no (b0 a rfl).1 (b0 a rfl).2)]
      cases q1 : E (2 * i + 1) with
      | none => rw [if_pos (show ec_ none = -3000000000000 from rfl), xr_no2 q1]
      | some b =>
        rw [q1] at b1
        rw [if_neg (show ¬ ec_ (some b) = -3000000000000 from ec_no (b1 b rfl).1 (b1 b rfl).2), xr_s q0 q1]
        by_cases q : b < a
        · rw [if_neg (show ¬ ec_ (some a) ≤ ec_ (some b) from fun z => absurd ((ofle (b0 a rfl).1 (b0 a rfl).2 (b1 b rfl).1 (b1 b rfl).2).mp z) (by omega)), if_pos q]; rfl
        · rw [if_pos (show ec_ (some a) ≤ ec_ (some b) from (ofle (b0 a rfl).1 (b0 a rfl).2 (b1 b rfl).1 (b1 b rfl).2).mpr (by omega)), if_neg q]
theorem ev_crossed {m o : Nat} {u : xm_Y} {E : E_} (hm : 10 ≤ m) (h : bx_ u (o + 1) E) (hb : ∀ k, k < 6 → bd_ 100000000000 (E k)) : fn_X2_isCrossed m o u = some (if xr_ E 3 0 = true then 1 else 0, u) := by
  obtain ⟨l, e⟩ := crs_lp (m := m) h hb 3 0 m (by omega) (by omega)
  rw [fn_X2_isCrossed, show lp_X2_isCrossed_2 m o m (0 : Int32) u = _ from e]
  by_cases q : xr_ E 3 0 = true
  · rw [if_pos q, if_pos q]; rfl
  · rw [if_neg q, if_neg q]; rfl
theorem crd_lp {m n : Nat} {u : xm_Y} {E : E_} (hn3 : n ≤ 3) (hn : u.1 150 0 = nI n) (h : by_ u 158 157 E) (hb : ∀ k, k < 6 → bd_ 100000000000 (E k)) : ∀ (r i f : Nat), i + r = n → r + 1 ≤ f → ∃ l : Int32, lp_X12_round_15 m u f (nI i) = some (if xr_ E r i = true then .inl (-1, u) else .inr l)
  | 0, i, f, hi, hf => by
    obtain ⟨f', rfl⟩ : ∃ f', f = f' + 1 := ⟨f - 1, by omega⟩
    obtain rfl : i = n := by omega
    exact ⟨nI i, by rw [lp_X12_round_15, hn, if_pos ((nIle (by omega) (by omega)).mpr (by omega))]; rfl⟩
  | r + 1, i, f, hi, hf => by
    obtain ⟨f', rfl⟩ : ∃ f', f = f' + 1 := ⟨f - 1, by omega⟩
    obtain ⟨l, ih⟩ := crd_lp (m := m) hn3 hn h hb r (i + 1) f' (by omega) (by omega)
    refine ⟨l, ?_⟩
    have x0 : (2 : Int32) * nI i = nI (2 * i) := nI_mu 2 i
    have x1 : (2 : Int32) * nI i + 1 = nI (2 * i + 1) := by rw [x0, nI_succ]
    have i0 : xm_in (nI (2 * i)) 6 := nI_xi (by omega) (by omega)
    have i1 : xm_in (nI (2 * i + 1)) 6 := nI_xi (by omega) (by omega)
    rw [lp_X12_round_15, hn, if_neg (fun q => absurd ((nIle (by omega) (by omega)).mp q) (by omega)), x1, x0]
    simp only [ck_t i0, ck_t i1, nI_cl (show 2 * i < 2 ^ 31 by omega), nI_cl (show 2 * i + 1 < 2 ^ 31 by omega), xm_let]
    rw [← nI_succ, ih]
    have b0 := hb (2 * i) (by omega)
    have b1 := hb (2 * i + 1) (by omega)
    have h0 := h (2 * i) (by omega)
    have h1 := h (2 * i + 1) (by omega)
    cases q0 : E (2 * i) with
    | none =>
      rw [q0] at h0
      have h0 : u.1 158 (2 * i) = 1 := h0
      rw [h0, if_neg (by decide), xr_no1 q0]
    | some a =>
      rw [q0] at h0 b0
      have h0 : u.1 158 (2 * i) = 0 ∧ u.2 157 (2 * i) = Int64.ofInt a := h0
      rw [h0.1, h0.2, if_pos rfl]
      cases q1 : E (2 * i + 1) with
      | none =>
        rw [q1] at h1
        have h1 : u.1 158 (2 * i + 1) = 1 := h1
        rw [h1, if_neg (by decide), xr_no2 q1]
      | some b =>
        rw [q1] at h1 b1
        have h1 : u.1 158 (2 * i + 1) = 0 ∧ u.2 157 (2 * i + 1) = Int64.ofInt b := h1
        rw [h1.1, h1.2, if_pos rfl, xr_s q0 q1]
        by_cases q : b < a
        · rw [if_neg (fun z => absurd ((ofle (b0 a rfl).1 (b0 a rfl).2 (b1 b rfl).1 (b1 b rfl).2).mp z) (by omega)), if_pos q]; rfl
        · rw [if_pos ((ofle (b0 a rfl).1 (b0 a rfl).2 (b1 b rfl).1 (b1 b rfl).2).mpr (by omega)), if_neg q]
def bq_ (u : xm_Y) (fl vl : Nat) (E : E_) (j : Nat) : Prop := match E j with
  | none => u.1 fl j = 1
  | some v => u.1 fl j = 0 ∧ u.2 vl j = Int64.ofInt v
theorem bq_c {u u' : xm_Y} {fl vl : Nat} {E : E_} {j : Nat} (h1 : u'.1 fl j = u.1 fl j) (h2 : u'.2 vl j = u.2 vl j) (h : bq_ u fl vl E j) : bq_ u' fl vl E j := by
  unfold bq_ at h ⊢
  rw [h1, h2]; exact h
theorem ini_lp {m : Nat} {d : xm_Y} {E : E_} (h : by_ d 158 157 E) : ∀ (r k f : Nat) (u : xm_Y), k + r = 6 → r + 1 ≤ f → gx_ d u → (∀ j, j < k → bq_ u 170 169 E j) → ∃ (l : Int32) (u' : xm_Y), lp_X12_round_79 m f (nI k) u = some (l, u') ∧ gx_ d u' ∧ by_ u' 170 169 E
  | 0, k, f, u, hk, hf, gx, hj => by
    obtain ⟨f', rfl⟩ : ∃ f', f = f' + 1 := ⟨f - 1, by omega⟩
    obtain rfl : k = 6 := by omega
    exact ⟨nI 6, u, by rw [lp_X12_round_79, if_pos (by decide)], gx, hj⟩
  | r + 1, k, f, u, hk, hf, gx, hj => by
    obtain ⟨f', rfl⟩ : ∃ f', f = f' + 1 := ⟨f - 1, by omega⟩
    have hk6 : k < 6 := by omega
    have hin : xm_in (nI k) 6 := nI_xi hk6 (by omega)
    rw [lp_X12_round_79, if_neg (show ¬ (6 : Int32) ≤ nI k from fun q => absurd ((nIle (a := 6) (by omega) (by omega)).mp q) (by omega))]
    simp only [ck_t hin, nI_cl (show k < 2 ^ 31 by omega), xm_let]
    have e1 : u.1 158 = d.1 158 := gx.1 158 (by decide) (by decide) (by decide)
    have e2 : u.2 157 = d.2 157 := gx.2.2 157 (by decide) (by decide) (by decide)
    have hk2 := h k hk6
    have h01 : d.1 158 k = 0 ∨ d.1 158 k = 1 := by
      cases q : E k with
      | none => rw [q] at hk2; exact Or.inr hk2
      | some v => rw [q] at hk2; exact Or.inl hk2.1
    have go : ∀ x : Int64, (∀ v, E k = some v → x = Int64.ofInt v) → ∃ (l : Int32) (u' : xm_Y), lp_X12_round_79 m f' (nI k + 1) (w_I (w_J u 169 k x) 170 k (vp_nar .boolean ((w_J u 169 k x).1 158 k))) = some (l, u') ∧ gx_ d u' ∧ by_ u' 170 169 E := by
      intro x hx
      rw [← nI_succ, show (w_J u 169 k x).1 158 k = d.1 158 k from congrFun e1 k, b_nar h01]
      refine ini_lp h r (k + 1) f' _ (by omega) (by omega) ((gx.wJ (Or.inl rfl)).wI (Or.inl rfl)) (fun j hjk => ?_)
      by_cases q : j = k
      · subst q
        have g1 : (w_I (w_J u 169 j x) 170 j (d.1 158 j)).1 170 j = d.1 158 j := rI_eq
        have g2 : (w_I (w_J u 169 j x) 170 j (d.1 158 j)).2 169 j = x := (show (w_J u 169 j x).2 169 j = x from rJ_eq)
        unfold bq_
        rw [g1, g2]
        cases q : E j with
        | none => rw [q] at hk2; exact hk2
        | some v => rw [q] at hk2; exact ⟨hk2.1, hx v q⟩
      · exact bq_c (show (w_I (w_J u 169 k x) 170 k _).1 170 j = u.1 170 j from rI_ne (by omega)) (show (w_J u 169 k x).2 169 j = u.2 169 j from rJ_ne (by omega)) (hj j (by omega))
    rw [e1, e2]
    cases q : E k with
    | none =>
      rw [q] at hk2
      have hk2 : d.1 158 k = 1 := hk2
      rw [if_neg (by rw [hk2]; decide)]
      exact go 0 (fun v hv => by rw [q] at hv; cases hv)
    | some v =>
      rw [q] at hk2
      have hk2 : d.1 158 k = 0 ∧ d.2 157 k = Int64.ofInt v := hk2
      rw [if_pos hk2.1]
      exact go _ (fun v' hv => by rw [q] at hv; cases hv; exact hk2.2)
def hx_ (d u : xm_Y) : Prop := (∀ q, q ≠ 150 → q ≠ 170 → q ≠ 172 → q ≠ 156 → u.1 q = d.1 q) ∧ (∀ e, e ≠ 48 → e ≠ 21 → u.1 150 e = d.1 150 e) ∧ u.1 150 21 = 0 ∧ (∀ q, q ≠ 150 → q ≠ 169 → q ≠ 171 → q ≠ 155 → u.2 q = d.2 q)
theorem hx_.w {d u : xm_Y} (h : hx_ d u) {j : Nat} {v : Int32} {x : Int64} : hx_ d (w_I (w_J u 155 j x) 156 j v) := ⟨fun q a b c e => (rI_nc (by omega)).trans (h.1 q a b c e), fun e he h2 => (show (w_I u 156 j v).1 150 e = _ from (rI_ne (by omega)).trans (h.2.1 e he h2)), (show (w_I u 156 j v).1 150 21 = 0 from (rI_ne (by omega)).trans h.2.2.1), fun q a b c e => (show (w_J u 155 j x).2 q = _ from (rJ_nc (by omega)).trans (h.2.2.2 q a b c e))⟩
def bo_ (u : xm_Y) (n : Nat) (E : E_) (j : Nat) : Prop := if 2 * n ≤ j then u.1 156 j = 1 else bq_ u 156 155 E j
theorem fin_lp {m n : Nat} {d : xm_Y} {E : E_} (hn3 : n ≤ 3) (hn : d.1 150 0 = nI n) : ∀ (r k f : Nat) (u : xm_Y), k + r = 6 → r + 1 ≤ f → hx_ d u → by_ u 170 169 E → (∀ j, j < k → bo_ u n E j) → ∃ (l : Int32) (u' : xm_Y), lp_X12_round_276 m f (nI k) u = some (l, u') ∧ hx_ d u' ∧ ∀ j, j < 6 → bo_ u' n E j
  | 0, k, f, u, hk, hf, gx, hE, hj => by
    obtain ⟨f', rfl⟩ : ∃ f', f = f' + 1 := ⟨f - 1, by omega⟩
    obtain rfl : k = 6 := by omega
    exact ⟨nI 6, u, by rw [lp_X12_round_276, if_pos (by decide)], gx, hj⟩
  | r + 1, k, f, u, hk, hf, gx, hE, hj => by
    obtain ⟨f', rfl⟩ : ∃ f', f = f' + 1 := ⟨f - 1, by omega⟩
    have hk6 : k < 6 := by omega
    have hin : xm_in (nI k) 6 := nI_xi hk6 (by omega)
    have e0 : ∀ x : Int64, (w_J u 155 k x).1 150 0 = nI n := fun x => (gx.2.1 0 (by decide) (by decide)).trans hn
    rw [lp_X12_round_276, if_neg (show ¬ (6 : Int32) ≤ nI k from fun q => absurd ((nIle (a := 6) (by omega) (by omega)).mp q) (by omega))]
    simp only [ck_t hin, nI_cl (show k < 2 ^ 31 by omega), xm_let, e0]
    rw [show (2 : Int32) * nI n = nI (2 * n) from nI_mu 2 n]
    have hk2 := hE k hk6
    obtain ⟨y, ey, y01, hy⟩ : ∃ y : Int32, ((if nI (2 * n) ≤ nI k then some (1 : Int32) else (if (w_J u 155 k (u.2 169 k)).1 170 k = 0 then some (0 : Int32) else some 1)) : Option Int32) = some y ∧ (y = 0 ∨ y = 1) ∧ (if 2 * n ≤ k then y = 1 else match E k with | none => y = 1 | some v => y = 0 ∧ u.2 169 k = Int64.ofInt v) := by
      by_cases q : 2 * n ≤ k
      · exact ⟨1, by rw [if_pos ((nIle (by omega) (by omega)).mpr q)], Or.inr rfl, by rw [if_pos q]⟩
      · rw [if_neg (fun z => q ((nIle (by omega) (by omega)).mp z)), show (w_J u 155 k (u.2 169 k)).1 170 k = u.1 170 k from rfl]
        simp only [if_neg q]
        cases z : E k with
        | none =>
          rw [z] at hk2
          have hk2 : u.1 170 k = 1 := hk2
          exact ⟨1, by rw [hk2]; rfl, Or.inr rfl, rfl⟩
        | some v =>
          rw [z] at hk2
          exact ⟨0, by rw [hk2.1]; rfl, Or.inl rfl, rfl, hk2.2⟩
    rw [ey]
    simp only [Option.bind_some]
    rw [b_nar y01, ← nI_succ]
    refine fin_lp hn3 hn r (k + 1) f' _ (by omega) (by omega) gx.w (fun j hj6 => ?_) (fun j hjk => ?_)
    · exact bq_c (u := u) (show (w_I (w_J u 155 k (u.2 169 k)) 156 k y).1 170 j = u.1 170 j from rI_ne (by omega)) (show (w_J u 155 k (u.2 169 k)).2 169 j = u.2 169 j from rJ_ne (by omega)) (hE j hj6)
    · by_cases q : j = k
      · subst q
        have g1 : (w_I (w_J u 155 j (u.2 169 j)) 156 j y).1 156 j = y := rI_eq
        have g2 : (w_I (w_J u 155 j (u.2 169 j)) 156 j y).2 155 j = u.2 169 j := (show (w_J u 155 j (u.2 169 j)).2 155 j = _ from rJ_eq)
        unfold bo_ bq_
        rw [g1, g2]; exact hy
      · have g1 : (w_I (w_J u 155 k (u.2 169 k)) 156 k y).1 156 j = u.1 156 j := rI_ne (by omega)
        have g2 : (w_I (w_J u 155 k (u.2 169 k)) 156 k y).2 155 j = u.2 155 j := (show (w_J u 155 k (u.2 169 k)).2 155 j = _ from rJ_ne (by omega))
        have := hj j (by omega)
        unfold bo_ bq_ at this ⊢
        rw [g1, g2]; exact this
theorem iv_box {PL : xm_Y → Nat → Prop} {FL : xm_Y → xm_Y → Prop} {c c' d d' : xm_Y} {n nb : Nat} {gc : Nat → Nat} (h : iw_ c d n nb gc) (e1 : c'.1 = (op_c c n).1) (e2 : ∀ q, q ≠ 128 → q ≠ 133 → q ≠ 135 → c'.2 q = c.2 q) (hx : hx_ d d') (h5 : iv_5 c' d' n) : iv_ PL FL c' d' := by
  obtain ⟨h1, h2, h3, h4, h6, h7, h9, h10⟩ := h
  obtain ⟨x1, x2, x3, x4⟩ := hx
  obtain ⟨a1, a2, a3, a4, a5, a6, a7⟩ := id h1
  refine ⟨n, nb, gc, ?_, ?_, ?_, ?_, h5, ?_, ?_, ?_, ?_, ?_⟩
  · refine ⟨?_, ?_, a3, a4, ?_, ?_, a7⟩
    · rw [e1, op_c1f (by decide) (fun b _ => by omega)]; exact a1
    · rw [x2 0 (by decide) (by decide)]; exact a2
    · rw [e1, op_c1f (by decide) (fun b _ => by omega)]; exact a5
    · rw [x2 1 (by decide) (by decide)]; exact a6
  · intro b hb
    obtain ⟨g1, g2, g3, g4, g5, g6⟩ := h2 b hb
    rw [e1, x1 151 (by decide) (by decide) (by decide) (by decide), x1 152 (by decide) (by decide) (by decide) (by decide), x1 153 (by decide) (by decide) (by decide) (by decide)]
    refine ⟨?_, g2, g3, fun g hg => ?_, fun i hi => ?_, fun i hi hi3 => ?_⟩
    · rw [op_c1f (by omega) (fun b' _ => by omega)]; exact g1
    · rw [op_c1f (by omega) (fun b' _ => by omega), op_c1f (by omega) (fun b' _ => by omega)]; exact g4 g hg
    · rw [op_c1f (by omega) (fun b' _ => by omega), op_c1f (by omega) (fun b' _ => by omega)]; exact g5 i hi
    · rw [op_c1f (by omega) (fun b' _ => by omega), op_c1f (by omega) (fun b' _ => by omega)]; exact g6 i hi hi3
  · unfold iv_3; rw [e2 123 (by decide) (by decide) (by decide), x4 154 (by decide) (by decide) (by decide) (by decide)]; exact h3
  · unfold iv_4; rw [e2 130 (by decide) (by decide) (by decide), x4 157 (by decide) (by decide) (by decide) (by decide), x1 158 (by decide) (by decide) (by decide) (by decide)]; exact h4
  · unfold iv_6; rw [e1, op_c1f (by decide) (fun b _ => by omega), x2 26 (by decide) (by decide)]; exact h6
  · unfold iv_7; rw [e1, op_c1 (by decide) (by decide), op_c1f (k := 142) (by decide) (fun b _ => by omega), op_c1f (k := 143) (by decide) (fun b _ => by omega), x2 19 (by decide) (by decide), x1 161 (by decide) (by decide) (by decide) (by decide), x1 163 (by decide) (by decide) (by decide) (by decide)]; exact h7
  · rw [show iv_8 PL FL c' d' nb = (((c'.1 139 6 = 0 ∧ d'.1 150 21 = 0) ∨ (c'.1 139 6 = 1 ∧ d'.1 150 21 = 1 ∧ (∀ i, i < 3 → c'.1 144 i = d'.1 162 i) ∧ FL c' d')) ∧ ∀ b, b < 5 → c'.1 (6 + 24 * b) 3 = 0 ∨ (c'.1 (6 + 24 * b) 3 = 1 ∧ b < nb ∧ PL c' b)) from rfl, e1]
    exact ⟨Or.inl ⟨rfl, x3⟩, fun b hb => Or.inl (op_c4 hb)⟩
  · unfold iv_9; rw [e1, op_c1f (by decide) (fun b _ => by omega), e2 147 (by decide) (by decide) (by decide), x2 36 (by decide) (by decide), x1 173 (by decide) (by decide) (by decide) (by decide), x1 174 (by decide) (by decide) (by decide) (by decide), x1 175 (by decide) (by decide) (by decide) (by decide)]; exact h9
  · unfold iv_10; rw [e1, op_c1f (by decide) (fun b _ => by omega), x2 40 (by decide) (by decide), x2 42 (by decide) (by decide), x2 43 (by decide) (by decide)]; exact h10
theorem iv_gx {PL : xm_Y → Nat → Prop} {FL : xm_Y → xm_Y → Prop} (pf : pf_ PL FL) {c c' d d' : xm_Y} (e : fx_ (fun q => q = 133 ∨ q = 135) c c') (gx : gx_ d d') (iv : iv_ PL FL c d) : iv_ PL FL c' d' := by
  obtain ⟨n, nb, gc, h1, h2, h3, h4, h5, h6, h7, h8, h9, h10⟩ := iv
  obtain ⟨e1, e2⟩ := e
  obtain ⟨x1, x2, x4⟩ := gx
  refine ⟨n, nb, gc, ?_, ?_, ?_, ?_, ?_, ?_, ?_, ?_, ?_, ?_⟩
  · unfold iv_1; rw [e1, x2 0 (by decide), x2 1 (by decide)]; exact h1
  · unfold iv_2; rw [e1, x1 151 (by decide) (by decide) (by decide), x1 152 (by decide) (by decide) (by decide), x1 153 (by decide) (by decide) (by decide)]; exact h2
  · unfold iv_3; rw [e2 123 (by decide), x4 154 (by decide) (by decide) (by decide)]; exact h3
  · unfold iv_4; rw [e2 130 (by decide), x4 157 (by decide) (by decide) (by decide), x1 158 (by decide) (by decide) (by decide)]; exact h4
  · unfold iv_5; rw [e2 128 (by decide), x4 155 (by decide) (by decide) (by decide), x1 156 (by decide) (by decide) (by decide)]; exact h5
  · unfold iv_6; rw [e1, x2 26 (by decide)]; exact h6
  · unfold iv_7; rw [e1, x2 19 (by decide), x1 161 (by decide) (by decide) (by decide), x1 163 (by decide) (by decide) (by decide)]; exact h7
  · exact iv_8c pf (fun k hk => ⟨by rw [e1], e2 k (by omega)⟩) (e2 128 (by decide)) (by rw [e1]) (by rw [e1]) (congrFun (e2 139 (by decide)) 5) (x2 0 (by decide)) (x2 1 (by decide)) (x2 21 (by decide)) (x1 151 (by decide) (by decide) (by decide)) (x1 152 (by decide) (by decide) (by decide)) (x1 156 (by decide) (by decide) (by decide)) (x4 155 (by decide) (by decide) (by decide)) (x1 162 (by decide) (by decide) (by decide)) h8
  · unfold iv_9; rw [e1, e2 147 (by decide), x2 36 (by decide), x1 173 (by decide) (by decide) (by decide), x1 174 (by decide) (by decide) (by decide), x1 175 (by decide) (by decide) (by decide)]; exact h9
  · unfold iv_10; rw [e1, x2 40 (by decide), x2 42 (by decide), x2 43 (by decide)]; exact h10
def e0_ (d : xm_Y) : E_ := fun k => if d.1 158 k = 1 then none else some (d.2 157 k).toInt
theorem ofto (x : Int64) : Int64.ofInt x.toInt = x := Int64.ofInt_toInt x
theorem e0_v {c d : xm_Y} {n : Nat} (h4 : iv_4 c d n) : (∀ k, k < 6 → bd_ 1000000 (e0_ d k)) ∧ bx_ c 130 (e0_ d) ∧ by_ d 158 157 (e0_ d) ∧ (∀ q, 2 * n ≤ q → q < 6 → e0_ d q = some 0) := by
  refine ⟨fun k hk v hv => ?_, fun k hk => ?_, fun k hk => ?_, fun q h1 h6 => ?_⟩
  · unfold e0_ at hv
    rcases h4 k hk with ⟨p1, p2, p3⟩ | ⟨p1, p2, p3, p4, p5⟩
    · rw [if_pos p1] at hv; cases hv
    · rw [if_neg (by rw [p1]; decide)] at hv; cases hv; exact ⟨p3, p4⟩
  · unfold e0_
    rcases h4 k hk with ⟨p1, p2, p3⟩ | ⟨p1, p2, p3, p4, p5⟩
    · rw [if_pos p1, p2]; rfl
    · rw [if_neg (by rw [p1]; decide), p2]; exact (ofto _).symm
  · unfold e0_
    rcases h4 k hk with ⟨p1, p2, p3⟩ | ⟨p1, p2, p3, p4, p5⟩
    · rw [if_pos p1]; exact p1
    · rw [if_neg (by rw [p1]; decide)]; exact ⟨p1, (ofto _).symm⟩
  · unfold e0_
    rcases h4 q h6 with ⟨p1, p2, p3⟩ | ⟨p1, p2, p3, p4, p5⟩
    · omega
    · rw [if_neg (by rw [p1]; decide), p5 h1]; rfl
theorem fx_md {c c' : xm_Y} (e : fx_ (fun q => q = 133 ∨ q = 135) c c') : md_ c c' := fun k hk => ⟨by rw [e.1], e.2 k (by omega)⟩
theorem gx_cl {d d' : xm_Y} (e : gx_ d d') : cl_ d d' := fun k hk => ⟨e.1 k (by omega) (by omega) (by omega), e.2.2 k (by omega) (by omega) (by omega)⟩
theorem hx_cl {d d' : xm_Y} (e : hx_ d d') : cl_ d d' := fun k hk => ⟨e.1 k (by omega) (by omega) (by omega) (by omega), e.2.2.2 k (by omega) (by omega) (by omega) (by omega)⟩
theorem gx_hx {d d' : xm_Y} (e : gx_ d d') : hx_ d (w_I d' 150 21 0) := ⟨fun q a b c _ => (rI_nc (by omega)).trans (e.1 q a b c), fun k h1 h2 => (rI_ne (by omega)).trans (e.2.1 k h1), rI_eq, fun q a b c _ => e.2.2 q a b c⟩
theorem tf_round {PL : xm_Y → Nat → Prop} {FL : xm_Y → xm_Y → Prop} {m : Nat} (pf : pf_ PL FL) (hm : 100 ≤ m) (x : Int32) : tf_ PL FL (fn_X11_round m x) (fn_X12_round m x) := by
  intro c d iv
  obtain ⟨n, nb, gc, h1, h2, h3, h4, h5, h6, h7, h8, h9, h10⟩ := id iv
  obtain ⟨a1, a2, a3, a4, a5, a6, a7⟩ := id h1
  have none_ : fn_X11_round m x c = some (-1, c) → fn_X12_round m x d = some (-1, d) → ∃ (r : Int32) (c' d' : xm_Y), fn_X11_round m x c = some (r, c') ∧ md_ c c' ∧ fn_X12_round m x d = some (r, d') ∧ cl_ d d' ∧ iv_ PL FL c' d' := fun e1 e2 => ⟨-1, c, d, e1, md_.rf c, e2, cl_.rf d, iv⟩
  by_cases hx0 : x < 1
  · exact none_ (by rw [fn_X11_round, if_pos hx0]) (by rw [fn_X12_round, if_pos hx0])
  by_cases hx1 : x ≤ 20
  · have hx2 : ¬ 20 < x := Int32.not_lt.mpr hx1
    obtain ⟨w, w1, w2, rfl⟩ : ∃ w : Nat, 1 ≤ w ∧ w ≤ 20 ∧ x = nI w := by
      have q0 := Int32.not_lt.mp hx0
      rw [Int32.le_iff_toInt_le] at q0 hx1
      have z1 : (1 : Int32).toInt = 1 := rfl
      have z2 : (20 : Int32).toInt = 20 := rfl
      rw [z1] at q0; rw [z2] at hx1
      refine ⟨x.toInt.toNat, by omega, by omega, Int32.toInt_inj.mp ?_⟩
      rw [nI_toInt (by omega)]; omega
    obtain ⟨v1, v2, v3, v4⟩ := e0_v h4
    have rb := rb_iv h1 h2
    have rd := rd_iv h1 h2
    have vb : ∀ k, k < 6 → bd_ 100000000000 (e0_ d k) := fun k hk => bd_mn (v1 k hk) (by omega)
    have vb9 : ∀ k, k < 6 → bd_ 1000000000 (e0_ d k) := fun k hk => bd_mn (v1 k hk) (by omega)
    have hcr := ev_crossed (m := m) (o := 129) (by omega) v2 vb
    obtain ⟨l, hcd⟩ := crd_lp (m := m) a4 a2 v3 vb n 0 m (by omega) (by omega)
    rw [xr_n a3 a4 v4] at hcr
    by_cases hq : xr_ (e0_ d) n 0 = true
    · rw [if_pos hq] at hcr hcd
      refine none_ ?_ ?_
      · rw [fn_X11_round, if_neg hx0, if_neg hx2, hcr]; rfl
      · rw [fn_X12_round, if_neg hx0, if_pos hx1, show lp_X12_round_15 m d m (0 : Int32) = _ from hcd]; rfl
    · rw [if_neg hq] at hcr hcd
      obtain ⟨o, ho⟩ := gr_end (NX := nxd_ d n nb gc) w1 w2 (fun E q h => by unfold nxd_; exact ls_no nb 0 E h) 27 1 (e0_ d) (by omega) (by omega) (fun _ => by have := cn_6 (e0_ d); omega)
      have hoc : gr_ (nxc_ c n nb gc) w 27 1 (e0_ d) = some o := by
        rw [show nxc_ c n nb gc = nxd_ d n nb gc from funext (nx_same h2)]; exact ho
      obtain ⟨c2, p1, p2, p3⟩ := go_lp (m := m) hm rb w2 27 1 m (cp_J c 130 133 0 0 6) (e0_ d) o (by omega) (by omega) (by omega) ((fx_.rf c).cp (Or.inl rfl)) vb9 (bx_cp v2) hoc
      have pc : ∀ v : Int32, (lp_X8_goRound_11 m (nI w) m (nI 1) (cp_J c 130 133 0 0 6)).bind (Sum.elim (fun r => some r) (fun q => some ((-4 : Int32), q.2))) = some (v, c2) → fn_X8_goRound m 129 (nI w) c = some (v, c2) := by
        intro v hv
        rw [fn_X8_goRound, ev_copy6]
        simp only [Option.bind_some]
        exact hv
      obtain ⟨l2, d1, i1, i2, i3⟩ := ini_lp (m := m) v3 6 0 m d (by omega) (by omega) (gx_.rf d) (fun j hj => absurd hj (by omega))
      obtain ⟨d2, j1, j2, j3⟩ := rnd_lp (m := m) hm rd w2 27 1 m d1 (e0_ d) o (by omega) (by omega) (by omega) i2 vb9 i3 ho
      cases o with
      | none =>
        refine ⟨-4, c2, d2, ?_, fx_md p2, ?_, gx_cl j2, iv_gx pf p2 j2 iv⟩
        · rw [fn_X11_round, if_neg hx0, if_neg hx2, hcr]
          simp only [Option.bind_some]
          rw [if_pos trivial, pc (-4) p1]
          rfl
        · rw [fn_X12_round, if_neg hx0, if_pos hx1, show lp_X12_round_15 m d m (0 : Int32) = _ from hcd]
          simp only [Option.bind_some, Sum.elim]
          rw [show lp_X12_round_79 m m (0 : Int32) d = _ from i1]
          simp only [Option.bind_some]
          rw [show lp_X12_round_130 m (nI w) m (1 : Int32) d1 = _ from j1]
          rfl
      | some z =>
        obtain ⟨q1, q2⟩ := p3 z rfl
        obtain ⟨t1, t2, t3, t4, t5⟩ := j3 z rfl
        obtain ⟨l3, d3, k1, k2, k3⟩ := fin_lp (m := m) (n := n) (E := z.2) a4 a2 6 0 m (w_I d2 150 21 0) (by omega) (by omega) (gx_hx j2) (fun j hj => bq_c (u := d2) (rI_ne (by omega)) rfl (t1 j hj)) (fun j hj => absurd hj (by omega))
        obtain ⟨mm, rfl⟩ := Nat.exists_eq_add_of_le' hm
        refine ⟨nI z.1, w_I (w_I (w_I (w_I (w_I (w_I (cp_J c2 133 128 0 0 6) 139 6 0) 6 3 0) 30 3 0) 54 3 0) 78 3 0) 102 3 0, d3, ?_, ?_, ?_, hx_cl k2, iv_box (n := n) (nb := nb) (gc := gc) ⟨h1, h2, h3, h4, h6, h7, h9, h10⟩ ?_ ?_ k2 ?_⟩
        · rw [fn_X11_round, if_neg hx0, if_neg hx2, hcr]
          simp only [Option.bind_some]
          rw [if_pos trivial, pc (nI z.1) p1]
          simp only [Option.bind_some]
          rw [if_neg (show ¬ nI z.1 ≤ 0 from fun q => absurd ((nIle (b := 0) (by omega) (by omega)).mp q) (by omega)), ev_copy6]
          simp only [Option.bind_some]
          rw [show mm + 100 = (mm + 94) + 6 by omega, ev_X11_forgetPlaces]
          rfl
        · have mc : md_ c (cp_J c2 133 128 0 0 6) := md_.tr (fx_md p2) (fun k hk => ⟨rfl, by unfold cp_J xm_u1; simp only [if_neg (show ¬ k = 128 by omega)]⟩)
          exact (((((mc.wI (by decide)).wI (by decide)).wI (by decide)).wI (by decide)).wI (by decide)).wI (by decide)
        · rw [fn_X12_round, if_neg hx0, if_pos hx1, show lp_X12_round_15 _ d _ (0 : Int32) = _ from hcd]
          simp only [Option.bind_some, Sum.elim]
          rw [show lp_X12_round_79 _ _ (0 : Int32) d = _ from i1]
          simp only [Option.bind_some]
          rw [show lp_X12_round_130 _ (nI w) _ (1 : Int32) d1 = _ from j1]
          simp only [Option.bind_some, xm_let]
          show (lp_X12_round_276 (mm + 100) (mm + 100) (0 : Int32) (w_I d2 150 21 0)).bind (fun q53 => some (nI z.1, q53.2)) = _
          rw [show lp_X12_round_276 _ _ (0 : Int32) (w_I d2 150 21 0) = _ from k1]
          rfl
        · unfold op_c
          show (w_I (w_I (w_I (w_I (w_I (w_I (c2.1, (cp_J c2 133 128 0 0 6).2) 139 6 0) 6 3 0) 30 3 0) 54 3 0) 78 3 0) 102 3 0).1 = _
          rw [p2.1]; rfl
        · intro q z1 z2 z3
          show (cp_J c2 133 128 0 0 6).2 q = c.2 q
          unfold cp_J xm_u1
          simp only [if_neg z1]
          exact p2.2 q (by omega)
        · intro k hk
          have cc : (w_I (w_I (w_I (w_I (w_I (w_I (cp_J c2 133 128 0 0 6) 139 6 0) 6 3 0) 30 3 0) 54 3 0) 78 3 0) 102 3 0).2 128 k = ec_ (z.2 k) := by
            show (cp_J c2 133 128 0 0 6).2 128 k = _
            exact bx_cp q1 k hk
          have kk := k3 k hk
          rw [cc]
          unfold bo_ bq_ at kk
          refine ⟨fun hn => ?_, fun hn => ?_⟩
          · rw [if_neg (by omega)] at kk
            cases zz : z.2 k with
            | none => rw [zz] at kk; exact Or.inl ⟨kk, rfl⟩
            | some v =>
              rw [zz] at kk
              have bv := q2 k hk v zz
              refine Or.inr ⟨kk.1, kk.2.symm, ?_⟩
              rw [kk.2, ec_t (by omega) (by omega)]
              exact bv
          · rw [if_pos hn] at kk
            refine ⟨kk, ?_⟩
            rw [t5 k hn, v4 k hn hk]; rfl
  · exact none_ (by rw [fn_X11_round, if_neg hx0, if_pos (Int32.not_le.mp hx1)]) (by rw [fn_X12_round, if_neg hx0, if_neg hx1])
