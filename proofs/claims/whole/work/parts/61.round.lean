/-! the class's GOING ROUND -/
theorem i64o (x : Int32) : Int32.toInt64 x = Int64.ofInt x.toInt := rfl
theorem ofac (a w e : Int) : Int64.ofInt a + Int64.ofInt w * Int64.ofInt e = Int64.ofInt (a + w * e) := by
  rw [Int64.ofInt_add, Int64.ofInt_mul]
def wc_ (u : xm_Y) (a : Nat) : Nat → Int := fun i => (u.1 (a + 1) i).toInt
def kc_ (u : xm_Y) (a : Nat) : Int := (u.1 a 1).toInt
def bx_ (u : xm_Y) (q : Nat) (E : E_) : Prop := ∀ k, k < 6 → u.2 q k = ec_ (E k)
theorem z32 {x : Int32} : x = 0 ↔ x.toInt = 0 := ⟨fun h => by rw [h]; rfl, fun h => Int32.toInt_inj.mp (by rw [h]; rfl)⟩
theorem le032 {x : Int32} : x ≤ 0 ↔ ¬ 0 < x.toInt := by
  rw [Int32.le_iff_toInt_le]
  have z : (0 : Int32).toInt = 0 := rfl
  rw [z]; omega
theorem far1 (m a o i s f : Nat) (u : xm_Y) (E : E_) (acc : Int) (hi : i < 3) (hs : s < 2) (hE : bx_ u (o + 1) E) (hb : ∀ k, k < 6 → bd_ 100000000000 (E k)) : lp_X0_farthest_9 m a o (nI s) (f + 1) (Int64.ofInt acc) (nI i) u = match fs_ (wc_ u a i) E i s (some acc) with | none => some (.inl (-3000000000000, u)) | some a' => lp_X0_farthest_9 m a o (nI s) f (Int64.ofInt a') (nI (i + 1)) u := by
  rw [lp_X0_farthest_9, if_neg (show ¬ (3 : Int32) ≤ nI i from fun q => absurd ((nIle (a := 3) (by omega) (by omega)).mp q) (by omega)), ck_t (nI_xi hi (by omega)), nI_cl (by omega)]
  simp only [xm_let]
  unfold fs_ wc_
  dsimp only
  by_cases h : u.1 (a + 1) i = 0
  · rw [if_pos h, if_pos (z32.mp h), nI_succ]
  · rw [if_neg h, if_neg (fun q => h (z32.mpr q)), ck_t (nI_xi hi (by omega))]
    have sg : ((if u.1 (a + 1) i ≤ 0 then some ((1 : Int32) - nI s) else some (nI s)) : Option Int32) = some (nI (if 0 < (u.1 (a + 1) i).toInt then s else 1 - s)) := by
      by_cases q : 0 < (u.1 (a + 1) i).toInt
      · rw [if_neg (fun z => (le032.mp z) q), if_pos q]
      · rw [if_pos (le032.mpr q), if_neg q, show (1 : Int32) = nI 1 from rfl, nI_sb (by omega) (by omega)]
    rw [sg]
    simp only [Option.bind_some]
    have hk : 2 * i + (if 0 < (u.1 (a + 1) i).toInt then s else 1 - s) < 6 := by split <;> omega
    rw [fn_X2_end, show (2 : Int32) = nI 2 from rfl, nI_mu, nI_ad, ck_t (nI_xi hk (by omega)), nI_cl (by omega)]
    simp only [Option.bind_some]
    rw [hE _ hk, ck_t (nI_xi hi (by omega)), nI_succ]
    have hbk := hb _ hk
    generalize E (2 * i + (if 0 < (u.1 (a + 1) i).toInt then s else 1 - s)) = e at hbk
    cases e with
    | none => rw [if_pos (show ec_ none = -3000000000000 from rfl)]
    | some v =>
      rw [if_neg (show ¬ ec_ (some v) = -3000000000000 from ec_no (hbk v rfl).1 (hbk v rfl).2)]
      show lp_X0_farthest_9 m a o (nI s) f (Int64.ofInt acc + Int64.ofInt (u.1 (a + 1) i).toInt * Int64.ofInt v) (nI i + 1) u = _
      rw [ofac]
theorem ev_farthest {m : Nat} (hm : 10 ≤ m) (a o s : Nat) (u : xm_Y) (E : E_) (hs : s < 2) (hE : bx_ u (o + 1) E) (hb : ∀ k, k < 6 → bd_ 100000000000 (E k)) : fn_X0_farthest m a o (nI s) u = some (ec_ (fa_ (wc_ u a) (kc_ u a) E s), u) := by
  obtain ⟨k, rfl⟩ := Nat.exists_eq_add_of_le' hm
  rw [fn_X0_farthest]
  simp only [xm_let]
  rw [i64o, show (0 : Int32) = nI 0 from rfl, show k + 10 = k + 9 + 1 from rfl, far1 _ a o 0 s _ u E _ (by omega) hs hE hb]
  unfold fa_ kc_
  cases h0 : fs_ (wc_ u a 0) E 0 s (some (u.1 a 1).toInt) with
  | none => rfl
  | some a0 =>
    dsimp only
    rw [show k + 9 = k + 8 + 1 from rfl, show 0 + 1 = 1 from rfl, far1 _ a o 1 s _ u E _ (by omega) hs hE hb]
    cases h1 : fs_ (wc_ u a 1) E 1 s (some a0) with
    | none => rfl
    | some a1 =>
      dsimp only
      rw [show k + 8 = k + 7 + 1 from rfl, show 1 + 1 = 2 from rfl, far1 _ a o 2 s _ u E _ (by omega) hs hE hb]
      cases h2 : fs_ (wc_ u a 2) E 2 s (some a1) with
      | none => rfl
      | some a2 => rfl
theorem ofle {a b : Int} (ha1 : -100000000000 ≤ a) (ha2 : a ≤ 100000000000) (hb1 : -100000000000 ≤ b) (hb2 : b ≤ 100000000000) : Int64.ofInt a ≤ Int64.ofInt b ↔ a ≤ b := by
  rw [Int64.le_iff_toInt_le, ec_t ha1 ha2, ec_t hb1 hb2]
theorem oflt {a b : Int} (ha1 : -100000000000 ≤ a) (ha2 : a ≤ 100000000000) (hb1 : -100000000000 ≤ b) (hb2 : b ≤ 100000000000) : Int64.ofInt a < Int64.ofInt b ↔ a < b := by
  rw [Int64.lt_iff_toInt_lt, ec_t ha1 ha2, ec_t hb1 hb2]
theorem pass_lp {m b o G : Nat} {u : xm_Y} {E : E_} (hm : 10 ≤ m) (hG : u.1 (3 + 24 * b) 4 = nI G) (hG6 : G ≤ 6) (hE : bx_ u (o + 1) E) (hb : ∀ k, k < 6 → bd_ 100000000000 (E k)) (hv : ∀ g, g < G → bd_ 100000000000 (fa_ (wc_ u (9 + 24 * b + 2 * g)) (kc_ u (9 + 24 * b + 2 * g)) E 1)) : ∀ (k g f : Nat), g + k = G → k + 1 ≤ f → lp_X1_isPassedOver_2 m b o f (nI g) u = some (if pa_ (fun g => fa_ (wc_ u (9 + 24 * b + 2 * g)) (kc_ u (9 + 24 * b + 2 * g)) E 1) k g = true then .inl ((1 : Int32), u) else .inr (nI G, u))
  | 0, g, f, hg, hf => by
    obtain ⟨f', rfl⟩ : ∃ f', f = f' + 1 := ⟨f - 1, by omega⟩
    obtain rfl : g = G := by omega
    rw [lp_X1_isPassedOver_2, hG, if_pos ((nIle (by omega) (by omega)).mpr (by omega))]
    rfl
  | k + 1, g, f, hg, hf => by
    obtain ⟨f', rfl⟩ : ∃ f', f = f' + 1 := ⟨f - 1, by omega⟩
    have ih := pass_lp hm hG hG6 hE hb hv k (g + 1) f' (by omega) (by omega)
    rw [lp_X1_isPassedOver_2, hG, if_neg (fun q => absurd ((nIle (by omega) (by omega)).mp q) (by omega)), ck_t (nI_xi (by omega) (by omega)), nI_cl (by omega), show (1 : Int32) = nI 1 from rfl, ev_farthest hm _ o 1 u E (by omega) hE hb]
    simp only [Option.bind_some, xm_let]
    rw [show nI g + nI 1 = nI (g + 1) from nI_ad g 1, ih]
    have hvg := hv g (by omega)
    have e : pa_ (fun g => fa_ (wc_ u (9 + 24 * b + 2 * g)) (kc_ u (9 + 24 * b + 2 * g)) E 1) (k + 1) g = (match fa_ (wc_ u (9 + 24 * b + 2 * g)) (kc_ u (9 + 24 * b + 2 * g)) E 1 with | none => pa_ (fun g => fa_ (wc_ u (9 + 24 * b + 2 * g)) (kc_ u (9 + 24 * b + 2 * g)) E 1) k (g + 1) | some z => if z < 0 then true else pa_ (fun g => fa_ (wc_ u (9 + 24 * b + 2 * g)) (kc_ u (9 + 24 * b + 2 * g)) E 1) k (g + 1)) := rfl
    rw [e]
    generalize pa_ (fun g => fa_ (wc_ u (9 + 24 * b + 2 * g)) (kc_ u (9 + 24 * b + 2 * g)) E 1) k (g + 1) = pz
    generalize fa_ (wc_ u (9 + 24 * b + 2 * g)) (kc_ u (9 + 24 * b + 2 * g)) E 1 = o' at hvg
    cases o' with
    | none => rw [if_pos (show ec_ none = -3000000000000 from rfl)]; rfl
    | some z =>
      have b1 := hvg z rfl
      rw [if_neg (show ¬ ec_ (some z) = -3000000000000 from ec_no b1.1 b1.2)]
      dsimp only
      by_cases hz : z < 0
      · rw [if_neg (show ¬ (0 : Int64) ≤ ec_ (some z) from fun q => absurd ((ofle (a := 0) (by omega) (by omega) b1.1 b1.2).mp q) (by omega))]
        simp only [if_pos hz]
        rfl
      · rw [if_pos (show (0 : Int64) ≤ ec_ (some z) from (ofle (a := 0) (by omega) (by omega) b1.1 b1.2).mpr (by omega))]
        simp only [if_neg hz]
        rfl
theorem ev_passed {m b o G : Nat} {u : xm_Y} {E : E_} (hm : 10 ≤ m) (hG : u.1 (3 + 24 * b) 4 = nI G) (hG6 : G ≤ 6) (hE : bx_ u (o + 1) E) (hb : ∀ k, k < 6 → bd_ 100000000000 (E k)) (hv : ∀ g, g < G → bd_ 100000000000 (fa_ (wc_ u (9 + 24 * b + 2 * g)) (kc_ u (9 + 24 * b + 2 * g)) E 1)) : fn_X1_isPassedOver m b o u = some (if pa_ (fun g => fa_ (wc_ u (9 + 24 * b + 2 * g)) (kc_ u (9 + 24 * b + 2 * g)) E 1) G 0 = true then 1 else 0, u) := by
  rw [fn_X1_isPassedOver, show (0 : Int32) = nI 0 from rfl, pass_lp hm hG hG6 hE hb hv G 0 m (by omega) (by omega)]
  by_cases h : pa_ (fun g => fa_ (wc_ u (9 + 24 * b + 2 * g)) (kc_ u (9 + 24 * b + 2 * g)) E 1) G 0 = true
  · rw [if_pos h, if_pos h]; rfl
  · rw [if_neg h, if_neg h]; rfl
theorem ev_widen (m i s : Nat) (u : xm_Y) (a b : Option Int) (hi : i < 3) (hs : s < 2) (ha : u.2 135 (2 * i + s) = ec_ a) (hba : bd_ 100000000000 a) (hbb : bd_ 100000000000 b) : fn_X2_widen m 134 (nI i) (nI s) (ec_ b) u = some ((), w_J u 135 (2 * i + s) (ec_ (wd_ s a b))) := by
  have ix : (2 : Int32) * nI i + nI s = nI (2 * i + s) := by rw [show (2 : Int32) = nI 2 from rfl, nI_mu, nI_ad]
  have hin : xm_in (nI (2 * i + s)) 6 := nI_xi (by omega) (by omega)
  have pt : ∀ v : Int64, fn_X2_put m 134 (nI i) (nI s) v u = some ((), w_J u 135 (2 * i + s) v) := by
    intro v
    rw [fn_X2_put, ix, ck_t hin, nI_cl (by omega)]; rfl
  have en : fn_X2_end m 134 (nI i) (nI s) u = some (ec_ a, u) := by
    rw [fn_X2_end, ix, ck_t hin, nI_cl (by omega)]
    rw [show u.2 (134 + 1) (2 * i + s) = ec_ a from ha]
  rw [fn_X2_widen, en]
  simp only [Option.bind_some]
  cases a with
  | none =>
    rw [if_pos (show ec_ none = -3000000000000 from rfl), pt]
    rfl
  | some x =>
    have bx := hba x rfl
    rw [if_neg (show ¬ ec_ (some x) = -3000000000000 from ec_no bx.1 bx.2)]
    cases b with
    | none =>
      rw [if_pos (show ec_ none = -3000000000000 from rfl), pt]
      rfl
    | some y =>
      have bY := hbb y rfl
      rw [if_neg (show ¬ ec_ (some y) = -3000000000000 from ec_no bY.1 bY.2)]
      have hs2 : s = 0 ∨ s = 1 := by omega
      rcases hs2 with rfl | rfl
      · rw [if_pos (show nI 0 = 0 from rfl), fn_J9_min_f86c9]
        by_cases q : y < x
        · rw [if_pos (show ec_ (some y) < ec_ (some x) from (oflt bY.1 bY.2 bx.1 bx.2).mpr q)]
          simp only [Option.bind_some]
          rw [pt]
          show some ((), w_J u 135 (2 * i + 0) (ec_ (some y))) = some ((), w_J u 135 (2 * i + 0) (Int64.ofInt (if 0 = 0 then (if y < x then y else x) else _)))
          rw [if_pos rfl, if_pos q]; rfl
        · rw [if_neg (show ¬ ec_ (some y) < ec_ (some x) from fun z => q ((oflt bY.1 bY.2 bx.1 bx.2).mp z))]
          simp only [Option.bind_some]
          rw [pt]
          show some ((), w_J u 135 (2 * i + 0) (ec_ (some x))) = some ((), w_J u 135 (2 * i + 0) (Int64.ofInt (if 0 = 0 then (if y < x then y else x) else _)))
          rw [if_pos rfl, if_neg q]; rfl
      · rw [if_neg (show ¬ nI 1 = 0 by decide), fn_J9_max_f86c9]
        by_cases q : x < y
        · rw [if_pos (show ec_ (some x) < ec_ (some y) from (oflt bx.1 bx.2 bY.1 bY.2).mpr q)]
          simp only [Option.bind_some]
          rw [pt]
          show some ((), w_J u 135 (2 * i + 1) (ec_ (some y))) = some ((), w_J u 135 (2 * i + 1) (Int64.ofInt (if 1 = 0 then _ else (if x < y then y else x))))
          rw [if_neg (by decide), if_pos q]; rfl
        · rw [if_neg (show ¬ ec_ (some x) < ec_ (some y) from fun z => q ((oflt bx.1 bx.2 bY.1 bY.2).mp z))]
          simp only [Option.bind_some]
          rw [pt]
          show some ((), w_J u 135 (2 * i + 1) (ec_ (some x))) = some ((), w_J u 135 (2 * i + 1) (Int64.ofInt (if 1 = 0 then _ else (if x < y then y else x))))
          rw [if_neg (by decide), if_neg q]; rfl
def rr2_ (c : xm_Y) (E : E_) (b : Nat) : E_ := fun k => fa_ (wc_ c (21 + 24 * b + 2 * (k / 2))) (kc_ c (21 + 24 * b + 2 * (k / 2))) E (k % 2)
def pp_ (c : xm_Y) (gc : Nat → Nat) (E : E_) (b : Nat) : Bool := pa_ (fun g => fa_ (wc_ c (9 + 24 * b + 2 * g)) (kc_ c (9 + 24 * b + 2 * g)) E 1) (gc b) 0
def nxc_ (c : xm_Y) (n nb : Nat) (gc : Nat → Nat) (E : E_) : E_ := ls_ n (pp_ c gc E) (rr2_ c E) nb 0 E
theorem pb_s {j : Nat} {R NE : E_} {u : xm_Y} {q : Nat} (h : bx_ u q (pb_ j R NE)) (hj : j < 6) : bx_ (w_J u q j (ec_ (wd_ (j % 2) (NE j) (R j)))) q (pb_ (j + 1) R NE) := by
  intro k hk
  by_cases e : k = j
  · rw [e, rJ_eq]
    unfold pb_
    rw [if_pos (by omega)]
  · rw [rJ_ne (by omega), h k hk]
    unfold pb_
    by_cases hkj : k < j
    · rw [if_pos hkj, if_pos (by omega)]
    · rw [if_neg hkj, if_neg (by omega)]
theorem pb_at {j : Nat} {R NE : E_} {u : xm_Y} {q : Nat} (h : bx_ u q (pb_ j R NE)) (hj : j < 6) : u.2 q j = ec_ (NE j) := by
  rw [h j hj]
  unfold pb_
  rw [if_neg (by omega)]
theorem look2_lp {m n b : Nat} {c : xm_Y} {E NE : E_} (hm : 10 ≤ m) (hn : c.1 1 1 = nI n) (hn3 : n ≤ 3) (hb : b < 5) (hbE : ∀ k, k < 6 → bd_ 100000000000 (E k)) (hbN : ∀ k, k < 6 → bd_ 100000000000 (NE k)) (hbR : ∀ k, k < 2 * n → bd_ 100000000000 (rr2_ c E b k)) : ∀ (r i f : Nat) (u : xm_Y), i + r = n → r + 1 ≤ f → fx_ (fun q => q = 133 ∨ q = 135) c u → bx_ u 133 E → bx_ u 135 (pb_ (2 * i) (rr2_ c E b) NE) → ∃ (l : Int32) (u' : xm_Y), lp_X8_lookAtBodies_42 m b f (nI i) u = some (l, u') ∧ fx_ (fun q => q = 133 ∨ q = 135) c u' ∧ bx_ u' 133 E ∧ bx_ u' 135 (pb_ (2 * n) (rr2_ c E b) NE)
  | 0, i, f, u, hi, hf, fc, h1, h2 => by
    obtain ⟨f', rfl⟩ : ∃ f', f = f' + 1 := ⟨f - 1, by omega⟩
    obtain rfl : i = n := by omega
    refine ⟨nI i, u, ?_, fc, h1, h2⟩
    rw [lp_X8_lookAtBodies_42, fc.1, hn, if_pos ((nIle (by omega) (by omega)).mpr (by omega))]
  | r + 1, i, f, u, hi, hf, fc, h1, h2 => by
    obtain ⟨f', rfl⟩ : ∃ f', f = f' + 1 := ⟨f - 1, by omega⟩
    have far : ∀ (s : Nat) (w : xm_Y), s < 2 → fx_ (fun q => q = 133 ∨ q = 135) c w → bx_ w 133 E → fn_X0_farthest m (21 + 24 * b + 2 * i) 132 (nI s) w = some (ec_ (rr2_ c E b (2 * i + s)), w) := by
      intro s w hs fw hw
      rw [ev_farthest hm _ 132 s w E hs hw hbE]
      unfold rr2_ wc_ kc_
      rw [fw.1, show (2 * i + s) / 2 = i by omega, show (2 * i + s) % 2 = s by omega]
    have w1 : ∀ q, bx_ u 133 E → bx_ (w_J u 135 (2 * i) q) 133 E := fun q h k hk => by rw [rJ_ne (by omega)]; exact h k hk
    have fw1 : ∀ q, fx_ (fun q => q = 133 ∨ q = 135) c (w_J u 135 (2 * i) q) := fun q => fc.wJ (Or.inr rfl)
    have e0 := pb_s h2 (show 2 * i < 6 by omega)
    rw [show (2 * i) % 2 = 0 by omega] at e0
    have e1 := pb_s e0 (show 2 * i + 1 < 6 by omega)
    rw [show (2 * i + 1) % 2 = 1 by omega] at e1
    have wid0 := ev_widen m i 0 u (NE (2 * i)) (rr2_ c E b (2 * i)) (by omega) (by omega) (pb_at h2 (by omega)) (hbN _ (by omega)) (hbR _ (by omega))
    have wid1 := ev_widen m i 1 (w_J u 135 (2 * i) (ec_ (wd_ 0 (NE (2 * i)) (rr2_ c E b (2 * i))))) (NE (2 * i + 1)) (rr2_ c E b (2 * i + 1)) (by omega) (by omega) (pb_at e0 (by omega)) (hbN _ (by omega)) (hbR _ (by omega))
    obtain ⟨l, u', p1, p2, p3, p4⟩ := look2_lp hm hn hn3 hb hbE hbN hbR r (i + 1) f' (w_J (w_J u 135 (2 * i) (ec_ (wd_ 0 (NE (2 * i)) (rr2_ c E b (2 * i))))) 135 (2 * i + 1) (ec_ (wd_ 1 (NE (2 * i + 1)) (rr2_ c E b (2 * i + 1))))) (by omega) (by omega) ((fw1 _).wJ (Or.inr rfl)) (fun k hk => by rw [rJ_ne (by omega), rJ_ne (by omega)]; exact h1 k hk) (by rw [show 2 * (i + 1) = 2 * i + 1 + 1 by omega]; exact e1)
    refine ⟨l, u', ?_, p2, p3, p4⟩
    rw [lp_X8_lookAtBodies_42, fc.1, hn, if_neg (fun q => absurd ((nIle (by omega) (by omega)).mp q) (by omega)), ck_t (nI_xi (by omega) (by omega)), nI_cl (by omega), show (0 : Int32) = nI 0 from rfl, far 0 u (by omega) fc h1]
    simp only [Option.bind_some, xm_let]
    rw [show 2 * i + 0 = 2 * i by omega] at wid0 ⊢
    rw [wid0]
    simp only [Option.bind_some]
    rw [ck_t (nI_xi (by omega) (by omega)), show (1 : Int32) = nI 1 from rfl, far 1 _ (by omega) (fw1 _) (w1 _ h1)]
    simp only [Option.bind_some]
    rw [wid1]
    simp only [Option.bind_some]
    rw [nI_ad, ← p1]
