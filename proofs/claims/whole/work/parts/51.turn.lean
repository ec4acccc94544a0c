/-! points and what a turn does to them -/
def gt_ (u : xm_Y) (p : Nat) : Int64 × Int64 × Int64 := (u.2 p 0, u.2 p 1, u.2 p 2)
def pt_ (u : xm_Y) (p : Nat) (t : Int64 × Int64 × Int64) : xm_Y := w_J (w_J (w_J u p 0 t.1) p 1 t.2.1) p 2 t.2.2
def af_ (u : xm_Y) (a : Nat) (X : Int64 × Int64 × Int64) : Int64 := ((Int32.toInt64 (u.1 (a + 1) 0) * X.1 + Int32.toInt64 (u.1 (a + 1) 1) * X.2.1) + Int32.toInt64 (u.1 (a + 1) 2) * X.2.2) + Int32.toInt64 (u.1 a 1)
def of_ (u : xm_Y) (w A : Nat) (X : Int64 × Int64 × Int64) : Int64 := ((Int32.toInt64 (u.1 w A) * X.1 + Int32.toInt64 (u.1 w (A + 1)) * X.2.1) + Int32.toInt64 (u.1 w (A + 2)) * X.2.2) + Int32.toInt64 (u.1 w (A + 3))
theorem ev_valueAt (m a p : Nat) (u : xm_Y) : fn_X0_valueAt m a p u = some (af_ u a (gt_ u p), u) := rfl
theorem ev_of (m w wn A p : Nat) (hA : A + 3 < wn) (hwn : wn < 2 ^ 31) (u : xm_Y) : fn_X12_of m w wn (nI A) p u = some (of_ u w A (gt_ u p), u) := by
  rw [fn_X12_of, show nI A + (1 : Int32) = nI (A + 1) from nI_ad A 1, show nI A + (2 : Int32) = nI (A + 2) from nI_ad A 2, show nI A + (3 : Int32) = nI (A + 3) from nI_ad A 3, ck_t (nI_xi (by omega) hwn), ck_t (by decide), ck_t (nI_xi (by omega) hwn), ck_t (by decide), ck_t (nI_xi (by omega) hwn), ck_t (by decide), ck_t (nI_xi (by omega) hwn), nI_cl (by omega), nI_cl (by omega), nI_cl (by omega), nI_cl (by omega)]
  rfl
/-- all from g on, k of them, are not below 0 -/
def hb_ (v : Nat → Int64) : Nat → Nat → Bool
  | 0, _ => true
  | k + 1, g => if 0 ≤ v g then hb_ v k (g + 1) else false
theorem hb_c {v w : Nat → Int64} : ∀ (k g : Nat), (∀ j, g ≤ j → j < g + k → v j = w j) → hb_ v k g = hb_ w k g
  | 0, _, _ => rfl
  | k + 1, g, h => by
    show (if 0 ≤ v g then hb_ v k (g + 1) else false) = (if 0 ≤ w g then hb_ w k (g + 1) else false)
    rw [h g (by omega) (by omega), hb_c k (g + 1) (fun j h1 h2 => h j (by omega) (by omega))]
theorem nIle {a b : Nat} (ha : a < 2 ^ 31) (hb : b < 2 ^ 31) : nI a ≤ nI b ↔ a ≤ b := by
  rw [Int32.le_iff_toInt_le, nI_u ha, nI_u hb]; omega
theorem nIlt {a b : Nat} (ha : a < 2 ^ 31) (hb : b < 2 ^ 31) : nI a < nI b ↔ a < b := by
  rw [Int32.lt_iff_toInt_lt, nI_u ha, nI_u hb]; omega
theorem ev_holds1 (m b p G : Nat) (u : xm_Y) (hG : u.1 (3 + 24 * b) 4 = nI G) (hG6 : G ≤ 6) : ∀ (k g f : Nat), g + k = G → k + 1 ≤ f → lp_X1_holdsAt_2 m b p f (nI g) u = some (if hb_ (fun j => af_ u (9 + 24 * b + 2 * j) (gt_ u p)) k g = true then .inr (nI G, u) else .inl ((0 : Int32), u))
  | 0, g, f, hg, hf => by
    obtain ⟨f', rfl⟩ : ∃ f', f = f' + 1 := ⟨f - 1, by omega⟩
    obtain rfl : g = G := by omega
    rw [lp_X1_holdsAt_2, hG, if_pos ((nIle (by omega) (by omega)).mpr (by omega))]
    rfl
  | k + 1, g, f, hg, hf => by
    obtain ⟨f', rfl⟩ : ∃ f', f = f' + 1 := ⟨f - 1, by omega⟩
    rw [lp_X1_holdsAt_2, hG, if_neg (fun q => absurd ((nIle (by omega) (by omega)).mp q) (by omega)), ck_t (nI_xi (by omega) (by omega)), nI_cl (by omega), ev_valueAt]
    simp only [Option.bind_some, xm_let]
    rw [← nI_succ, ev_holds1 m b p G u hG hG6 k (g + 1) f' (by omega) (by omega)]
    by_cases h : (0 : Int64) ≤ af_ u (9 + 24 * b + 2 * g) (gt_ u p)
    · rw [if_pos h]
      have e : hb_ (fun j => af_ u (9 + 24 * b + 2 * j) (gt_ u p)) (k + 1) g = hb_ (fun j => af_ u (9 + 24 * b + 2 * j) (gt_ u p)) k (g + 1) := if_pos h
      rw [e]
    · rw [if_neg h]
      have e : hb_ (fun j => af_ u (9 + 24 * b + 2 * j) (gt_ u p)) (k + 1) g = false := if_neg h
      rw [e]; rfl
theorem ev_holdsAt {m : Nat} (hm : 100 ≤ m) (b p G : Nat) (u : xm_Y) (hG : u.1 (3 + 24 * b) 4 = nI G) (hG6 : G ≤ 6) : fn_X1_holdsAt m b p u = some (if hb_ (fun j => af_ u (9 + 24 * b + 2 * j) (gt_ u p)) G 0 = true then 1 else 0, u) := by
  rw [fn_X1_holdsAt, show (0 : Int32) = nI 0 from rfl, ev_holds1 m b p G u hG hG6 G 0 m (by omega) (by omega)]
  by_cases h : hb_ (fun j => af_ u (9 + 24 * b + 2 * j) (gt_ u p)) G 0 = true
  · rw [if_pos h, if_pos h]; rfl
  · rw [if_neg h, if_neg h]; rfl
theorem ev_turnAt1 (m b p G : Nat) (u : xm_Y) (hb : b < 5) (hG : u.1 151 b = nI G) (hG6 : G ≤ 6) : ∀ (k g f : Nat) (l : Int32), (l = 0 ∨ l = 1) → g + k = G → k + 1 ≤ f → lp_X12_turnAt_15 m p (nI b) f l (nI g) u = some (if l = 0 then 0 else if hb_ (fun j => of_ u 152 ((6 * b + j) * 4) (gt_ u p)) k g = true then 1 else 0, nI G, u)
  | 0, g, f, l, hl, hg, hf => by
    obtain ⟨f', rfl⟩ : ∃ f', f = f' + 1 := ⟨f - 1, by omega⟩
    obtain rfl : g = G := by omega
    rw [lp_X12_turnAt_15, ck_t (nI_xi hb (by omega)), nI_cl (by omega), hG, if_pos ((nIle (by omega) (by omega)).mpr (by omega))]
    rcases hl with rfl | rfl <;> rfl
  | k + 1, g, f, l, hl, hg, hf => by
    obtain ⟨f', rfl⟩ : ∃ f', f = f' + 1 := ⟨f - 1, by omega⟩
    have hA : ((6 : Int32) * nI b + nI g) * 4 = nI ((6 * b + g) * 4) := by
      rw [show (6 : Int32) = nI 6 from rfl, show (4 : Int32) = nI 4 from rfl, nI_mu, nI_ad, nI_mu]
    rw [lp_X12_turnAt_15, ck_t (nI_xi hb (by omega)), nI_cl (by omega), hG, if_neg (fun q => absurd ((nIle (by omega) (by omega)).mp q) (by omega)), hA, ev_of m 152 120 _ p (by omega) (by decide)]
    simp only [Option.bind_some, xm_let]
    rcases hl with rfl | rfl
    · simp only [if_pos, Option.bind_some]
      rw [← nI_succ, ev_turnAt1 m b p G u hb hG hG6 k (g + 1) f' 0 (Or.inl rfl) (by omega) (by omega)]
      rfl
    · have z : ¬ ((1 : Int32) = 0) := by decide
      rw [if_neg z, if_neg z]
      by_cases h : (0 : Int64) ≤ of_ u 152 ((6 * b + g) * 4) (gt_ u p)
      · rw [if_neg (Int64.not_lt.mpr h)]
        simp only [Option.bind_some]
        rw [← nI_succ, ev_turnAt1 m b p G u hb hG hG6 k (g + 1) f' 1 (Or.inr rfl) (by omega) (by omega), if_neg z]
        have e : hb_ (fun j => of_ u 152 ((6 * b + j) * 4) (gt_ u p)) (k + 1) g = hb_ (fun j => of_ u 152 ((6 * b + j) * 4) (gt_ u p)) k (g + 1) := if_pos h
        rw [e]
      · rw [if_pos (Int64.not_le.mp h)]
        simp only [Option.bind_some]
        rw [← nI_succ, ev_turnAt1 m b p G u hb hG hG6 k (g + 1) f' 0 (Or.inl rfl) (by omega) (by omega)]
        have e : hb_ (fun j => of_ u 152 ((6 * b + j) * 4) (gt_ u p)) (k + 1) g = false := if_neg h
        rw [e]; rfl
/-- the first of k from b on -/
def fb_ (H : Nat → Bool) : Nat → Nat → Option Nat
  | 0, _ => none
  | k + 1, b => if H b = true then some b else fb_ H k (b + 1)
theorem fb_c {H K : Nat → Bool} : ∀ (k b : Nat), (∀ j, b ≤ j → j < b + k → H j = K j) → fb_ H k b = fb_ K k b
  | 0, _, _ => rfl
  | k + 1, b, h => by
    show (if H b = true then some b else fb_ H k (b + 1)) = (if K b = true then some b else fb_ K k (b + 1))
    rw [h b (by omega) (by omega), fb_c k (b + 1) (fun j h1 h2 => h j (by omega) (by omega))]
theorem fb_lt {H : Nat → Bool} {r : Nat} : ∀ (k b : Nat), fb_ H k b = some r → b ≤ r ∧ r < b + k
  | 0, b, h => by cases h
  | k + 1, b, h => by
    have h' : (if H b = true then some b else fb_ H k (b + 1)) = some r := h
    by_cases q : H b = true
    · rw [if_pos q] at h'; cases h'; omega
    · rw [if_neg q] at h'; have := fb_lt k (b + 1) h'; omega
def hc_ (c : xm_Y) (gc : Nat → Nat) (X : Int64 × Int64 × Int64) (b : Nat) : Bool := hb_ (fun j => af_ c (9 + 24 * b + 2 * j) X) (gc b) 0
def hd_ (d : xm_Y) (gc : Nat → Nat) (X : Int64 × Int64 × Int64) (b : Nat) : Bool := hb_ (fun j => of_ d 152 ((6 * b + j) * 4) X) (gc b) 0
def oi_ : Option Nat → Int32
  | none => -1
  | some b => nI b
theorem ev_chosen1 {m : Nat} (hm : 100 ≤ m) (p nb : Nat) (gc : Nat → Nat) (u : xm_Y) (h5 : nb ≤ 5) (hn : u.1 1 2 = nI nb) (hG : ∀ b, b < nb → u.1 (3 + 24 * b) 4 = nI (gc b) ∧ gc b ≤ 6) : ∀ (k b f : Nat), b + k = nb → k + 1 ≤ f → ∃ l : Int32, lp_X7_chosen_2 m p f (nI b) u = some (match fb_ (hc_ u gc (gt_ u p)) k b with | none => .inr (l, u) | some r => .inl (nI r, u))
  | 0, b, f, hg, hf => by
    obtain ⟨f', rfl⟩ : ∃ f', f = f' + 1 := ⟨f - 1, by omega⟩
    refine ⟨nI b, ?_⟩
    rw [lp_X7_chosen_2, hn, if_pos ((nIle (by omega) (by omega)).mpr (by omega))]
    rfl
  | k + 1, b, f, hg, hf => by
    obtain ⟨f', rfl⟩ : ∃ f', f = f' + 1 := ⟨f - 1, by omega⟩
    obtain ⟨l, hl⟩ := ev_chosen1 hm p nb gc u h5 hn hG k (b + 1) f' (by omega) (by omega)
    refine ⟨l, ?_⟩
    obtain ⟨g1, g2⟩ := hG b (by omega)
    rw [lp_X7_chosen_2, hn, if_neg (fun q => absurd ((nIle (by omega) (by omega)).mp q) (by omega)), ck_t (nI_xi (by omega) (by omega)), nI_cl (by omega), ev_holdsAt hm b p (gc b) u g1 g2]
    simp only [Option.bind_some, xm_let]
    by_cases h : hc_ u gc (gt_ u p) b = true
    · have e : fb_ (hc_ u gc (gt_ u p)) (k + 1) b = some b := if_pos h
      rw [e]
      unfold hc_ at h
      rw [if_pos h, if_neg (by decide)]
    · have e : fb_ (hc_ u gc (gt_ u p)) (k + 1) b = fb_ (hc_ u gc (gt_ u p)) k (b + 1) := if_neg h
      rw [e]
      unfold hc_ at h
      rw [if_neg h, if_pos rfl, ← nI_succ, hl]
theorem ev_chosen {m : Nat} (hm : 100 ≤ m) (p nb : Nat) (gc : Nat → Nat) (u : xm_Y) (h5 : nb ≤ 5) (hn : u.1 1 2 = nI nb) (hG : ∀ b, b < nb → u.1 (3 + 24 * b) 4 = nI (gc b) ∧ gc b ≤ 6) : fn_X7_chosen m p u = some (oi_ (fb_ (hc_ u gc (gt_ u p)) nb 0), u) := by
  obtain ⟨l, hl⟩ := ev_chosen1 hm p nb gc u h5 hn hG nb 0 m (by omega) (by omega)
  rw [fn_X7_chosen, show (0 : Int32) = nI 0 from rfl, hl]
  cases fb_ (hc_ u gc (gt_ u p)) nb 0 <;> rfl
theorem ev_turnAt2 {m : Nat} (hm : 100 ≤ m) (p nb : Nat) (gc : Nat → Nat) (u : xm_Y) (h5 : nb ≤ 5) (hn : u.1 150 1 = nI nb) (hG : ∀ b, b < nb → u.1 151 b = nI (gc b) ∧ gc b ≤ 6) : ∀ (k b f : Nat), b + k = nb → k + 1 ≤ f → ∃ l : Int32, lp_X12_turnAt_2 m p f (nI b) u = some (match fb_ (hd_ u gc (gt_ u p)) k b with | none => .inr (l, u) | some r => .inl (nI r, u))
  | 0, b, f, hg, hf => by
    obtain ⟨f', rfl⟩ : ∃ f', f = f' + 1 := ⟨f - 1, by omega⟩
    refine ⟨nI b, ?_⟩
    rw [lp_X12_turnAt_2, hn, if_pos ((nIle (by omega) (by omega)).mpr (by omega))]
    rfl
  | k + 1, b, f, hg, hf => by
    obtain ⟨f', rfl⟩ : ∃ f', f = f' + 1 := ⟨f - 1, by omega⟩
    obtain ⟨l, hl⟩ := ev_turnAt2 hm p nb gc u h5 hn hG k (b + 1) f' (by omega) (by omega)
    refine ⟨l, ?_⟩
    obtain ⟨g1, g2⟩ := hG b (by omega)
    rw [lp_X12_turnAt_2, hn, if_neg (fun q => absurd ((nIle (by omega) (by omega)).mp q) (by omega)), show lp_X12_turnAt_15 m p (nI b) m (1 : Int32) (0 : Int32) u = _ from ev_turnAt1 m b p (gc b) u (by omega) g1 g2 (gc b) 0 m 1 (Or.inr rfl) (by omega) (by omega)]
    simp only [Option.bind_some, xm_let]
    rw [if_neg (show ¬ ((1 : Int32) = 0) by decide)]
    by_cases h : hd_ u gc (gt_ u p) b = true
    · have e : fb_ (hd_ u gc (gt_ u p)) (k + 1) b = some b := if_pos h
      rw [e]
      unfold hd_ at h
      rw [if_pos h, if_neg (by decide)]
    · have e : fb_ (hd_ u gc (gt_ u p)) (k + 1) b = fb_ (hd_ u gc (gt_ u p)) k (b + 1) := if_neg h
      rw [e]
      unfold hd_ at h
      rw [if_neg h, if_pos rfl, ← nI_succ, hl]
theorem ev_turnAt {m : Nat} (hm : 100 ≤ m) (p nb : Nat) (gc : Nat → Nat) (u : xm_Y) (h5 : nb ≤ 5) (hn : u.1 150 1 = nI nb) (hG : ∀ b, b < nb → u.1 151 b = nI (gc b) ∧ gc b ≤ 6) : fn_X12_turnAt m p u = some (oi_ (fb_ (hd_ u gc (gt_ u p)) nb 0), u) := by
  obtain ⟨l, hl⟩ := ev_turnAt2 hm p nb gc u h5 hn hG nb 0 m (by omega) (by omega)
  rw [fn_X12_turnAt, show (0 : Int32) = nI 0 from rfl, hl]
  cases fb_ (hd_ u gc (gt_ u p)) nb 0 <;> rfl
theorem af_of {c d : xm_Y} {a w A n : Nat} (h : iv_row (c.1 (a + 1)) (c.1 a 1) (d.1 w) A n) (X : Int64 × Int64 × Int64) : af_ c a X = of_ d w A X := by
  obtain ⟨r1, r2, -, -⟩ := h
  unfold af_ of_
  rw [(r1 0 (by omega)).1, (r1 1 (by omega)).1, (r1 2 (by omega)).1, r2]
  rfl
theorem hc_hd {c d : xm_Y} {n nb : Nat} {gc : Nat → Nat} (h2 : iv_2 c d n nb gc) (X : Int64 × Int64 × Int64) (k b : Nat) (hk : b + k ≤ nb) : fb_ (hc_ c gc X) k b = fb_ (hd_ d gc X) k b := by
  refine fb_c k b (fun j h1 h3 => ?_)
  obtain ⟨g1, g2, g3, g4, g5, g6⟩ := h2 j (by omega)
  exact hb_c _ _ (fun g _ hg => af_of (g4 g (by omega)) X)
section XT_
variable {PL : xm_Y → Nat → Prop} {FL : xm_Y → xm_Y → Prop} {m : Nat}
theorem tf_turn (hm : 100 ≤ m) : tf_ PL FL (fn_X11_turn m) (fn_X12_turn m) := by
  intro c d iv
  obtain ⟨n, nb, gc, h1, h2, h3, h4, h5, h6, h7, h8, h9, h10⟩ := id iv
  obtain ⟨a1, a2, a3, a4, a5, a6, a7⟩ := id h1
  have gx : gt_ c 123 = gt_ d 154 := by
    unfold gt_
    rw [(h3 0 (by omega)).1, (h3 1 (by omega)).1, (h3 2 (by omega)).1]
  refine ⟨oi_ (fb_ (hc_ c gc (gt_ c 123)) nb 0), c, d, ?_, md_.rf c, ?_, cl_.rf d, iv⟩
  · rw [fn_X11_turn, ev_chosen hm 123 nb gc c a7 a5 (fun b hb => ⟨(h2 b hb).1, (h2 b hb).2.2.1⟩)]
    rfl
  · rw [fn_X12_turn, ev_turnAt hm 154 nb gc d a7 a6 (fun b hb => ⟨(h2 b hb).2.1, (h2 b hb).2.2.1⟩), hc_hd h2 _ nb 0 (by omega), gx]
    rfl
end XT_
