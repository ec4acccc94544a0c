theorem nI_ad (a b : Nat) : nI a + nI b = nI (a + b) := by
  unfold nI
  exact (Int32.ofNat_add a b).symm
theorem nI_mu (a b : Nat) : nI a * nI b = nI (a * b) := by
  unfold nI
  exact (Int32.ofNat_mul a b).symm
theorem nI_cl {n : Nat} (h : n < 2 ^ 31) : (nI n).toNatClampNeg = n := nI_clamp h
theorem nI_xi {k n : Nat} (h : k < n) (hn : n < 2 ^ 31) : xm_in (nI k) n := by
  refine ⟨?_, ?_⟩
  · rw [nI_u (by omega)]; omega
  · rw [nI_u (by omega)]; omega
/-- all clauses but those of THE BOX and of what was found of the PLACES -/
def iw_ (c d : xm_Y) (n nb : Nat) (gc : Nat → Nat) : Prop := iv_1 c d n nb ∧ iv_2 c d n nb gc ∧ iv_3 c d n ∧ iv_4 c d n ∧ iv_6 c d ∧ iv_7 c d nb ∧ iv_9 c d ∧ iv_10 c d
def op_e (n e : Nat) : Int64 := if 2 * n ≤ e then 0 else -3000000000000
def op_c (u : xm_Y) (n : Nat) : xm_Y := w_I (w_I (w_I (w_I (w_I (w_I (w_J (w_J (w_J (w_J (w_J (w_J u 128 0 (op_e n 0)) 128 1 (op_e n 1)) 128 2 (op_e n 2)) 128 3 (op_e n 3)) 128 4 (op_e n 4)) 128 5 (op_e n 5)) 139 6 0) 6 3 0) 30 3 0) 54 3 0) 78 3 0) 102 3 0
def op_d (u : xm_Y) : xm_Y := w_I (w_I (w_I (w_I (w_I (w_I (w_I u 156 0 1) 156 1 1) 156 2 1) 156 3 1) 156 4 1) 156 5 1) 150 21 0
theorem lt3n {n : Nat} (h1 : 1 ≤ n) (h3 : n ≤ 3) : n = 1 ∨ n = 2 ∨ n = 3 := by omega
theorem ev_openAll (k n : Nat) (h1 : 1 ≤ n) (h3 : n ≤ 3) (u : xm_Y) : fn_X2_openAll (k + 7) 127 (nI n) u = some ((), w_J (w_J (w_J (w_J (w_J (w_J u 128 0 (op_e n 0)) 128 1 (op_e n 1)) 128 2 (op_e n 2)) 128 3 (op_e n 3)) 128 4 (op_e n 4)) 128 5 (op_e n 5)) := by
  rcases lt3n h1 h3 with rfl | rfl | rfl <;> rfl
theorem ev_openTheBox {m n : Nat} (hm : 7 ≤ m) (h1 : 1 ≤ n) (h3 : n ≤ 3) (u : xm_Y) (hn : u.1 1 1 = nI n) : fn_X11_openTheBox m u = some ((), op_c u n) := by
  obtain ⟨k, rfl⟩ := Nat.exists_eq_add_of_le hm
  rw [fn_X11_openTheBox, hn, Nat.add_comm 7 k, ev_openAll k n h1 h3]
  simp only [Option.bind_some]
  rw [show k + 7 = (k + 1) + 6 by omega, ev_X11_forgetPlaces]
  rfl
theorem ev_X12_openAll' {m : Nat} (hm : 7 ≤ m) (u : xm_Y) : fn_X12_openAll m u = some ((), op_d u) := by
  obtain ⟨k, rfl⟩ := Nat.exists_eq_add_of_le hm
  rw [Nat.add_comm 7 k, ev_X12_openAll]
  rfl
theorem op_c1 {u : xm_Y} {n k j : Nat} (h : ¬ (k = 139 ∧ j = 6)) (h2 : j = 3 → ∀ b, b < 5 → k ≠ 6 + 24 * b) : (op_c u n).1 k j = u.1 k j := by
  have g : j = 3 → k ≠ 6 ∧ k ≠ 30 ∧ k ≠ 54 ∧ k ≠ 78 ∧ k ≠ 102 := fun hj => ⟨h2 hj 0 (by omega), h2 hj 1 (by omega), h2 hj 2 (by omega), h2 hj 3 (by omega), h2 hj 4 (by omega)⟩
  unfold op_c
  simp only [rw_I, rw_J2]
  by_cases hj : j = 3
  · obtain ⟨g1, g2, g3, g4, g5⟩ := g hj
    simp only [if_neg g1, if_neg g2, if_neg g3, if_neg g4, if_neg g5]
    split
    · rename_i hk
      rw [if_neg (by omega)]
    · rfl
  · simp only [if_neg hj, ite_self]
    split
    · rename_i hk
      rw [if_neg (fun q => h ⟨hk, q⟩)]
    · rfl
theorem op_c2 {u : xm_Y} {n k : Nat} (h : k ≠ 128) : (op_c u n).2 k = u.2 k := by
  unfold op_c
  simp only [rw_I2]
  show xm_u2 (xm_u2 (xm_u2 (xm_u2 (xm_u2 (xm_u2 u.2 128 0 _) 128 1 _) 128 2 _) 128 3 _) 128 4 _) 128 5 _ k = u.2 k
  rw [xm_u2_ne h, xm_u2_ne h, xm_u2_ne h, xm_u2_ne h, xm_u2_ne h, xm_u2_ne h]
theorem op_c3 {u : xm_Y} {n e : Nat} (h : e < 6) : (op_c u n).2 128 e = op_e n e := by
  rcases lt6_ h with rfl | rfl | rfl | rfl | rfl | rfl <;> rfl
theorem op_c4 {u : xm_Y} {n b : Nat} (h : b < 5) : (op_c u n).1 (6 + 24 * b) 3 = 0 := by
  rcases lt5_ h with rfl | rfl | rfl | rfl | rfl <;> rfl
theorem op_d1 {u : xm_Y} {k j : Nat} (h : k ≠ 156) (h2 : ¬ (k = 150 ∧ j = 21)) : (op_d u).1 k j = u.1 k j := by
  unfold op_d
  simp only [rw_I, if_neg h]
  split
  · rename_i hk
    rw [if_neg (fun q => h2 ⟨hk, q⟩)]
  · rfl
theorem op_d2 {u : xm_Y} : (op_d u).2 = u.2 := rfl
theorem op_d3 {u : xm_Y} {e : Nat} (h : e < 6) : (op_d u).1 156 e = 1 := by
  rcases lt6_ h with rfl | rfl | rfl | rfl | rfl | rfl <;> rfl
theorem op_md (u : xm_Y) (n : Nat) : md_ u (op_c u n) := by
  unfold op_c
  exact ((((((((((((md_.rf u).wJ (by decide)).wJ (by decide)).wJ (by decide)).wJ (by decide)).wJ (by decide)).wJ (by decide)).wI (by decide)).wI (by decide)).wI (by decide)).wI (by decide)).wI (by decide)).wI (by decide)
theorem op_cl (u : xm_Y) : cl_ u (op_d u) := by
  unfold op_d
  exact (((((((cl_.rf u).wI (by decide)).wI (by decide)).wI (by decide)).wI (by decide)).wI (by decide)).wI (by decide)).wI (by decide)
theorem op_c1f {u : xm_Y} {n k : Nat} (h : k ≠ 139) (h2 : ∀ b, b < 5 → k ≠ 6 + 24 * b) : (op_c u n).1 k = u.1 k := by
  funext j
  exact op_c1 (fun q => h q.1) (fun _ => h2)
theorem op_d1f {u : xm_Y} {k : Nat} (h : k ≠ 156) (h2 : k ≠ 150) : (op_d u).1 k = u.1 k := by
  funext j
  exact op_d1 h (fun q => h2 q.1)
theorem iv_open {PL : xm_Y → Nat → Prop} {FL : xm_Y → xm_Y → Prop} {c d : xm_Y} {n nb : Nat} {gc : Nat → Nat} (h : iw_ c d n nb gc) : iv_ PL FL (op_c c n) (op_d d) := by
  obtain ⟨h1, h2, h3, h4, h6, h7, h9, h10⟩ := h
  obtain ⟨a1, a2, a3, a4, a5, a6, a7⟩ := id h1
  refine ⟨n, nb, gc, ?_, ?_, ?_, ?_, ?_, ?_, ?_, ?_, ?_, ?_⟩
  · refine ⟨?_, ?_, a3, a4, ?_, ?_, a7⟩
    · rw [op_c1f (by decide) (fun b _ => by omega)]; exact a1
    · rw [op_d1 (by decide) (by decide)]; exact a2
    · rw [op_c1f (by decide) (fun b _ => by omega)]; exact a5
    · rw [op_d1 (by decide) (by decide)]; exact a6
  · intro b hb
    obtain ⟨g1, g2, g3, g4, g5, g6⟩ := h2 b hb
    refine ⟨?_, ?_, g3, fun g hg => ?_, fun i hi => ?_, fun i hi hi3 => ?_⟩
    · rw [op_c1f (by omega) (fun b' _ => by omega)]; exact g1
    · rw [op_d1f (by decide) (by decide)]; exact g2
    · rw [op_d1f (by decide) (by decide), op_c1f (by omega) (fun b' _ => by omega), op_c1f (by omega) (fun b' _ => by omega)]; exact g4 g hg
    · rw [op_d1f (by decide) (by decide), op_c1f (by omega) (fun b' _ => by omega), op_c1f (by omega) (fun b' _ => by omega)]; exact g5 i hi
    · rw [op_c1f (by omega) (fun b' _ => by omega), op_c1f (by omega) (fun b' _ => by omega)]; exact g6 i hi hi3
  · unfold iv_3; rw [op_c2 (by decide), op_d2]; exact h3
  · unfold iv_4; rw [op_c2 (by decide), op_d2, op_d1f (by decide) (by decide)]; exact h4
  · intro k hk
    refine ⟨fun hn => Or.inl ⟨op_d3 hk, ?_⟩, fun hn => ⟨op_d3 hk, ?_⟩⟩
    · rw [op_c3 hk, op_e, if_neg (by omega)]
    · rw [op_c3 hk, op_e, if_pos hn]
  · unfold iv_6; rw [op_c1f (by decide) (fun b _ => by omega), op_d1 (by decide) (by decide)]; exact h6
  · unfold iv_7; rw [op_c1 (by decide) (by decide), op_c1f (k := 142) (by decide) (fun b _ => by omega), op_c1f (k := 143) (by decide) (fun b _ => by omega), op_d1 (by decide) (by decide), op_d1f (k := 161) (by decide) (by decide), op_d1f (k := 163) (by decide) (by decide)]; exact h7
  · exact ⟨Or.inl ⟨rfl, rfl⟩, fun b hb => Or.inl (op_c4 hb)⟩
  · unfold iv_9; rw [op_c1f (by decide) (fun b _ => by omega), op_c2 (by decide), op_d1 (by decide) (by decide), op_d1f (k := 173) (by decide) (by decide), op_d1f (k := 174) (by decide) (by decide), op_d1f (k := 175) (by decide) (by decide)]; exact h9
  · unfold iv_10; rw [op_c1f (by decide) (fun b _ => by omega), op_d1 (by decide) (by decide), op_d1 (by decide) (by decide), op_d1 (by decide) (by decide)]; exact h10
/-- what the two predicates may look at -/
def pf_ (PL : xm_Y → Nat → Prop) (FL : xm_Y → xm_Y → Prop) : Prop := (∀ c c' b, (∀ k, k < 123 → c'.1 k = c.1 k ∧ c'.2 k = c.2 k) → c'.2 128 = c.2 128 → PL c b → PL c' b) ∧ (∀ c c' d d', c'.2 139 5 = c.2 139 5 → d'.1 150 0 = d.1 150 0 → d'.1 150 1 = d.1 150 1 → d'.1 151 = d.1 151 → d'.1 152 = d.1 152 → d'.1 156 = d.1 156 → d'.2 155 = d.2 155 → d'.1 162 = d.1 162 → FL c d → FL c' d')
theorem iv_2c {c c' d d' : xm_Y} {n nb : Nat} {gc : Nat → Nat} (hc : ∀ k, k < 123 → c'.1 k = c.1 k) (h1 : d'.1 151 = d.1 151) (h2 : d'.1 152 = d.1 152) (h3 : d'.1 153 = d.1 153) (hn : n ≤ 3) (hb : nb ≤ 5) (h : iv_2 c d n nb gc) : iv_2 c' d' n nb gc := by
  intro b hbb
  obtain ⟨g1, g2, g3, g4, g5, g6⟩ := h b hbb
  rw [h1, h2, h3]
  refine ⟨by rw [hc _ (by omega)]; exact g1, g2, g3, fun g hg => ?_, fun i hi => ?_, fun i hi hi3 => ?_⟩
  · rw [hc _ (by omega), hc _ (by omega)]; exact g4 g hg
  · rw [hc _ (by omega), hc _ (by omega)]; exact g5 i hi
  · rw [hc _ (by omega), hc _ (by omega)]; exact g6 i hi hi3
theorem iv_8c {PL : xm_Y → Nat → Prop} {FL : xm_Y → xm_Y → Prop} (pf : pf_ PL FL) {c c' d d' : xm_Y} {nb : Nat} (hc : ∀ k, k < 123 → c'.1 k = c.1 k ∧ c'.2 k = c.2 k) (hb : c'.2 128 = c.2 128) (e1 : c'.1 139 6 = c.1 139 6) (e2 : c'.1 144 = c.1 144) (e3 : c'.2 139 5 = c.2 139 5) (f0 : d'.1 150 0 = d.1 150 0) (f1 : d'.1 150 1 = d.1 150 1) (f2 : d'.1 150 21 = d.1 150 21) (g1 : d'.1 151 = d.1 151) (g2 : d'.1 152 = d.1 152) (g6 : d'.1 156 = d.1 156) (g5 : d'.2 155 = d.2 155) (g7 : d'.1 162 = d.1 162) (h : iv_8 PL FL c d nb) : iv_8 PL FL c' d' nb := by
  refine ⟨?_, fun b hb5 => ?_⟩
  · rw [e1, e2, f2, g7]
    rcases h.1 with q | ⟨q1, q2, q3, q4⟩
    · exact Or.inl q
    · exact Or.inr ⟨q1, q2, q3, pf.2 c c' d d' e3 f0 f1 g1 g2 g6 g5 g7 q4⟩
  · rw [(hc (6 + 24 * b) (by omega)).1]
    rcases h.2 b hb5 with q | ⟨q1, q2, q3⟩
    · exact Or.inl q
    · exact Or.inr ⟨q1, q2, pf.1 c c' b hc hb q3⟩
theorem wI_lo {c : xm_Y} {k j : Nat} {v : Int32} (h : 123 ≤ k) : ∀ q, q < 123 → (w_I c k j v).1 q = c.1 q ∧ (w_I c k j v).2 q = c.2 q := fun q hq => ⟨xm_u2_ne (by omega), rfl⟩
theorem wJ_lo {c : xm_Y} {k j : Nat} {v : Int64} (h : 123 ≤ k) : ∀ q, q < 123 → (w_J c k j v).1 q = c.1 q ∧ (w_J c k j v).2 q = c.2 q := fun q hq => ⟨rfl, xm_u2_ne (by omega)⟩
section XT_
variable {PL : xm_Y → Nat → Prop} {FL : xm_Y → xm_Y → Prop} {m : Nat}
theorem tf_open (hm : 100 ≤ m) : tf_ PL FL (fn_X11_open m) (fn_X12_open m) := by
  intro c d iv
  obtain ⟨n, nb, gc, h1, h2, h3, h4, h5, h6, h7, h8, h9, h10⟩ := id iv
  refine ⟨0, op_c c n, op_d d, ?_, op_md c n, ?_, op_cl d, iv_open ⟨h1, h2, h3, h4, h6, h7, h9, h10⟩⟩
  · rw [fn_X11_open, ev_openTheBox (by omega) h1.2.2.1 h1.2.2.2.1 c h1.1]; rfl
  · rw [fn_X12_open, ev_X12_openAll' (by omega)]; rfl
theorem tf_clear (pf : pf_ PL FL) : tf_ PL FL (fn_X11_clear m) (fn_X12_clear m) := by
  intro c d iv
  obtain ⟨n, nb, gc, h1, h2, h3, h4, h5, h6, h7, h8, h9, h10⟩ := id iv
  obtain ⟨q, q1, q2, q3, q4⟩ := h9
  refine ⟨nI q, w_I c 146 1 0, w_I d 150 36 0, ?_, (md_.rf c).wI (by decide), ?_, (cl_.rf d).wI (by decide), n, nb, gc, h1, ?_, h3, h4, h5, h6, h7, ?_, ?_, h10⟩
  · rw [fn_X11_clear, fn_X3_removeAll, q2]; rfl
  · rw [fn_X12_clear, q3]; rfl
  · exact iv_2c (fun k hk => (wI_lo (by decide) k hk).1) rfl rfl rfl h1.2.2.2.1 h1.2.2.2.2.2.2 h2
  · exact iv_8c (c := c) (d := d) pf (wI_lo (by decide)) rfl rfl rfl rfl rfl rfl rfl rfl rfl rfl rfl rfl h8
  · exact ⟨0, by decide, rfl, rfl, fun k hk => absurd hk (by omega)⟩
end XT_
