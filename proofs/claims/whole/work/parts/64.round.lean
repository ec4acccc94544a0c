theorem b_nar {x : Int32} (h : x = 0 ∨ x = 1) : vp_nar .boolean x = x := by
  rcases h with rfl | rfl <;> rfl
/-- the reference's rows -/
def rd_ (d : xm_Y) (n nb : Nat) (gc : Nat → Nat) : Prop := d.1 150 0 = nI n ∧ 1 ≤ n ∧ n ≤ 3 ∧ d.1 150 1 = nI nb ∧ nb ≤ 5 ∧ ∀ b, b < nb → d.1 151 b = nI (gc b) ∧ gc b ≤ 6 ∧ (∀ g, g < gc b → (∀ i, i < 3 → -20 ≤ wr_ d 152 ((6 * b + g) * 4) i ∧ wr_ d 152 ((6 * b + g) * 4) i ≤ 20 ∧ (n ≤ i → wr_ d 152 ((6 * b + g) * 4) i = 0)) ∧ -1000 ≤ kr_ d 152 ((6 * b + g) * 4) ∧ kr_ d 152 ((6 * b + g) * 4) ≤ 1000) ∧ (∀ j, j < n → (∀ i, i < 3 → -20 ≤ wr_ d 153 ((3 * b + j) * 4) i ∧ wr_ d 153 ((3 * b + j) * 4) i ≤ 20 ∧ (n ≤ i → wr_ d 153 ((3 * b + j) * 4) i = 0)) ∧ -1000 ≤ kr_ d 153 ((3 * b + j) * 4) ∧ kr_ d 153 ((3 * b + j) * 4) ≤ 1000)
theorem rowd {w : Nat → Int32} {k0 : Int32} {D : Nat → Int32} {A n : Nat} (h : iv_row w k0 D A n) : (∀ i, i < 3 → -20 ≤ (D (A + i)).toInt ∧ (D (A + i)).toInt ≤ 20 ∧ (n ≤ i → (D (A + i)).toInt = 0)) ∧ -1000 ≤ (D (A + 3)).toInt ∧ (D (A + 3)).toInt ≤ 1000 := by
  obtain ⟨r1, r2, r3, r4⟩ := h
  refine ⟨fun i hi => ?_, by rw [← r2]; exact r3, by rw [← r2]; exact r4⟩
  obtain ⟨q1, q2, q3, q4⟩ := r1 i hi
  rw [← q1]
  exact ⟨q2, q3, fun z => z32.mp (q4 z)⟩
theorem rd_iv {c d : xm_Y} {n nb : Nat} {gc : Nat → Nat} (h1 : iv_1 c d n nb) (h2 : iv_2 c d n nb gc) : rd_ d n nb gc := by
  obtain ⟨a1, a2, a3, a4, a5, a6, a7⟩ := h1
  refine ⟨a2, a3, a4, a6, a7, fun b hb => ?_⟩
  obtain ⟨g1, g2, g3, g4, g5, g6⟩ := h2 b hb
  exact ⟨g2, g3, fun g hg => rowd (g4 g hg), fun j hj => rowd (g5 j hj)⟩
/-- scratch of the reference's rounds -/
def gx_ (d u : xm_Y) : Prop := (∀ q, q ≠ 150 → q ≠ 170 → q ≠ 172 → u.1 q = d.1 q) ∧ (∀ e, e ≠ 48 → u.1 150 e = d.1 150 e) ∧ (∀ q, q ≠ 150 → q ≠ 169 → q ≠ 171 → u.2 q = d.2 q)
theorem gx_.rf (d : xm_Y) : gx_ d d := ⟨fun _ _ _ _ => rfl, fun _ _ => rfl, fun _ _ _ _ => rfl⟩
theorem gx_.r {d u u' : xm_Y} (h : gx_ d u) (g : rf_ u u') : gx_ d u' := ⟨fun q a b c => (g.1 q a).trans (h.1 q a b c), fun e he => (g.2.1 e he).trans (h.2.1 e he), fun q a b c => (g.2.2 q a).trans (h.2.2 q a b c)⟩
theorem gx_.wI {d u : xm_Y} (h : gx_ d u) {k j : Nat} {v : Int32} (hk : k = 170 ∨ k = 172) : gx_ d (w_I u k j v) := ⟨fun q a b c => (rI_nc (by omega)).trans (h.1 q a b c), fun e he => (show (w_I u k j v).1 150 e = _ from (rI_ne (by omega)).trans (h.2.1 e he)), h.2.2⟩
theorem gx_.wJ {d u : xm_Y} (h : gx_ d u) {k j : Nat} {v : Int64} (hk : k = 169 ∨ k = 171) : gx_ d (w_J u k j v) := ⟨h.1, h.2.1, fun q a b c => (rJ_nc (by omega)).trans (h.2.2 q a b c)⟩
def rrd_ (d : xm_Y) (E : E_) (b : Nat) : E_ := fun k => fa_ (wr_ d 153 ((3 * b + k / 2) * 4)) (kr_ d 153 ((3 * b + k / 2) * 4)) E (k % 2)
def ppd_ (d : xm_Y) (gc : Nat → Nat) (E : E_) (b : Nat) : Bool := pa_ (fun g => fa_ (wr_ d 152 ((6 * b + g) * 4)) (kr_ d 152 ((6 * b + g) * 4)) E 1) (gc b) 0
def nxd_ (d : xm_Y) (n nb : Nat) (gc : Nat → Nat) (E : E_) : E_ := ls_ n (ppd_ d gc E) (rrd_ d E) nb 0 E
theorem fa_c {w w' : Nat → Int} {k k' : Int} {E : E_} {s : Nat} (h : ∀ i, i < 3 → w i = w' i) (hk : k = k') : fa_ w k E s = fa_ w' k' E s := by
  unfold fa_
  rw [h 0 (by omega), h 1 (by omega), h 2 (by omega), hk]
theorem nx_same {c d : xm_Y} {n nb : Nat} {gc : Nat → Nat} (h2 : iv_2 c d n nb gc) (E : E_) : nxc_ c n nb gc E = nxd_ d n nb gc E := by
  unfold nxc_ nxd_
  refine ls_c nb 0 E (fun b _ hb => ?_)
  obtain ⟨g1, g2, g3, g4, g5, g6⟩ := h2 b (by omega)
  refine ⟨pa_c _ _ (fun g _ hg => ?_), fun q hq => ?_⟩
  · obtain ⟨r1, r2, -, -⟩ := g4 g (by omega)
    exact fa_c (fun i hi => by unfold wc_ wr_; rw [(r1 i hi).1]) (by unfold kc_ kr_; rw [r2])
  · obtain ⟨r1, r2, -, -⟩ := g5 (q / 2) (by omega)
    exact fa_c (fun i hi => by unfold wc_ wr_; rw [(r1 i hi).1]) (by unfold kc_ kr_; rw [r2])
theorem va_01 {u : xm_Y} {o : Option Int} (h : va_ u o) : u.1 150 48 = 0 ∨ u.1 150 48 = 1 := by
  cases o with
  | none => exact Or.inr h
  | some a => exact Or.inl h.1
theorem passd_lp {m n nb b : Nat} {gc : Nat → Nat} {d : xm_Y} {E : E_} (hm : 10 ≤ m) (rd : rd_ d n nb gc) (hb : b < nb) (hbE : ∀ k, k < 6 → bd_ 1000000000 (E k)) : ∀ (k g f : Nat) (u : xm_Y) (l : Int32), (l = 0 ∨ l = 1) → g + k = gc b → k + 1 ≤ f → gx_ d u → by_ u 170 169 E → ∃ (l' : Int32) (u' : xm_Y), lp_X12_isPassed_4 m (nI b) f l (nI g) u = some (if l = 1 then 1 else if pa_ (fun g => fa_ (wr_ d 152 ((6 * b + g) * 4)) (kr_ d 152 ((6 * b + g) * 4)) E 1) k g = true then 1 else 0, l', u') ∧ rf_ u u'
  | 0, g, f, u, l, hl, hg, hf, gx, hE => by
    obtain ⟨f', rfl⟩ : ∃ f', f = f' + 1 := ⟨f - 1, by omega⟩
    obtain ⟨r1, r2, r3, r4, r5, r6⟩ := rd
    obtain ⟨g1, g2, g3, g4⟩ := r6 b hb
    refine ⟨nI g, u, ?_, rf_.rf u⟩
    rw [lp_X12_isPassed_4, ck_t (nI_xi (by omega) (by omega)), nI_cl (by omega), gx.1 151 (by decide) (by decide) (by decide), g1, if_pos ((nIle (by omega) (by omega)).mpr (by omega))]
    rcases hl with rfl | rfl <;> rfl
  | k + 1, g, f, u, l, hl, hg, hf, gx, hE => by
    obtain ⟨f', rfl⟩ : ∃ f', f = f' + 1 := ⟨f - 1, by omega⟩
    obtain ⟨r1, r2, r3, r4, r5, r6⟩ := id rd
    obtain ⟨g1, g2, g3, g4⟩ := r6 b hb
    obtain ⟨s1, s2, s3⟩ := g3 g (by omega)
    have hA : ((6 : Int32) * nI b + nI g) * 4 = nI ((6 * b + g) * 4) := by
      rw [show (6 : Int32) = nI 6 from rfl, show (4 : Int32) = nI 4 from rfl, nI_mu, nI_ad, nI_mu]
    have ew : wr_ u 152 ((6 * b + g) * 4) = wr_ d 152 ((6 * b + g) * 4) := by unfold wr_; rw [gx.1 152 (by decide) (by decide) (by decide)]
    have ek : kr_ u 152 ((6 * b + g) * 4) = kr_ d 152 ((6 * b + g) * 4) := by unfold kr_; rw [gx.1 152 (by decide) (by decide) (by decide)]
    obtain ⟨u1, a1, a2, a3⟩ := ev_reach hm 152 120 ((6 * b + g) * 4) 1 n u E (by decide) r2 r3 (by omega) (by omega) (by decide) ((gx.2.1 0 (by decide)).trans r1) hE (fun i i1 i2 => by rw [ew]; exact (s1 i i2).2.2 i1)
    rw [ew, ek] at a2
    have hbv := fa_b (s := 1) (fun i hi => ⟨(s1 i hi).1, (s1 i hi).2.1⟩) s2 s3 hbE (by omega)
    rw [lp_X12_isPassed_4, ck_t (nI_xi (by omega) (by omega)), nI_cl (by omega), gx.1 151 (by decide) (by decide) (by decide), g1, if_neg (fun q => absurd ((nIle (by omega) (by omega)).mp q) (by omega)), hA, show (1 : Int32) = nI 1 from rfl, a1]
    simp only [Option.bind_some, xm_let]
    have e : pa_ (fun g => fa_ (wr_ d 152 ((6 * b + g) * 4)) (kr_ d 152 ((6 * b + g) * 4)) E 1) (k + 1) g = (match fa_ (wr_ d 152 ((6 * b + g) * 4)) (kr_ d 152 ((6 * b + g) * 4)) E 1 with | none => pa_ (fun g => fa_ (wr_ d 152 ((6 * b + g) * 4)) (kr_ d 152 ((6 * b + g) * 4)) E 1) k (g + 1) | some z => if z < 0 then true else pa_ (fun g => fa_ (wr_ d 152 ((6 * b + g) * 4)) (kr_ d 152 ((6 * b + g) * 4)) E 1) k (g + 1)) := rfl
    rw [e]
    have ih := fun l hl => passd_lp hm rd hb hbE k (g + 1) f' u1 l hl (by omega) (by omega) (gx.r a3) (by_rf a3 (by decide) (by decide) hE)
    generalize fa_ (wr_ d 152 ((6 * b + g) * 4)) (kr_ d 152 ((6 * b + g) * 4)) E 1 = o at a2 hbv
    rcases hl with rfl | rfl
    · rw [if_pos rfl]
      cases o with
      | none =>
        have v1 : u1.1 150 48 = 1 := a2
        rw [v1, if_neg (by decide)]
        simp only [Option.bind_some]
        obtain ⟨l', u', p1, p2⟩ := ih 0 (Or.inl rfl)
        refine ⟨l', u', ?_, a3.tr p2⟩
        rw [show nI g + nI 1 = nI (g + 1) from nI_ad g 1, p1]
        rfl
      | some z =>
        have v1 : u1.1 150 48 = 0 := a2.1
        have v2 : u1.2 150 49 = Int64.ofInt z := a2.2
        have bz := hbv z rfl
        rw [v1, if_pos rfl, v2]
        by_cases hz : z < 0
        · rw [if_neg (show ¬ (0 : Int64) ≤ Int64.ofInt z from fun q => absurd ((ofle (a := 0) (by omega) (by omega) bz.1 bz.2).mp q) (by omega))]
          simp only [Option.bind_some]
          obtain ⟨l', u', p1, p2⟩ := ih 1 (Or.inr rfl)
          refine ⟨l', u', ?_, a3.tr p2⟩
          rw [show nI g + nI 1 = nI (g + 1) from nI_ad g 1, show nI 1 = (1 : Int32) from rfl, p1]
          simp only [if_pos hz]
          rfl
        · rw [if_pos (show (0 : Int64) ≤ Int64.ofInt z from (ofle (a := 0) (by omega) (by omega) bz.1 bz.2).mpr (by omega))]
          simp only [Option.bind_some]
          obtain ⟨l', u', p1, p2⟩ := ih 0 (Or.inl rfl)
          refine ⟨l', u', ?_, a3.tr p2⟩
          rw [show nI g + nI 1 = nI (g + 1) from nI_ad g 1, p1]
          simp only [if_neg hz]
          rfl
    · rw [if_neg (show ¬ ((1 : Int32) = 0) by decide)]
      simp only [Option.bind_some]
      obtain ⟨l', u', p1, p2⟩ := ih 1 (Or.inr rfl)
      refine ⟨l', u', ?_, a3.tr p2⟩
      rw [show nI g + nI 1 = nI (g + 1) from nI_ad g 1, show nI 1 = (1 : Int32) from rfl, p1, if_pos rfl, if_pos rfl]
theorem ev_passd {m n nb b : Nat} {gc : Nat → Nat} {d u : xm_Y} {E : E_} (hm : 10 ≤ m) (rd : rd_ d n nb gc) (hb : b < nb) (hbE : ∀ k, k < 6 → bd_ 1000000000 (E k)) (gx : gx_ d u) (hE : by_ u 170 169 E) : ∃ u', fn_X12_isPassed m (nI b) u = some (if ppd_ d gc E b = true then 1 else 0, u') ∧ rf_ u u' := by
  have h6 := (rd.2.2.2.2.2 b hb).2.1
  obtain ⟨l, u', p1, p2⟩ := passd_lp (m := m) hm rd hb hbE (gc b) 0 m u 0 (Or.inl rfl) (by omega) (by omega) gx hE
  refine ⟨u', ?_, p2⟩
  rw [fn_X12_isPassed, show lp_X12_isPassed_4 m (nI b) m (0 : Int32) (0 : Int32) u = _ from p1, if_neg (show ¬ ((0 : Int32) = 1) by decide)]
  simp only [Option.bind_some]
  unfold ppd_
  rw [ck_t (by split <;> decide)]
theorem half6 {k : Nat} (hk : k < 6) : nI k / (2 : Int32) = nI (k / 2) ∧ nI k - nI k / (2 : Int32) * (2 : Int32) = nI (k % 2) := by
  have : k = 0 ∨ k = 1 ∨ k = 2 ∨ k = 3 ∨ k = 4 ∨ k = 5 := by omega
  rcases this with rfl | rfl | rfl | rfl | rfl | rfl <;> decide
theorem sel_ {β : Type} {p a b : Prop} [Decidable p] [Decidable a] [Decidable b] {fl : Int32} {X Y : Int64} {F : Int64 → Option β} : (Option.bind (if p then (if a then some (0 : Int32) else some 1) else (if b then some (0 : Int32) else some 1)) fun q18 => Option.bind (if fl = 0 then (if q18 = 0 then some X else some Y) else some X) F) = F (if fl = 0 then (if p then (if a then X else Y) else (if b then X else Y)) else X) := by
  have z : ¬ ((1 : Int32) = 0) := by decide
  by_cases hp : p <;> by_cases ha : a <;> by_cases hb : b <;> by_cases hf : fl = 0 <;> simp only [if_pos, if_neg, hp, ha, hb, hf, Option.bind_some, if_true, if_false, z]
/-- next: as by_, the value is known only where it is not open -/
theorem god_lp {m n nb b : Nat} {gc : Nat → Nat} {d : xm_Y} {E NE : E_} (hm : 10 ≤ m) (rd : rd_ d n nb gc) (hb : b < nb) (hbE : ∀ k, k < 6 → bd_ 1000000000 (E k)) (hbN : ∀ k, k < 6 → bd_ 100000000000 (NE k)) : ∀ (r k f : Nat) (u : xm_Y), k + r = 2 * n → r + 1 ≤ f → gx_ d u → by_ u 170 169 E → by_ u 172 171 (pb_ k (rrd_ d E b) NE) → ∃ (l : Int32) (u' : xm_Y), lp_X12_goRound_61 m (nI b) f (nI k) u = some (l, u') ∧ gx_ d u' ∧ by_ u' 170 169 E ∧ by_ u' 172 171 (pb_ (2 * n) (rrd_ d E b) NE)
  | 0, k, f, u, hk, hf, gx, hE, hN => by
    obtain ⟨f', rfl⟩ : ∃ f', f = f' + 1 := ⟨f - 1, by omega⟩
    obtain rfl : k = 2 * n := by omega
    obtain ⟨r1, r2, r3, r4, r5, r6⟩ := id rd
    refine ⟨nI (2 * n), u, ?_, gx, hE, hN⟩
    rw [lp_X12_goRound_61, gx.2.1 0 (by decide), r1, show (2 : Int32) * nI n = nI (2 * n) from nI_mu 2 n, if_pos ((nIle (by omega) (by omega)).mpr (by omega))]
  | r + 1, k, f, u, hk, hf, gx, hE, hN => by
    obtain ⟨f', rfl⟩ : ∃ f', f = f' + 1 := ⟨f - 1, by omega⟩
    obtain ⟨r1, r2, r3, r4, r5, r6⟩ := id rd
    obtain ⟨g1, g2, g3, g4⟩ := r6 b hb
    have k6 : k < 6 := by omega
    obtain ⟨s1, s2, s3⟩ := g4 (k / 2) (by omega)
    obtain ⟨d1, d2⟩ := half6 k6
    have hA : ((3 : Int32) * nI b + nI (k / 2)) * 4 = nI ((3 * b + k / 2) * 4) := by
      rw [show (3 : Int32) = nI 3 from rfl, show (4 : Int32) = nI 4 from rfl, nI_mu, nI_ad, nI_mu]
    have ew : wr_ u 153 ((3 * b + k / 2) * 4) = wr_ d 153 ((3 * b + k / 2) * 4) := by unfold wr_; rw [gx.1 153 (by decide) (by decide) (by decide)]
    have ek : kr_ u 153 ((3 * b + k / 2) * 4) = kr_ d 153 ((3 * b + k / 2) * 4) := by unfold kr_; rw [gx.1 153 (by decide) (by decide) (by decide)]
    obtain ⟨u1, a1, a2, a3⟩ := ev_reach hm 153 60 ((3 * b + k / 2) * 4) (k % 2) n u E (by decide) r2 r3 (Nat.mod_lt _ (by omega)) (by omega) (by decide) ((gx.2.1 0 (by decide)).trans r1) hE (fun i i1 i2 => by rw [ew]; exact (s1 i i2).2.2 i1)
    rw [ew, ek] at a2
    have a2 : va_ u1 (rrd_ d E b k) := a2
    have hbR : bd_ 100000000000 (rrd_ d E b k) := fa_b (fun i hi => ⟨(s1 i hi).1, (s1 i hi).2.1⟩) s2 s3 hbE (Nat.mod_lt _ (by omega))
    have gx1 := gx.r a3
    have hE1 := by_rf a3 (by decide) (by decide) hE
    have hN1 := by_rf a3 (by decide) (by decide) hN
    have hNk := hN1 k k6
    have pk : pb_ k (rrd_ d E b) NE k = NE k := if_neg (by omega)
    rw [pk] at hNk
    have hbk := hbN k k6
    have hin : xm_in (nI k) 6 := nI_xi k6 (by omega)
    rw [lp_X12_goRound_61, gx.2.1 0 (by decide), r1, show (2 : Int32) * nI n = nI (2 * n) from nI_mu 2 n, if_neg (fun q => absurd ((nIle (by omega) (by omega)).mp q) (by omega)), ck_t (by decide), ck_t (by decide), d1, hA]
    rw [d1] at d2
    rw [d2, a1]
    have h20 : ¬ (2 : Int32) = 0 := by decide
    simp only [Option.bind_some, xm_let, ck_t hin, nI_cl (show k < 2 ^ 31 by omega), ck_t h20]
    -- the flag and the value that are written
    have fin : ∀ (q13 : Int32) (val : Int64), (match wd_ (k % 2) (NE k) (rrd_ d E b k) with | none => q13 = 1 | some v => q13 = 0 ∧ val = Int64.ofInt v) → ∃ (l : Int32) (u' : xm_Y), lp_X12_goRound_61 m (nI b) f' (nI k + 1) (w_J (w_I u1 172 k q13) 171 k val) = some (l, u') ∧ gx_ d u' ∧ by_ u' 170 169 E ∧ by_ u' 172 171 (pb_ (2 * n) (rrd_ d E b) NE) := by
      intro q13 val hq
      rw [← nI_succ]
      refine god_lp hm rd hb hbE hbN r (k + 1) f' _ (by omega) (by omega) ((gx1.wI (Or.inr rfl)).wJ (Or.inr rfl)) ?_ ?_
      · intro j hj
        have := hE1 j hj
        have e1 : (w_J (w_I u1 172 k q13) 171 k val).1 170 = u1.1 170 := (show (w_I u1 172 k q13).1 170 = u1.1 170 from rI_nc (by decide))
        have e2 : (w_J (w_I u1 172 k q13) 171 k val).2 169 = u1.2 169 := rJ_nc (by decide)
        rw [e1, e2]; exact this
      · intro j hj
        have hj1 := hN1 j hj
        have e1 : (w_J (w_I u1 172 k q13) 171 k val).1 172 j = if j = k then q13 else u1.1 172 j := by
          by_cases q : j = k
          · rw [if_pos q, q]; exact (show (w_I u1 172 k q13).1 172 k = q13 from rI_eq)
          · rw [if_neg q]; exact (show (w_I u1 172 k q13).1 172 j = u1.1 172 j from rI_ne (by omega))
        have e2 : (w_J (w_I u1 172 k q13) 171 k val).2 171 j = if j = k then val else u1.2 171 j := by
          by_cases q : j = k
          · rw [if_pos q, q]; exact rJ_eq
          · rw [if_neg q]; exact rJ_ne (by omega)
        rw [e1, e2]
        by_cases q : j = k
        · rw [if_pos q, if_pos q]
          have : pb_ (k + 1) (rrd_ d E b) NE j = wd_ (k % 2) (NE k) (rrd_ d E b k) := by
            rw [q]; exact if_pos (by omega)
          rw [this]; exact hq
        · rw [if_neg q, if_neg q]
          have : pb_ (k + 1) (rrd_ d E b) NE j = pb_ k (rrd_ d E b) NE j := by
            unfold pb_
            by_cases z : j < k
            · rw [if_pos z, if_pos (by omega)]
            · rw [if_neg z, if_neg (by omega)]
          rw [this]; exact hj1
    have w171 : ∀ q13 : Int32, (w_I u1 172 k q13).2 171 k = u1.2 171 k := fun _ => rfl
    have w49 : ∀ q13 : Int32, (w_I u1 172 k q13).2 150 49 = u1.2 150 49 := fun _ => rfl
    have w48 : ∀ q13 : Int32, (w_I u1 172 k q13).1 150 48 = u1.1 150 48 := fun _ => rI_ne (by omega)
    cases hNE : NE k with
    | none =>
      rw [hNE] at hNk
      have f1 : u1.1 172 k = 1 := hNk
      rw [f1, if_neg (by decide)]
      simp only [Option.bind_some]
      rw [b_nar (Or.inr rfl)]
      have fin' := fun val => fin 1 val (by rw [hNE]; rfl)
      rw [w171, w49, w48, sel_]
      exact fin' _
    | some x =>
      rw [hNE] at hNk hbk
      have f1 : u1.1 172 k = 0 := hNk.1
      have f2 : u1.2 171 k = Int64.ofInt x := hNk.2
      have bxx := hbk x rfl
      cases hR : rrd_ d E b k with
      | none =>
        rw [hR] at a2
        have v1 : u1.1 150 48 = 1 := a2
        rw [f1, if_pos rfl, v1, if_neg (show ¬ ((1 : Int32) = 0) by decide)]
        simp only [Option.bind_some]
        rw [b_nar (Or.inr rfl)]
        have fin' := fun val => fin 1 val (by rw [hNE, hR]; rfl)
        rw [w171, w49, w48, sel_]
        exact fin' _
      | some y =>
        rw [hR] at a2 hbR
        have v1 : u1.1 150 48 = 0 := a2.1
        have v2 : u1.2 150 49 = Int64.ofInt y := a2.2
        have byy := hbR y rfl
        rw [f1, if_pos rfl, v1, if_pos rfl]
        simp only [Option.bind_some]
        rw [b_nar (Or.inl rfl), w171, w49, w48, v1, v2, f2, sel_]
        have fin' := fun val hv => fin 0 val (show match wd_ (k % 2) (NE k) (rrd_ d E b k) with | none => (0 : Int32) = 1 | some v => (0 : Int32) = 0 ∧ val = Int64.ofInt v from by rw [hNE, hR]; exact ⟨rfl, hv⟩)
        refine fin' _ ?_
        rw [if_pos rfl]
        have hk2 : k % 2 = 0 ∨ k % 2 = 1 := by omega
        rcases hk2 with q | q
        · rw [q, if_pos (show nI 0 = 0 from rfl), if_pos rfl]
          by_cases hxy : x ≤ y
          · rw [if_pos ((ofle bxx.1 bxx.2 byy.1 byy.2).mpr hxy), if_neg (by omega)]
          · rw [if_neg (fun z => hxy ((ofle bxx.1 bxx.2 byy.1 byy.2).mp z)), if_pos (by omega)]
        · rw [q, if_neg (show ¬ nI 1 = 0 by decide), if_neg (show ¬ (1 : Nat) = 0 by decide)]
          by_cases hxy : y ≤ x
          · rw [if_pos ((ofle byy.1 byy.2 bxx.1 bxx.2).mpr hxy), if_neg (by omega)]
          · rw [if_neg (fun z => hxy ((ofle byy.1 byy.2 bxx.1 bxx.2).mp z)), if_pos (by omega)]
