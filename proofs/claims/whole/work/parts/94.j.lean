/-! rows: the sums that are kept; row behind row -/
theorem ev_keep {m k : Nat} (hk : k < 5) (u : xm_Y) : fn_X5_keep m (nI k) u = some ((), cp_I u 141 142 0 (3 * k) 3) := by
  have e : (3 : Int32) * nI k = nI (3 * k) := nI_mu 3 k
  have e2 : Int32.toNatClampNeg (nI (3 * k)) = 3 * k := nI_cl (by omega)
  rw [fn_X5_keep, e, ck_t ⟨by decide, (nIle (a := 0) (by decide) (by omega)).mpr (by omega), by decide, by decide, by rw [e2, show Int32.toNatClampNeg 3 = 3 from rfl]; omega⟩, e2]
  rfl
theorem ev_185 {m k : Nat} (hm : 10 ≤ m) (hk : k < 5) (u : xm_Y) : ∃ l u', lp_X12_rows_185 m (nI k) 1 m (0 : Int32) u = some (l, u') ∧ (∀ q, q ≠ 161 → u'.1 q = u.1 q) ∧ u'.2 = u.2 ∧ (∀ i, i < 3 → u'.1 161 (3 * k + i) = u.1 182 i) ∧ (∀ j, j < 3 * k → u'.1 161 j = u.1 161 j) := by
  obtain ⟨f, rfl⟩ : ∃ f, m = f + 4 := ⟨m - 4, by omega⟩
  have s1 : ∀ (i f' : Nat) (v : xm_Y), i < 3 → lp_X12_rows_185 (f + 4) (nI k) 1 (f' + 1) (nI i) v = lp_X12_rows_185 (f + 4) (nI k) 1 f' (nI (i + 1)) (w_I v 161 (3 * k + i) (v.1 182 i)) := fun i f' v hi => by
    have e : (3 : Int32) * nI k + nI i = nI (3 * k + i) := by rw [show (3 : Int32) = nI 3 from rfl, nI_mu, nI_ad]
    rw [lp_X12_rows_185, if_neg (show ¬ (3 : Int32) ≤ nI i from fun q => absurd ((nIle (a := 3) (by omega) (by omega)).mp q) (by omega)), if_neg (show ¬ (1 : Int32) = 0 by decide), e, ck_t (nI_xi (by omega) (by omega)), ck_t (nI_xi (by omega) (by omega)), nI_cl (by omega), nI_cl (by omega), nI_succ]
    rfl
  have s2 : ∀ (f' : Nat) (v : xm_Y), lp_X12_rows_185 (f + 4) (nI k) 1 (f' + 1) (nI 3) v = some (nI 3, v) := fun f' v => by
    rw [lp_X12_rows_185, if_pos (by decide)]
  refine ⟨nI 3, w_I (w_I (w_I u 161 (3 * k + 0) (u.1 182 0)) 161 (3 * k + 1) (u.1 182 1)) 161 (3 * k + 2) (u.1 182 2), ?_, fun q hq => ?_, ?_, fun i hi => ?_, fun j hj => ?_⟩
  · rw [show (0 : Int32) = nI 0 from rfl, show lp_X12_rows_185 (f + 4) (nI k) 1 (f + 4) (nI 0) u = lp_X12_rows_185 (f + 4) (nI k) 1 (f + 3 + 1) (nI 0) u from rfl, s1 0 _ _ (by omega), s1 1 (f + 2) _ (by omega), s1 2 (f + 1) _ (by omega), s2 f, rI_nc (by decide), rI_nc (by decide), rI_nc (by decide)]
  · rw [rI_nc hq, rI_nc hq, rI_nc hq]
  · rfl
  · have : i = 0 ∨ i = 1 ∨ i = 2 := by omega
    rcases this with rfl | rfl | rfl
    · rw [rI_ne (by omega), rI_ne (by omega), rI_eq]
    · rw [rI_ne (by omega), rI_eq]
    · rw [rI_eq]
  · rw [rI_ne (by omega), rI_ne (by omega), rI_ne (by omega)]
def scw_ (c u : xm_Y) : Prop := (∀ q, q ≠ 140 → q ≠ 141 → q ≠ 142 → q ≠ 143 → u.1 q = c.1 q) ∧ ∀ q, (∀ b, b < 5 → q ≠ 8 + 24 * b) → u.2 q = c.2 q
def sew_ (c u : xm_Y) : Prop := (∀ q, q ≠ 150 → q ≠ 182 → q ≠ 161 → q ≠ 163 → q ≠ 164 → u.1 q = c.1 q) ∧ (∀ e, e ≠ 11 → e ≠ 16 → e ≠ 17 → u.1 150 e = c.1 150 e) ∧ (∀ q, q ≠ 150 → q ≠ 159 → q ≠ 181 → u.2 q = c.2 q)
theorem scw_.v {c u v : xm_Y} (h : scw_ c u) (g : vf_ u v) : scw_ c v := ⟨fun q a b e f => (g.1 q a b).trans (h.1 q a b e f), fun q a => (g.2 q a).trans (h.2 q a)⟩
theorem scw_.r {c u v : xm_Y} (h : scw_ c u) (g : rc_ u v) : scw_ c v := ⟨fun q a b e f => (g.1 q f).trans (h.1 q a b e f), fun q a => (g.2 q a).trans (h.2 q a)⟩
theorem scw_.c {c u : xm_Y} (h : scw_ c u) {k : Nat} : scw_ c (cp_I u 141 142 0 k 3) := ⟨fun q a b e f => (cp_nc e).trans (h.1 q a b e f), h.2⟩
theorem sew_.v {c u v : xm_Y} (h : sew_ c u) (g : dfr_ u v) : sew_ c v := ⟨fun q a b e f i => (g.1 q a b).trans (h.1 q a b e f i), fun e x y z => (g.2.1 e x y z).trans (h.2.1 e x y z), fun q a b e => (g.2.2 q a b e).trans (h.2.2 q a b e)⟩
theorem sew_.r {c u v : xm_Y} (h : sew_ c u) (g : re_ u v) : sew_ c v := ⟨fun q a b e f i => (g.1 q a f i).trans (h.1 q a b e f i), fun e x y z => (g.2.1 e x y z).trans (h.2.1 e x y z), fun q a b e => (g.2.2 q a b e).trans (h.2.2 q a b e)⟩
theorem sew_.c {c u v : xm_Y} (h : sew_ c u) (g1 : ∀ q, q ≠ 161 → v.1 q = u.1 q) (g2 : v.2 = u.2) : sew_ c v := ⟨fun q a b e f i => (g1 q e).trans (h.1 q a b e f i), fun e x y z => by rw [g1 150 (by decide)]; exact h.2.1 e x y z, fun q a b e => by rw [g2]; exact h.2.2 q a b e⟩
/-- how far both are -/
def rzw_ (c d : xm_Y) (nb k : Nat) (L : Nat → Bool) (u e : xm_Y) : Prop := scw_ c u ∧ sew_ d e ∧ (∀ b, b < nb → (u.1 143 b = -1 ↔ L b = true) ∧ (e.1 164 b = 0 ↔ L b = false)) ∧ (∀ j, j < 5 → u.1 143 j = e.1 163 j) ∧ (∀ j, nb ≤ j → j < 5 → e.1 163 j = -1) ∧ (∀ j, j < 3 * k → u.1 142 j = e.1 161 j) ∧ (k = 0 → u.1 142 = c.1 142 ∧ e.1 161 = d.1 161)
theorem rows_lp {m : Nat} (hm : 3100 ≤ m) {c d : xm_Y} {n nb : Nat} {gc : Nat → Nat} {E : E_} (ct : CT_ c d n nb gc E) (hn : c.1 1 1 = nI n) {s : Nat} (h1 : 1 ≤ s) (h5 : s ≤ 5) : ∀ (r k f g z : Nat) (L : Nat → Bool) (u e : xm_Y), cnL_ L nb = z → z ≤ r → z + k ≤ 5 → r + 2 ≤ f → r + 2 ≤ g → rzw_ c d nb k L u e → ∃ (z' k' : Nat) (l : Int32) (L' : Nat → Bool) (u' e' : xm_Y), lp_X5_seekRows_16 m (nI s) f (nI z) (nI k) u = some (nI z', nI k', u') ∧ lp_X12_rows_58 m (nI s) g (nI z) (nI k) 1 e = some (nI z', nI k', l, e') ∧ z' ≤ 5 ∧ k' ≤ 5 ∧ rzw_ c d nb k' L' u' e'
  | r, k, f, g, 0, L, u, e, hz, hr, h, hf, hg, st => by
    obtain ⟨f', rfl⟩ : ∃ f', f = f' + 1 := ⟨f - 1, by omega⟩
    obtain ⟨g', rfl⟩ : ∃ g', g = g' + 1 := ⟨g - 1, by omega⟩
    refine ⟨0, k, 1, L, u, e, ?_, ?_, by omega, by omega, st⟩
    · rw [lp_X5_seekRows_16, if_pos (by decide)]
    · rw [lp_X12_rows_58, if_pos (by decide)]
  | 0, k, f, g, z + 1, L, u, e, hz, hr, h, hf, hg, st => by omega
  | r + 1, k, f, g, z + 1, L, u, e, hz, hr, h, hf, hg, st => by
    obtain ⟨f', rfl⟩ : ∃ f', f = f' + 1 := ⟨f - 1, by omega⟩
    obtain ⟨g', rfl⟩ : ∃ g', g = g' + 1 := ⟨g - 1, by omega⟩
    have n1 := ct.2.2.2.1
    have n3 := ct.2.2.2.2.1
    obtain ⟨y0, o1, o2, o3⟩ := okf_s (okf_all (s := s) (n := n) (by omega) (by omega) n1 n3)
    have ctu : CT_ u d n nb gc E := CT_k ct (fun q hq => st.1.1 q (by omega) (by omega) (by omega) (by omega)) (fun b hb => st.1.2 _ (fun b' _ => by omega))
    have en : e.1 150 0 = nI n := (st.2.1.2.1 0 (by decide) (by decide) (by decide)).trans ct.2.2.2.2.2.1
    obtain ⟨u0, u1, t1, t2, t3, t4, t5⟩ := ev_startC (u := u) hm h1 h5 n1 n3 o1
    obtain ⟨d1, r1, r2, r3, r4⟩ := ev_firstR (u := e) (s := s) hm (by omega) (by omega) n1 n3 en o2
    have ee1 : ∀ q, q ≠ 150 → q ≠ 182 → q ≠ 160 → q ≠ 161 → q ≠ 162 → q ≠ 163 → q ≠ 164 → e.1 q = d.1 q := fun q a b _ a4 _ a6 a7 => st.2.1.1 q a b a4 a6 a7
    have ee2 : e.1 150 0 = d.1 150 0 := st.2.1.2.1 0 (by decide) (by decide) (by decide)
    have ee3 : e.1 150 1 = d.1 150 1 := st.2.1.2.1 1 (by decide) (by decide) (by decide)
    have ee4 : e.2 155 = d.2 155 := st.2.1.2.2 155 (by decide) (by decide) (by decide)
    have W := rowk_lp hm ctu (d0 := e) ee1 ee2 ee3 ee4 (L := L) (fun b hb => (st.2.2.1 b hb).1) (fun b hb => (st.2.2.1 b hb).2) (s := s) (by omega) (by omega) 1400 m m 0 u0 u1 d1 y0 o3 (by omega) (by omega) (by omega) t3 (xf_v t4) (t5 y0 rfl) (yf_d r2) r3
    have eC : ∀ x v, aC_ m m 0 u0 = some (x, v) → fn_X5_seekRow m (nI s) u = some (x, v) := fun x v q => by
      rw [fn_X5_seekRow, show u.1 1 1 = nI n by rw [st.1.1 1 (by decide) (by decide) (by decide) (by decide)]; exact hn, t1]
      exact q
    rw [lp_X5_seekRows_16, if_neg (show ¬ nI (z + 1) ≤ 0 from fun q => absurd ((nIle (b := 0) (by omega) (by omega)).mp q) (by omega)), if_neg (show ¬ (5 : Int32) ≤ nI k from fun q => absurd ((nIle (a := 5) (by omega) (by omega)).mp q) (by omega))]
    rw [lp_X12_rows_58, if_neg (show ¬ nI (z + 1) ≤ 0 from fun q => absurd ((nIle (b := 0) (by omega) (by omega)).mp q) (by omega)), if_neg (show ¬ (1 : Int32) = 0 by decide), show fn_X12_firstSum m (nI s) e = _ from r1]
    simp only [Option.bind_some]
    rcases W with ⟨u', d', z1, z2, z3, z4⟩ | ⟨y, u', d', z1, z2, z3, z4, z5, z6, z7, z8⟩
    · rw [eC 0 u' z1, show lp_X12_rows_75 m (nI s) m 1 d1 = _ from z3]
      simp only [Option.bind_some]
      obtain ⟨m', rfl⟩ : ∃ m', m = m' + 1 := ⟨m - 1, by omega⟩
      obtain ⟨g'', rfl⟩ : ∃ g'', g' = g'' + 1 := ⟨g' - 1, by omega⟩
      refine ⟨z + 1, k, 0, L, u', d', by rw [if_pos trivial], ?_, by omega, by omega, st.1.v z2, st.2.1.v z4, fun b hb => ?_, fun j hj => ?_, fun j hj h5 => ?_, fun j hj => ?_, fun hk => ?_⟩
      · have p1 : ∃ l, lp_X12_rows_104 (m' + 1) (nI k) 0 (m' + 1) (nI (z + 1)) 0 d' = some (nI (z + 1), l, d') := by
          rw [lp_X12_rows_104]
          by_cases q : d'.1 150 1 ≤ 0
          · rw [if_pos q]; exact ⟨_, rfl⟩
          · rw [if_neg q, if_pos rfl]; exact ⟨_, rfl⟩
        obtain ⟨l, p1⟩ := p1
        rw [p1]
        simp only [Option.bind_some]
        rw [lp_X12_rows_185, if_neg (show ¬ (3 : Int32) ≤ 0 by decide), if_pos rfl]
        simp only [Option.bind_some, xm_let]
        rw [if_pos trivial]
        simp only [Option.bind_some]
        rw [lp_X12_rows_58, if_neg (show ¬ nI (z + 1) ≤ 0 from fun q => absurd ((nIle (b := 0) (by omega) (by omega)).mp q) (by omega)), if_pos rfl, show nI k + 0 = nI k from nI_ad k 0]
      · rw [z2.1 143 (by decide) (by decide), z4.1 164 (by decide) (by decide)]; exact st.2.2.1 b hb
      · rw [z2.1 143 (by decide) (by decide), z4.1 163 (by decide) (by decide)]; exact st.2.2.2.1 j hj
      · rw [z4.1 163 (by decide) (by decide)]; exact st.2.2.2.2.1 j hj h5
      · rw [z2.1 142 (by decide) (by decide), z4.1 161 (by decide) (by decide)]; exact st.2.2.2.2.2.1 j hj
      · rw [z2.1 142 (by decide) (by decide), z4.1 161 (by decide) (by decide)]; exact st.2.2.2.2.2.2 hk
    · rw [eC 1 u' z1, show lp_X12_rows_75 m (nI s) m 1 d1 = _ from z3]
      simp only [Option.bind_some]
      rw [if_neg (show ¬ (1 : Int32) = 0 by decide), ev_keep (by omega)]
      simp only [Option.bind_some]
      obtain ⟨rb, rn, xb⟩ := cub_R (s := s) (by omega) (by omega) n1 z7
      have ctk : CT_ (cp_I u' 141 142 0 (3 * k) 3) d n nb gc E := CT_k (CT_v ctu z2) (fun q hq => cp_nc (by omega)) (fun b hb => rfl)
      have trk : tri_ (cp_I u' 141 142 0 (3 * k) 3) 141 y := by unfold tri_; rw [cp_nc (by decide)]; exact z5
      have b5 := ct.2.2.1
      have hL1 : ∀ b, b < nb → ((cp_I u' 141 142 0 (3 * k) 3).1 143 b = -1 ↔ L b = true) := fun b hb => by rw [cp_nc (by decide), z2.1 143 (by decide) (by decide)]; exact (st.2.2.1 b hb).1
      have hL2 : ∀ b, b < nb → (d'.1 164 b = 0 ↔ L b = false) := fun b hb => by rw [z4.1 164 (by decide) (by decide)]; exact (st.2.2.1 b hb).2
      obtain ⟨a', x', u2, e2, l, l', q1, q2, q3, q4, q5⟩ := rel_lp (m := m) (by omega) ctk (d0 := d') rb rn xb trk (fun q a b a3 a4 a5 a6 a7 => (z4.1 q a b).trans (ee1 q a b a3 a4 a5 a6 a7)) ((z4.2.1 0 (by decide) (by decide) (by decide)).trans ee2) ((z4.2.1 1 (by decide) (by decide) (by decide)).trans ee3) ((z4.2.2 155 (by decide) (by decide) (by decide)).trans ee4) z6 hL1 hL2 (k := k) (by omega) nb 0 m m 0 (z + 1) (cp_I u' 141 142 0 (3 * k) 3) d' (by omega) (by omega) (by omega) ⟨⟨fun _ _ => rfl, fun _ _ => rfl⟩, ⟨fun _ _ _ _ => rfl, fun _ _ _ _ => rfl, fun _ _ _ _ => rfl⟩, fun j _ => ⟨rfl, rfl⟩, fun j hj => by omega, fun j hj => by rw [cp_nc (by decide), z2.1 143 (by decide) (by decide), z4.1 163 (by decide) (by decide)]; exact st.2.2.2.1 j hj, fun j _ => rfl⟩ rfl (by omega)
      obtain ⟨l3, e3, w1, w2, w3, w4, w5⟩ := ev_185 (m := m) (k := k) (by omega) (by omega) e2
      have rel : fn_X5_release m (nI k) (cp_I u' 141 142 0 (3 * k) 3) = some (nI a', u2) := by
        rw [fn_X5_release, show lp_X5_release_5 m (nI k) m 0 0 (cp_I u' 141 142 0 (3 * k) 3) = _ from q1]; rfl
      rw [rel, show lp_X12_rows_104 m (nI k) 1 m (nI (z + 1)) 0 d' = _ from q2]
      simp only [Option.bind_some, xm_let]
      rw [w1]
      simp only [Option.bind_some]
      rw [if_neg (show ¬ (1 : Int32) = 0 by decide)]
      simp only [Option.bind_some]
      have x5 : nI (z + 1) - nI a' = nI x' := by rw [nI_sb (by omega) (by omega)]; congr 1; omega
      rw [x5, ← nI_succ]
      obtain ⟨b0, b1, b2, b3⟩ := z8.2
      have cl : cnL_ (lq_ d n gc E (sR_ y) L) nb < cnL_ L nb := cnL_lt (L := L) (L' := lq_ d n gc E (sR_ y) L) (fun b h => lq_s b h) b1 b2 (lq_t b3)
      refine rows_lp hm ct hn h1 h5 r (k + 1) f' g' x' (lq_ d n gc E (sR_ y) L) u2 e3 (by omega) (by omega) (by omega) (by omega) (by omega) ⟨((st.1.v z2).c).r q3.1, ((st.2.1.v z4).r q3.2.1).c w2 w3, fun b hb => ?_, fun j hj => ?_, fun j hj h5 => ?_, fun j hj => ?_, fun hk => by omega⟩
      · rw [w2 164 (by decide)]; exact q3.2.2.2.1 b hb
      · rw [w2 163 (by decide)]; exact q3.2.2.2.2.1 j hj
      · rw [w2 163 (by decide), q3.2.2.2.2.2 j hj, z4.1 163 (by decide) (by decide)]; exact st.2.2.2.2.1 j hj h5
      · rw [q3.1.1 142 (by decide)]
        by_cases q : j < 3 * k
        · rw [cp_lo q, w5 j q, z2.1 142 (by decide) (by decide), q3.2.1.1 161 (by decide) (by decide) (by decide), z4.1 161 (by decide) (by decide)]
          exact st.2.2.2.2.2.1 j q
        · obtain ⟨i, rfl⟩ : ∃ i, j = 3 * k + i := ⟨j - 3 * k, by omega⟩
          rw [cp_at (by omega), w4 i (by omega), q3.2.1.1 182 (by decide) (by decide) (by decide)]
          have : i = 0 ∨ i = 1 ∨ i = 2 := by omega
          rcases this with rfl | rfl | rfl
          · exact z5.1.trans z6.1.symm
          · exact z5.2.1.trans z6.2.1.symm
          · exact z5.2.2.trans z6.2.2.symm
