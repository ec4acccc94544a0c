def cfr_ (c c' : xm_Y) : Prop := (∀ q, q ≠ 136 → q ≠ 145 → q ≠ 140 → q ≠ 141 → (∀ b, b < 5 → q ≠ 6 + 24 * b) → c'.1 q = c.1 q) ∧ (∀ q, q ≠ 137 → q ≠ 138 → (∀ b, b < 5 → q ≠ 7 + 24 * b ∧ q ≠ 8 + 24 * b) → c'.2 q = c.2 q)
theorem cfr_.rf (c : xm_Y) : cfr_ c c := ⟨fun _ _ _ _ _ _ => rfl, fun _ _ _ _ => rfl⟩
theorem cfr_.tr {x y z : xm_Y} (h : cfr_ x y) (g : cfr_ y z) : cfr_ x z := ⟨fun q a b c d e => (g.1 q a b c d e).trans (h.1 q a b c d e), fun q a b c => (g.2 q a b c).trans (h.2 q a b c)⟩
theorem lf_c {x y : xm_Y} (h : lf_ x y) : cfr_ x y := ⟨fun q a _ _ _ e => h.1 q a e, fun q a b c => h.2 q a b (fun b hb => (c b hb).1)⟩
theorem qf_c {x y : xm_Y} (h : qf_ x y) : cfr_ x y := ⟨fun q _ _ _ _ _ => by rw [h.1], fun q _ _ c => h.2 q (fun b hb => (c b hb).2)⟩
theorem cfr_.w {x y : xm_Y} (h : cfr_ x y) {k j : Nat} {v : Int32} (hk : k = 145 ∨ k = 140 ∨ k = 141) : cfr_ x (w_I y k j v) := ⟨fun q a b c d e => (rI_nc (by omega)).trans (h.1 q a b c d e), h.2⟩
theorem cfr_md {x y : xm_Y} (h : cfr_ x y) : md_ x y := fun k hk => ⟨h.1 k (by omega) (by omega) (by omega) (by omega) (fun b _ => by omega), h.2 k (by omega) (by omega) (fun b _ => by omega)⟩
def dfr_ (d d' : xm_Y) : Prop := (∀ q, q ≠ 150 → q ≠ 182 → d'.1 q = d.1 q) ∧ (∀ e, e ≠ 11 → e ≠ 16 → e ≠ 17 → d'.1 150 e = d.1 150 e) ∧ (∀ q, q ≠ 150 → q ≠ 159 → q ≠ 181 → d'.2 q = d.2 q)
theorem dfr_.rf (c : xm_Y) : dfr_ c c := ⟨fun _ _ _ => rfl, fun _ _ _ _ => rfl, fun _ _ _ _ => rfl⟩
theorem dfr_.tr {a b c : xm_Y} (h : dfr_ a b) (g : dfr_ b c) : dfr_ a c := ⟨fun q hq h2 => (g.1 q hq h2).trans (h.1 q hq h2), fun e h1 h2 h3 => (g.2.1 e h1 h2 h3).trans (h.2.1 e h1 h2 h3), fun q h1 h2 h3 => (g.2.2 q h1 h2 h3).trans (h.2.2 q h1 h2 h3)⟩
theorem tf2_d {a b : xm_Y} (h : tf2_ a b) : dfr_ a b := ⟨fun q hq _ => h.1 q hq, h.2.1, h.2.2⟩
theorem dfr_cl {x y : xm_Y} (h : dfr_ x y) : cl_ x y := fun k hk => ⟨h.1 k (by omega) (by omega), h.2.2 k (by omega) (by omega) (by omega)⟩
/-- the invariant stays while places are learnt and asked -/
theorem iv_l {FL : xm_Y → xm_Y → Prop} (pf : pf_ PL_ FL) {c c' d d' : xm_Y} {n nb : Nat} {gc : Nat → Nat} (h1 : iv_1 c d n nb) (h2 : iv_2 c d n nb gc) (h3 : iv_3 c d n) (h4 : iv_4 c d n) (h5 : iv_5 c d n) (h6 : iv_6 c d) (h7 : iv_7 c d nb) (h8 : iv_8 PL_ FL c d nb) (h9 : iv_9 c d) (h10 : iv_10 c d) (cf : cfr_ c c') (df : dfr_ d d') (hp : ∀ b, b < 5 → c'.1 (6 + 24 * b) 3 = 0 ∨ (c'.1 (6 + 24 * b) 3 = 1 ∧ b < nb ∧ PL_ c' b)) : iv_1 c' d' n nb ∧ iv_2 c' d' n nb gc ∧ iv_3 c' d' n ∧ iv_4 c' d' n ∧ iv_5 c' d' n ∧ iv_6 c' d' ∧ iv_7 c' d' nb ∧ iv_8 PL_ FL c' d' nb ∧ iv_9 c' d' ∧ iv_10 c' d' := by
  obtain ⟨a1, a2, a3, a4, a5, a6, a7⟩ := id h1
  have k1 : ∀ q, q ≠ 136 → q ≠ 145 → q ≠ 140 → q ≠ 141 → (∀ b, b < 5 → q ≠ 6 + 24 * b) → c'.1 q = c.1 q := cf.1
  have g1 : ∀ q, 123 ≤ q → q ≠ 136 → q ≠ 145 → q ≠ 140 → q ≠ 141 → q ≠ 102 → c'.1 q = c.1 q := fun q h a b e f _ => cf.1 q a b e f (fun b hb => by omega)
  have g2 : ∀ q, 123 ≤ q → q ≠ 137 → q ≠ 138 → c'.2 q = c.2 q := fun q h a b => cf.2 q a b (fun b hb => by omega)
  have x1 : ∀ q, 151 ≤ q → q ≠ 182 → d'.1 q = d.1 q := fun q h a => df.1 q (by omega) a
  have x0 : ∀ e, e ≠ 11 → e ≠ 16 → e ≠ 17 → d'.1 150 e = d.1 150 e := df.2.1
  have x2 : ∀ q, 151 ≤ q → q ≠ 159 → q ≠ 181 → d'.2 q = d.2 q := fun q h a b => df.2.2 q (by omega) a b
  refine ⟨?_, ?_, ?_, ?_, ?_, ?_, ?_, ⟨?_, hp⟩, ?_, ?_⟩
  · unfold iv_1; rw [k1 1 (by omega) (by omega) (by omega) (by omega) (fun b _ => by omega), x0 0 (by decide) (by decide) (by decide), x0 1 (by decide) (by decide) (by decide)]; exact h1
  · intro b hb
    obtain ⟨y1, y2, y3, y4, y5, y6⟩ := h2 b hb
    rw [x1 151 (by decide) (by decide), x1 152 (by decide) (by decide), x1 153 (by decide) (by decide)]
    refine ⟨?_, y2, y3, fun g hg => ?_, fun i hi => ?_, fun i hi hi3 => ?_⟩
    · rw [k1 _ (by omega) (by omega) (by omega) (by omega) (fun b' _ => by omega)]; exact y1
    · rw [k1 (9 + 24 * b + 2 * g + 1) (by omega) (by omega) (by omega) (by omega) (fun b' _ => by omega), k1 (9 + 24 * b + 2 * g) (by omega) (by omega) (by omega) (by omega) (fun b' _ => by omega)]; exact y4 g hg
    · rw [k1 (21 + 24 * b + 2 * i + 1) (by omega) (by omega) (by omega) (by omega) (fun b' _ => by omega), k1 (21 + 24 * b + 2 * i) (by omega) (by omega) (by omega) (by omega) (fun b' _ => by omega)]; exact y5 i hi
    · rw [k1 (21 + 24 * b + 2 * i + 1) (by omega) (by omega) (by omega) (by omega) (fun b' _ => by omega), k1 (21 + 24 * b + 2 * i) (by omega) (by omega) (by omega) (by omega) (fun b' _ => by omega)]; exact y6 i hi hi3
  · unfold iv_3; rw [g2 123 (by decide) (by decide) (by decide), x2 154 (by decide) (by decide) (by decide)]; exact h3
  · unfold iv_4; rw [g2 130 (by decide) (by decide) (by decide), x2 157 (by decide) (by decide) (by decide), x1 158 (by decide) (by decide)]; exact h4
  · unfold iv_5; rw [g2 128 (by decide) (by decide) (by decide), x2 155 (by decide) (by decide) (by decide), x1 156 (by decide) (by decide)]; exact h5
  · unfold iv_6; rw [g1 124 (by decide) (by decide) (by decide) (by decide) (by decide) (by decide), x0 26 (by decide) (by decide) (by decide)]; exact h6
  · unfold iv_7; rw [g1 139 (by decide) (by decide) (by decide) (by decide) (by decide) (by decide), g1 142 (by decide) (by decide) (by decide) (by decide) (by decide) (by decide), g1 143 (by decide) (by decide) (by decide) (by decide) (by decide) (by decide), x0 19 (by decide) (by decide) (by decide), x1 161 (by decide) (by decide), x1 163 (by decide) (by decide)]; exact h7
  · rw [g1 139 (by decide) (by decide) (by decide) (by decide) (by decide) (by decide), g1 144 (by decide) (by decide) (by decide) (by decide) (by decide) (by decide), x0 21 (by decide) (by decide) (by decide), x1 162 (by decide) (by decide)]
    rcases h8.1 with q | ⟨q1, q2, q3, q4⟩
    · exact Or.inl q
    · exact Or.inr ⟨q1, q2, q3, pf.2 c c' d d' (by rw [g2 139 (by decide) (by decide) (by decide)]) (x0 0 (by decide) (by decide) (by decide)) (x0 1 (by decide) (by decide) (by decide)) (x1 151 (by decide) (by decide)) (x1 152 (by decide) (by decide)) (x1 156 (by decide) (by decide)) (x2 155 (by decide) (by decide) (by decide)) (x1 162 (by decide) (by decide)) q4⟩
  · unfold iv_9; rw [g1 146 (by decide) (by decide) (by decide) (by decide) (by decide) (by decide), g2 147 (by decide) (by decide) (by decide), x0 36 (by decide) (by decide) (by decide), x1 173 (by decide) (by decide), x1 174 (by decide) (by decide), x1 175 (by decide) (by decide)]; exact h9
  · unfold iv_10; rw [g1 146 (by decide) (by decide) (by decide) (by decide) (by decide) (by decide), x0 40 (by decide) (by decide) (by decide), x0 42 (by decide) (by decide) (by decide), x0 43 (by decide) (by decide) (by decide)]; exact h10
theorem PL_q {c u : xm_Y} {b : Nat} (hb : b < 5) (h : PL_ c b) (cf : ∀ q, q < 123 → u.1 q = c.1 q) (h7 : u.2 (7 + 24 * b) = c.2 (7 + 24 * b)) (h128 : u.2 128 = c.2 128) : PL_ u b := PL_c (cf _ (by omega)) (cf _ (by omega)) (fun k _ _ => cf k (by omega)) h7 h128 h
/-- learning, from a memory like the invariant's -/
theorem ev_learn {FL : xm_Y → xm_Y → Prop} {m : Nat} (hm : 300 ≤ m) {c c1 d : xm_Y} {n nb : Nat} {gc : Nat → Nat} (h1 : iv_1 c d n nb) (h2 : iv_2 c d n nb gc) (h5 : iv_5 c d n) (h8 : iv_8 PL_ FL c d nb) (cf : ∀ q, q ≠ 145 → c1.1 q = c.1 q) (cs : c1.2 = c.2) : ∃ u, fn_X11_learnPlaces m c1 = some ((), u) ∧ lf_ c1 u ∧ CT_ u d n nb gc (eb_ c) ∧ (∀ b, b < 5 → u.1 (6 + 24 * b) 3 = 0 ∨ (u.1 (6 + 24 * b) 3 = 1 ∧ b < nb ∧ PL_ u b)) := by
  obtain ⟨a1, a2, a3, a4, a5, a6, a7⟩ := id h1
  obtain ⟨e1, e2, e3, e4⟩ := eb_v h5 a4
  have gcl : ∀ b g, gp_ c1 b g = gp_ c b g ∨ 5 ≤ b ∨ 6 ≤ g := fun b g => by
    by_cases hb : b < 5
    · by_cases hg : g < 6
      · left
        unfold gp_ wc_ kc_
        rw [cf _ (by omega), cf _ (by omega)]
      · exact Or.inr (Or.inr (by omega))
    · exact Or.inr (Or.inl (by omega))
  have cb : ∀ b, b < nb → cb_ c1 b (gc b) := fun b hb => by
    obtain ⟨y1, y2, y3, -⟩ := h2 b hb
    refine ⟨by rw [cf _ (by omega)]; exact y1, y3, fun g hg => ?_⟩
    rcases gcl b g with e | e | e
    · rw [e, ((row_g h2 hb).1 g hg).1]
      obtain ⟨r1, r2, r3, r4⟩ := ((row_g h2 hb).1 g hg).2.1
      exact ⟨r1, r2, r3, nb_w r4 (by decide)⟩
    · omega
    · omega
  have bx1 : bx_ c1 128 (eb_ c) := fun k hk => by rw [cs]; exact e1 k hk
  have pl1 : ∀ b, b < 5 → c1.1 (6 + 24 * b) 3 = 0 ∨ (c1.1 (6 + 24 * b) 3 = 1 ∧ b < nb ∧ PL_ c1 b) := fun b hb => by
    rw [cf _ (by omega)]
    rcases h8.2 b hb with w | ⟨w1, w2, w3⟩
    · exact Or.inl w
    · exact Or.inr ⟨w1, w2, PL_q hb w3 (fun q hq => cf q (by omega)) (by rw [cs]) (by rw [cs])⟩
  obtain ⟨l, u, p1, p2, p3, p4⟩ := learn_lp (m := m) (E := eb_ c) hm ((cf 1 (by decide) ▸ a5 : c1.1 1 2 = nI nb)) a7 cb bx1 e2 nb 0 m c1 (by omega) (by omega) (lf_.rf c1) (fun b hb => by omega) (fun b _ hb => pl1 b hb)
  have cu : ∀ q, q ≠ 145 → q ≠ 136 → (∀ b, b < 5 → q ≠ 6 + 24 * b) → u.1 q = c.1 q := fun q x y z => (p2.1 q y z).trans (cf q x)
  have i2u : iv_2 u d n nb gc := by
    intro b hb
    obtain ⟨y1, y2, y3, y4, y5, y6⟩ := h2 b hb
    refine ⟨?_, y2, y3, fun g hg => ?_, fun i hi => ?_, fun i hi hi3 => ?_⟩
    · rw [cu _ (by omega) (by omega) (fun b' _ => by omega)]; exact y1
    · rw [cu (9 + 24 * b + 2 * g + 1) (by omega) (by omega) (fun b' _ => by omega), cu (9 + 24 * b + 2 * g) (by omega) (by omega) (fun b' _ => by omega)]; exact y4 g hg
    · rw [cu (21 + 24 * b + 2 * i + 1) (by omega) (by omega) (fun b' _ => by omega), cu (21 + 24 * b + 2 * i) (by omega) (by omega) (fun b' _ => by omega)]; exact y5 i hi
    · rw [cu (21 + 24 * b + 2 * i + 1) (by omega) (by omega) (fun b' _ => by omega), cu (21 + 24 * b + 2 * i) (by omega) (by omega) (fun b' _ => by omega)]; exact y6 i hi hi3
  refine ⟨u, ?_, p2, ⟨i2u, ?_, a7, a3, a4, a2, a6, e3, e2, e4, fun b hb => ?_⟩, fun b hb => ?_⟩
  · rw [fn_X11_learnPlaces, show lp_X11_learnPlaces_2 m m (0 : Int32) c1 = _ from p1]; rfl
  · rw [cu 1 (by decide) (by decide) (fun b _ => by omega)]; exact a5
  · exact PL_E (p3 b hb).2 ((i2u b hb).1) ((i2u b hb).2.2.1) (fun k hk => by rw [p2.2 128 (by decide) (by decide) (fun b' _ => by omega)]; exact bx1 k hk) e2
  · by_cases q : b < nb
    · exact Or.inr ⟨(p3 b q).1, q, (p3 b q).2⟩
    · exact p4 b (by omega) hb
theorem drk_lp {m : Nat} (hm : 300 ≤ m) {c d : xm_Y} {n nb : Nat} {gc : Nat → Nat} {E : E_} (ct : CT_ c d n nb gc E) {R : V4_} (rb : rb3_ R) {x1 x2 x3 : Int32} (r1 : x1.toInt = R.1) (r2 : x2.toInt = R.2.1) (r3 : x3.toInt = R.2.2.1) {d0 : xm_Y} (hd : ∀ q, q ≠ 150 → q ≠ 182 → q ≠ 160 → q ≠ 161 → q ≠ 162 → q ≠ 163 → q ≠ 164 → d0.1 q = d.1 q) (h0 : d0.1 150 0 = d.1 150 0) (h1 : d0.1 150 1 = d.1 150 1) (h155 : d0.2 155 = d.2 155) : ∀ (r b f : Nat) (u : xm_Y), b + r = nb → r + 1 ≤ f → tf2_ d0 u → ∃ (x l : Int32) (u' : xm_Y), lp_X12_doesRank_6 m x1 x2 x3 f 1 (nI b) u = some (x, l, u') ∧ tf2_ d0 u' ∧ (x = 0 ∨ x = 1) ∧ (x = 1 ↔ ∀ b', b ≤ b' → b' < nb → rkk_ d n gc E b' R)
  | 0, b, f, u, hb, hf, tf => by
    obtain ⟨f', rfl⟩ : ∃ f', f = f' + 1 := ⟨f - 1, by omega⟩
    have b5 := ct.2.2.1
    have e1 : u.1 150 1 = nI nb := (tf.2.1 1 (by decide) (by decide) (by decide)).trans (h1.trans ct.2.2.2.2.2.2.1)
    exact ⟨1, nI b, u, by rw [lp_X12_doesRank_6, e1, if_pos ((nIle (by omega) (by omega)).mpr (by omega))], tf, Or.inr rfl, fun _ b' z1 z2 => by omega, fun _ => rfl⟩
  | r + 1, b, f, u, hb, hf, tf => by
    obtain ⟨f', rfl⟩ : ∃ f', f = f' + 1 := ⟨f - 1, by omega⟩
    have b5 := ct.2.2.1
    have e1 : u.1 150 1 = nI nb := (tf.2.1 1 (by decide) (by decide) (by decide)).trans (h1.trans ct.2.2.2.2.2.2.1)
    obtain ⟨t, u1, a1, a2, a3, a4⟩ := dq_ hm ct (b := b) (by omega) rb r1 r2 r3 (d' := u) (fun q z1 z2 z3 z4 z5 z6 z7 => (tf.1 q z1).trans (hd q z1 z2 z3 z4 z5 z6 z7)) ((tf.2.1 0 (by decide) (by decide) (by decide)).trans h0) ((tf.2.2 155 (by decide) (by decide) (by decide)).trans h155)
    have key : rkk_ d n gc E b R ↔ 6 ≤ t := ⟨fun ⟨t', x, y⟩ => by rw [trl_u a4 y]; exact x, fun w => ⟨t, w, a4⟩⟩
    rw [lp_X12_doesRank_6, e1, if_neg (fun q => absurd ((nIle (by omega) (by omega)).mp q) (by omega)), if_neg (by decide), a1]
    simp only [Option.bind_some, xm_let]
    by_cases q : 6 ≤ t
    · rw [if_neg (show ¬ nI t < 6 from fun z => absurd ((nIlt (b := 6) (by omega) (by omega)).mp z) (by omega))]
      simp only [Option.bind_some]
      obtain ⟨x, l, u', p1, p2, p3, p4⟩ := drk_lp hm ct rb r1 r2 r3 hd h0 h1 h155 r (b + 1) f' u1 (by omega) (by omega) (tf.tr a3)
      refine ⟨x, l, u', by rw [← nI_succ]; exact p1, p2, p3, p4.trans ⟨fun w b' z1 z2 => ?_, fun w b' z1 z2 => w b' (by omega) z2⟩⟩
      by_cases e : b' = b
      · rw [e]; exact key.mpr q
      · exact w b' (by omega) z2
    · rw [if_pos (show nI t < 6 from (nIlt (b := 6) (by omega) (by omega)).mpr (by omega))]
      simp only [Option.bind_some]
      obtain ⟨f'', rfl⟩ : ∃ f'', f' = f'' + 1 := ⟨f' - 1, by omega⟩
      have e2 : u1.1 150 1 = nI nb := (a3.2.1 1 (by decide) (by decide) (by decide)).trans e1
      refine ⟨0, nI (b + 1), u1, ?_, tf.tr a3, Or.inl rfl, fun w => absurd w (by decide), fun w => absurd (key.mp (w b (by omega) (by omega))) q⟩
      rw [← nI_succ, lp_X12_doesRank_6]
      split
      · rfl
      · rw [if_pos rfl]
theorem ev_doesRank {m : Nat} (hm : 300 ≤ m) {c d : xm_Y} {n nb : Nat} {gc : Nat → Nat} {E : E_} (ct : CT_ c d n nb gc E) {R : V4_} (rb : rb3_ R) {x1 x2 x3 : Int32} (r1 : x1.toInt = R.1) (r2 : x2.toInt = R.2.1) (r3 : x3.toInt = R.2.2.1) {d0 : xm_Y} (hd : ∀ q, q ≠ 150 → q ≠ 182 → q ≠ 160 → q ≠ 161 → q ≠ 162 → q ≠ 163 → q ≠ 164 → d0.1 q = d.1 q) (h0 : d0.1 150 0 = d.1 150 0) (h1 : d0.1 150 1 = d.1 150 1) (h155 : d0.2 155 = d.2 155) : ∃ (x : Int32) (u' : xm_Y), fn_X12_doesRank m x1 x2 x3 d0 = some (x, u') ∧ tf2_ d0 u' ∧ (x = 0 ∨ x = 1) ∧ (x = 1 ↔ ∀ b, b < nb → rkk_ d n gc E b R) := by
  have b5 := ct.2.2.1
  obtain ⟨x, l, u', p1, p2, p3, p4⟩ := drk_lp hm ct rb r1 r2 r3 hd h0 h1 h155 nb 0 m d0 (by omega) (by omega) (tf2_.rf d0)
  refine ⟨x, u', ?_, p2, p3, p4.trans ⟨fun w b hb => w b (by omega) hb, fun w b _ hb => w b hb⟩⟩
  rw [fn_X12_doesRank, show lp_X12_doesRank_6 m x1 x2 x3 m (1 : Int32) (0 : Int32) d0 = _ from p1]
  simp only [Option.bind_some]
  rw [ck_t p3]
theorem x01 {x y : Int32} {P : Prop} (hx : x = 0 ∨ x = 1) (hy : y = 0 ∨ y = 1) (px : x = 1 ↔ P) (py : y = 1 ↔ P) : x = y := by
  rcases hx with a | a <;> rcases hy with b | b
  · rw [a, b]
  · have := px.mpr (py.mp b); exact absurd (a.symm.trans this) (by decide)
  · have := py.mpr (px.mp a); exact absurd (b.symm.trans this) (by decide)
  · rw [a, b]
theorem w145 (c : xm_Y) (x0 x1 x2 : Int32) : (∀ q, q ≠ 145 → (w_I (w_I (w_I c 145 0 x0) 145 1 x1) 145 2 x2).1 q = c.1 q) ∧ (w_I (w_I (w_I c 145 0 x0) 145 1 x1) 145 2 x2).2 = c.2 ∧ cfr_ c (w_I (w_I (w_I c 145 0 x0) 145 1 x1) 145 2 x2) ∧ (w_I (w_I (w_I c 145 0 x0) 145 1 x1) 145 2 x2).1 145 0 = x0 ∧ (w_I (w_I (w_I c 145 0 x0) 145 1 x1) 145 2 x2).1 145 1 = x1 ∧ (w_I (w_I (w_I c 145 0 x0) 145 1 x1) 145 2 x2).1 145 2 = x2 := ⟨fun q hq => by rw [rI_nc hq, rI_nc hq, rI_nc hq], rfl, (((cfr_.rf c).w (Or.inl rfl)).w (Or.inl rfl)).w (Or.inl rfl), by rw [rI_ne (by omega), rI_ne (by omega), rI_eq], by rw [rI_ne (by omega), rI_eq], by rw [rI_eq]⟩
theorem pl_keep {c u : xm_Y} {nb : Nat} (q : qf_ c u) (h : ∀ b, b < 5 → c.1 (6 + 24 * b) 3 = 0 ∨ (c.1 (6 + 24 * b) 3 = 1 ∧ b < nb ∧ PL_ c b)) : ∀ b, b < 5 → u.1 (6 + 24 * b) 3 = 0 ∨ (u.1 (6 + 24 * b) 3 = 1 ∧ b < nb ∧ PL_ u b) := fun b hb => by
  rw [q.1]
  rcases h b hb with w | ⟨w1, w2, w3⟩
  · exact Or.inl w
  · exact Or.inr ⟨w1, w2, PL_q hb w3 (fun k _ => by rw [q.1]) (q.2 _ (fun b' _ => by omega)) (q.2 128 (fun b' _ => by omega))⟩
section XT_
variable {FL : xm_Y → xm_Y → Prop} {m : Nat}
theorem tf_ranks (pf : pf_ PL_ FL) (hm : 300 ≤ m) (x y z : Int32) : tf_ PL_ FL (fn_X11_ranks m x y z) (fn_X12_ranks m x y z) := by
  intro c d iv
  obtain ⟨n, nb, gc, h1, h2, h3, h4, h5, h6, h7, h8, h9, h10⟩ := id iv
  obtain ⟨a1, a2, a3, a4, a5, a6, a7⟩ := id h1
  obtain ⟨k1, k2, k3, k4, k5, k6⟩ := w145 c x y z
  have as := ev_ask (m := m) (by omega) a1 a4 x y z
  have is := ev_isSum (m := m) (by omega) a2 a4 x y z
  by_cases ok : okS_ n x y z
  · obtain ⟨u, l1, l2, l3, l4⟩ := ev_learn (FL := FL) hm h1 h2 h5 h8 k1 k2
    obtain ⟨rb, rn⟩ := okS_R ok
    have f145 : ∀ j, u.1 145 j = (w_I (w_I (w_I c 145 0 x) 145 1 y) 145 2 z).1 145 j := fun j => by rw [l2.1 145 (by decide) (fun b _ => by omega)]
    obtain ⟨r, u2, q1, q2, q3, q4⟩ := ev_ranked hm l3 (s := 145) rb rn ⟨by rw [f145, k4]; rfl, by rw [f145, k5]; rfl, by rw [f145, k6]; rfl⟩ (qf_.rf u)
    obtain ⟨r', d', s1, s2, s3, s4⟩ := ev_doesRank hm l3 rb (x1 := x) (x2 := y) (x3 := z) rfl rfl rfl (d0 := d) (fun _ _ _ _ _ _ _ _ => rfl) rfl rfl rfl
    have er : r = r' := x01 q3 s3 q4 s4
    subst er
    have cf : cfr_ c u2 := (k3.tr (lf_c l2)).tr (qf_c q2)
    have df := tf2_d s2
    refine ⟨r, u2, d', ?_, cfr_md cf, ?_, dfr_cl df, n, nb, gc, iv_l pf h1 h2 h3 h4 h5 h6 h7 h8 h9 h10 cf df (pl_keep q2 l4)⟩
    · rw [fn_X11_ranks, as.1 ok]
      simp only [Option.bind_some]
      rw [if_neg (by decide), l1]
      simp only [Option.bind_some]
      rw [q1]
      rcases q3 with w | w <;> rw [w] <;> rfl
    · rw [fn_X12_ranks, is.1 ok]
      simp only [Option.bind_some]
      rw [if_neg (by decide), s1]
      rcases q3 with w | w <;> rw [w] <;> rfl
  · refine ⟨-1, _, d, ?_, cfr_md k3, ?_, cl_.rf d, n, nb, gc, iv_l pf h1 h2 h3 h4 h5 h6 h7 h8 h9 h10 k3 (dfr_.rf d) (fun b hb => ?_)⟩
    · rw [fn_X11_ranks, as.2 ok]; rfl
    · rw [fn_X12_ranks, is.2 ok]; rfl
    · rw [k1 _ (by omega)]
      rcases h8.2 b hb with w | ⟨w1, w2, w3⟩
      · exact Or.inl w
      · exact Or.inr ⟨w1, w2, PL_q hb w3 (fun q hq => k1 q (by omega)) (by rw [k2]) (by rw [k2])⟩
theorem tf_tells (pf : pf_ PL_ FL) (hm : 300 ≤ m) (v x y z : Int32) : tf_ PL_ FL (fn_X11_tells m v x y z) (fn_X12_tells m v x y z) := by
  intro c d iv
  obtain ⟨n, nb, gc, h1, h2, h3, h4, h5, h6, h7, h8, h9, h10⟩ := id iv
  obtain ⟨a1, a2, a3, a4, a5, a6, a7⟩ := id h1
  have none_ : fn_X11_tells m v x y z c = some (-1, c) → fn_X12_tells m v x y z d = some (-1, d) → ∃ (r : Int32) (c' d' : xm_Y), fn_X11_tells m v x y z c = some (r, c') ∧ md_ c c' ∧ fn_X12_tells m v x y z d = some (r, d') ∧ cl_ d d' ∧ iv_ PL_ FL c' d' := fun e1 e2 => ⟨-1, c, d, e1, md_.rf c, e2, cl_.rf d, iv⟩
  have hasC : fn_X7_has m v c = some (if v < 0 then 0 else if nI nb ≤ v then 0 else 1, c) := by
    rw [fn_X7_has, a5]
    by_cases q : v < 0
    · rw [if_pos q, if_pos q]; rfl
    · rw [if_neg q, if_neg q]
      by_cases q2 : nI nb ≤ v
      · rw [if_pos q2]
        first
        | (rw [if_neg (Int32.not_lt.mpr q2)]; rfl)
        | (rw [if_pos q2]; rfl)
      · rw [if_neg q2]
        first
        | (rw [if_pos (Int32.not_le.mp q2)]; rfl)
        | (rw [if_neg q2]; rfl)
  by_cases v0 : v < 0
  · exact none_ (by rw [fn_X11_tells, hasC, if_pos v0]; rfl) (by rw [fn_X12_tells, ev_X12_isBody, if_pos v0]; rfl)
  by_cases v1 : nI nb ≤ v
  · exact none_ (by rw [fn_X11_tells, hasC, if_neg v0, if_pos v1]; rfl) (by rw [fn_X12_tells, ev_X12_isBody, if_neg v0, a6, if_pos v1]; rfl)
  obtain ⟨bl, be, b0, b1⟩ := hb_in v0 v1 (by omega)
  obtain ⟨b, hbe⟩ : ∃ b, b = v.toNatClampNeg := ⟨_, rfl⟩
  rw [← hbe] at bl be
  obtain ⟨k1, k2, k3, k4, k5, k6⟩ := w145 c x y z
  have as := ev_ask (m := m) (by omega) a1 a4 x y z
  have is := ev_isSum (m := m) (by omega) a2 a4 x y z
  by_cases ok : okS_ n x y z
  · obtain ⟨u, l1, l2, l3, l4⟩ := ev_learn (FL := FL) hm h1 h2 h5 h8 k1 k2
    obtain ⟨rb, rn⟩ := okS_R ok
    have f145 : ∀ j, u.1 145 j = (w_I (w_I (w_I c 145 0 x) 145 1 y) 145 2 z).1 145 j := fun j => by rw [l2.1 145 (by decide) (fun b _ => by omega)]
    obtain ⟨X, Y, Z, x1, y1, z1, tt, kk⟩ := cq_ hm l3 (b := b) (s := 145) bl rb rn ⟨by rw [f145, k4]; rfl, by rw [f145, k5]; rfl, by rw [f145, k6]; rfl⟩
    obtain ⟨e1, ⟨u2, e2, e3⟩, -⟩ := kk u (qf_.rf u)
    obtain ⟨-, -, ⟨u3, g2, g3⟩⟩ := kk u2 e3
    obtain ⟨t, d', s1, s2, s3, s4⟩ := dq_ hm l3 (b := b) bl rb (x1 := x) (x2 := y) (x3 := z) rfl rfl rfl (d' := d) (fun _ _ _ _ _ _ _ _ => rfl) rfl rfl
    have et : t = 4 * X + 2 * Y + Z := trl_u s4 tt
    have cf : cfr_ c u3 := (k3.tr (lf_c l2)).tr (qf_c g3)
    have df := tf2_d s3
    refine ⟨nI t, u3, d', ?_, cfr_md cf, ?_, dfr_cl df, n, nb, gc, iv_l pf h1 h2 h3 h4 h5 h6 h7 h8 h9 h10 cf df (pl_keep g3 l4)⟩
    · have i5 : xm_in v 5 := ⟨by omega, by omega⟩
      rw [fn_X11_tells, hasC, if_neg v0, if_neg v1]
      simp only [Option.bind_some]
      rw [if_neg (by decide), as.1 ok]
      simp only [Option.bind_some]
      rw [if_neg (by decide), l1]
      simp only [Option.bind_some]
      rw [ck_t i5, ← hbe, e1]
      simp only [Option.bind_some]
      rw [e2]
      have xx : X = 0 ∨ X = 1 := by omega
      have yy : Y = 0 ∨ Y = 1 := by omega
      have zz : Z = 0 ∨ Z = 1 := by omega
      rw [et]
      rcases xx with rfl | rfl <;> rcases yy with rfl | rfl <;> rcases zz with rfl | rfl <;> (simp only [Option.bind_some, xm_let, show nI 0 = 0 from rfl, show ¬ nI 1 = 0 by decide, if_true, if_false]; rw [g2]; rfl)
    · rw [fn_X12_tells, ev_X12_isBody, if_neg v0, a6, if_neg v1]
      simp only [Option.bind_some]
      rw [if_neg (by decide), is.1 ok]
      simp only [Option.bind_some]
      rw [if_neg (by decide), be, s1]
      rfl
  · refine ⟨-1, _, d, ?_, cfr_md k3, ?_, cl_.rf d, n, nb, gc, iv_l pf h1 h2 h3 h4 h5 h6 h7 h8 h9 h10 k3 (dfr_.rf d) (fun b hb => ?_)⟩
    · rw [fn_X11_tells, hasC, if_neg v0, if_neg v1]
      simp only [Option.bind_some]
      rw [if_neg (by decide), as.2 ok]; rfl
    · rw [fn_X12_tells, ev_X12_isBody, if_neg v0, a6, if_neg v1]
      simp only [Option.bind_some]
      rw [if_neg (by decide), is.2 ok]; rfl
    · rw [k1 _ (by omega)]
      rcases h8.2 b hb with w | ⟨w1, w2, w3⟩
      · exact Or.inl w
      · exact Or.inr ⟨w1, w2, PL_q hb w3 (fun q hq => k1 q (by omega)) (by rw [k2]) (by rw [k2])⟩
end XT_
