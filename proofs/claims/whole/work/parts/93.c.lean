/-! sums that may be asked -/
def oks_ (n i : Nat) (x : Int32) : Prop := ¬ x < -100 ∧ x ≤ 100 ∧ (i < n ∨ x = 0)
theorem oks_d (n i : Nat) (x : Int32) : oks_ n i x ∨ ¬ oks_ n i x := Classical.em _
theorem ask1 {m n i f : Nat} {u : xm_Y} (hi : i < 3) (hn : u.1 1 1 = nI n) (hn3 : n ≤ 3) : (oks_ n i (u.1 145 i) → lp_X11_ask_24 m u (f + 1) (nI i) = lp_X11_ask_24 m u f (nI (i + 1))) ∧ (¬ oks_ n i (u.1 145 i) → lp_X11_ask_24 m u (f + 1) (nI i) = some (.inl (0, u))) := by
  have e : lp_X11_ask_24 m u (f + 1) (nI i) = (if u.1 145 i < -100 then some (.inl ((0 : Int32), u)) else if u.1 145 i ≤ 100 then (if nI i < nI n then lp_X11_ask_24 m u f (nI (i + 1)) else if u.1 145 i = 0 then lp_X11_ask_24 m u f (nI (i + 1)) else some (.inl ((0 : Int32), u))) else some (.inl ((0 : Int32), u))) := by
    rw [lp_X11_ask_24, if_neg (show ¬ (3 : Int32) ≤ nI i from fun q => absurd ((nIle (a := 3) (by omega) (by omega)).mp q) (by omega)), hn, nI_cl (by omega)]
    simp only [ck_t (show xm_in (nI i) 3 from nI_xi hi (by omega)), xm_let, ← nI_succ]
  rw [e]
  constructor
  · rintro ⟨a, b, c⟩
    rw [if_neg a, if_pos b]
    rcases c with c | c
    · rw [if_pos ((nIlt (by omega) (by omega)).mpr c)]
    · rw [if_pos c]; split <;> rfl
  · intro no
    by_cases a : u.1 145 i < -100
    · rw [if_pos a]
    · rw [if_neg a]
      by_cases b : u.1 145 i ≤ 100
      · rw [if_pos b, if_neg (fun q => no ⟨a, b, Or.inl ((nIlt (by omega) (by omega)).mp q)⟩), if_neg (fun q => no ⟨a, b, Or.inr q⟩)]
      · rw [if_neg b]
def okS_ (n : Nat) (x0 x1 x2 : Int32) : Prop := oks_ n 0 x0 ∧ oks_ n 1 x1 ∧ oks_ n 2 x2
theorem ev_ask {m n : Nat} (hm : 10 ≤ m) {c : xm_Y} (hn : c.1 1 1 = nI n) (hn3 : n ≤ 3) (x0 x1 x2 : Int32) : (okS_ n x0 x1 x2 → fn_X11_ask m x0 x1 x2 c = some (1, w_I (w_I (w_I c 145 0 x0) 145 1 x1) 145 2 x2)) ∧ (¬ okS_ n x0 x1 x2 → fn_X11_ask m x0 x1 x2 c = some (0, w_I (w_I (w_I c 145 0 x0) 145 1 x1) 145 2 x2)) := by
  obtain ⟨f, rfl⟩ : ∃ f, m = f + 4 := ⟨m - 4, by omega⟩
  have e : fn_X11_ask (f + 4) x0 x1 x2 c = Option.bind (lp_X11_ask_24 (f + 4) (w_I (w_I (w_I c 145 0 x0) 145 1 x1) 145 2 x2) (f + 4) (nI 0)) (Sum.elim (fun r => some r) (fun q11 => some ((1 : Int32), w_I (w_I (w_I c 145 0 x0) 145 1 x1) 145 2 x2))) := by
    rw [fn_X11_ask, ck_t (by decide)]
    simp only [xm_let]
    rw [ck_t (by decide), ck_t (by decide)]
    rfl
  have v0 : (w_I (w_I (w_I c 145 0 x0) 145 1 x1) 145 2 x2).1 145 0 = x0 := by rw [rI_ne (by omega), rI_ne (by omega), rI_eq]
  have v1 : (w_I (w_I (w_I c 145 0 x0) 145 1 x1) 145 2 x2).1 145 1 = x1 := by rw [rI_ne (by omega), rI_eq]
  have v2 : (w_I (w_I (w_I c 145 0 x0) 145 1 x1) 145 2 x2).1 145 2 = x2 := by rw [rI_eq]
  have hn' : (w_I (w_I (w_I c 145 0 x0) 145 1 x1) 145 2 x2).1 1 1 = nI n := by rw [rI_ne (by omega), rI_ne (by omega), rI_ne (by omega)]; exact hn
  rw [e]
  generalize w_I (w_I (w_I c 145 0 x0) 145 1 x1) 145 2 x2 = u at *
  have a0 := ask1 (m := f + 4) (f := f + 3) (i := 0) (by omega) hn' hn3
  have a1 := ask1 (m := f + 4) (f := f + 2) (i := 1) (by omega) hn' hn3
  have a2 := ask1 (m := f + 4) (f := f + 1) (i := 2) (by omega) hn' hn3
  rw [v0] at a0; rw [v1] at a1; rw [v2] at a2
  have fin : lp_X11_ask_24 (f + 4) u (f + 1) (nI 3) = some (.inr (nI 3)) := by rw [lp_X11_ask_24, if_pos (by decide)]
  constructor
  · rintro ⟨b0, b1, b2⟩
    rw [a0.1 b0, a1.1 b1, a2.1 b2, fin]; rfl
  · intro no
    by_cases b0 : oks_ n 0 x0
    · rw [a0.1 b0]
      by_cases b1 : oks_ n 1 x1
      · rw [a1.1 b1]
        have b2 : ¬ oks_ n 2 x2 := fun w => no ⟨b0, b1, w⟩
        rw [a2.2 b2]; rfl
      · rw [a1.2 b1]; rfl
    · rw [a0.2 b0]; rfl
theorem isS1 {m n i f : Nat} {u : xm_Y} {x0 x1 x2 x : Int32} (hi : i < 3) (hn : u.1 150 0 = nI n) (hn3 : n ≤ 3) (hx : ((if nI i = 0 then some x0 else if nI i = 1 then some x1 else some x2) : Option Int32) = some x) (l : Int32) : (l = 1 → oks_ n i x → lp_X12_isSum_6 m x0 x1 x2 u (f + 1) l (nI i) = lp_X12_isSum_6 m x0 x1 x2 u f 1 (nI (i + 1))) ∧ (l = 0 ∨ (l = 1 ∧ ¬ oks_ n i x) → lp_X12_isSum_6 m x0 x1 x2 u (f + 1) l (nI i) = lp_X12_isSum_6 m x0 x1 x2 u f 0 (nI (i + 1))) := by
  have e : lp_X12_isSum_6 m x0 x1 x2 u (f + 1) l (nI i) = Option.bind (if l = 0 then some (0 : Int32) else if x < -100 then some 0 else if 100 < x then some 0 else if nI i < nI n then some 1 else if x = 0 then some 1 else some 0) fun q6 => lp_X12_isSum_6 m x0 x1 x2 u f q6 (nI (i + 1)) := by
    rw [lp_X12_isSum_6, if_neg (show ¬ (3 : Int32) ≤ nI i from fun q => absurd ((nIle (a := 3) (by omega) (by omega)).mp q) (by omega)), hn, hx]
    simp only [Option.bind_some, xm_let, ← nI_succ]
  rw [e]
  constructor
  · rintro rfl ⟨a, b, c⟩
    rw [if_neg (by decide), if_neg a, if_neg (Int32.not_lt.mpr b)]
    rcases c with c | c
    · rw [if_pos ((nIlt (by omega) (by omega)).mpr c)]; rfl
    · rw [if_pos c]
      split <;> rfl
  · rintro (rfl | ⟨rfl, no⟩)
    · rw [if_pos rfl]; rfl
    · rw [if_neg (by decide)]
      by_cases a : x < -100
      · rw [if_pos a]; rfl
      · rw [if_neg a]
        by_cases b : 100 < x
        · rw [if_pos b]; rfl
        · have b' := Int32.not_lt.mp b
          rw [if_neg b, if_neg (fun q => no ⟨a, b', Or.inl ((nIlt (by omega) (by omega)).mp q)⟩), if_neg (fun q => no ⟨a, b', Or.inr q⟩)]; rfl
theorem ev_isSum {m n : Nat} (hm : 10 ≤ m) {d : xm_Y} (hn : d.1 150 0 = nI n) (hn3 : n ≤ 3) (x0 x1 x2 : Int32) : (okS_ n x0 x1 x2 → fn_X12_isSum m x0 x1 x2 d = some (1, d)) ∧ (¬ okS_ n x0 x1 x2 → fn_X12_isSum m x0 x1 x2 d = some (0, d)) := by
  obtain ⟨f, rfl⟩ : ∃ f, m = f + 4 := ⟨m - 4, by omega⟩
  have a0 := isS1 (m := f + 4) (f := f + 3) (i := 0) (x0 := x0) (x1 := x1) (x2 := x2) (x := x0) (by omega) hn hn3 rfl
  have a1 := isS1 (m := f + 4) (f := f + 2) (i := 1) (x0 := x0) (x1 := x1) (x2 := x2) (x := x1) (by omega) hn hn3 rfl
  have a2 := isS1 (m := f + 4) (f := f + 1) (i := 2) (x0 := x0) (x1 := x1) (x2 := x2) (x := x2) (by omega) hn hn3 rfl
  have fin : ∀ l, lp_X12_isSum_6 (f + 4) x0 x1 x2 d (f + 1) l (nI 3) = some (l, nI 3) := fun l => by rw [lp_X12_isSum_6, if_pos (by decide)]
  rw [fn_X12_isSum]
  constructor
  · rintro ⟨b0, b1, b2⟩
    rw [show lp_X12_isSum_6 (f + 4) x0 x1 x2 d (f + 4) (1 : Int32) (0 : Int32) = _ from (a0 1).1 rfl b0, (a1 1).1 rfl b1, (a2 1).1 rfl b2, fin]; rfl
  · intro no
    by_cases b0 : oks_ n 0 x0
    · rw [show lp_X12_isSum_6 (f + 4) x0 x1 x2 d (f + 4) (1 : Int32) (0 : Int32) = _ from (a0 1).1 rfl b0]
      by_cases b1 : oks_ n 1 x1
      · have b2 : ¬ oks_ n 2 x2 := fun w => no ⟨b0, b1, w⟩
        rw [(a1 1).1 rfl b1, (a2 1).2 (Or.inr ⟨rfl, b2⟩), fin]; rfl
      · rw [(a1 1).2 (Or.inr ⟨rfl, b1⟩), (a2 0).2 (Or.inl rfl), fin]; rfl
    · rw [show lp_X12_isSum_6 (f + 4) x0 x1 x2 d (f + 4) (1 : Int32) (0 : Int32) = _ from (a0 1).2 (Or.inr ⟨rfl, b0⟩), (a1 0).2 (Or.inl rfl), (a2 0).2 (Or.inl rfl), fin]; rfl
def Rx_ (x0 x1 x2 : Int32) : V4_ := (x0.toInt, x1.toInt, x2.toInt, 0)
theorem okS_R {n : Nat} {x0 x1 x2 : Int32} (h : okS_ n x0 x1 x2) : rb3_ (Rx_ x0 x1 x2) ∧ lown_ n (Rx_ x0 x1 x2) := by
  have b : ∀ {i : Nat} {x : Int32}, oks_ n i x → nb_ 100 x.toInt ∧ (n ≤ i → x.toInt = 0) := by
    rintro i x ⟨a, b, c⟩
    have a' := Int32.le_iff_toInt_le.mp (Int32.not_lt.mp a)
    have b' := Int32.le_iff_toInt_le.mp b
    have z1 : (-100 : Int32).toInt = -100 := rfl
    have z2 : (100 : Int32).toInt = 100 := rfl
    refine ⟨by unfold nb_; omega, fun hn => ?_⟩
    rcases c with c | c
    · omega
    · rw [c]; rfl
  obtain ⟨h0, h1, h2⟩ := h
  exact ⟨⟨(b h0).1, (b h1).1, (b h2).1, rfl⟩, (b h0).2, (b h1).2, (b h2).2⟩
/-! where all places are known -/
def TT_ (d : xm_Y) (n : Nat) (gc : Nat → Nat) (E : E_) (b : Nat) (R : V4_) (t : Nat) : Prop := trl_ (SS_ d b (gc b) n E) R (wk_ d b R n) (ap_ d b R n) t
def CT_ (c d : xm_Y) (n nb : Nat) (gc : Nat → Nat) (E : E_) : Prop := iv_2 c d n nb gc ∧ c.1 1 2 = nI nb ∧ nb ≤ 5 ∧ 1 ≤ n ∧ n ≤ 3 ∧ d.1 150 0 = nI n ∧ d.1 150 1 = nI nb ∧ bz_ d n E ∧ (∀ k, k < 6 → bd_ 1000000000 (E k)) ∧ (∀ q, 2 * n ≤ q → q < 6 → E q = some 0) ∧ ∀ b, b < nb → ∃ C D, ps_ c b (C ++ D) C.length ∧ PS_ (BB_ c b (gc b) E) C D
def qf_ (c u : xm_Y) : Prop := u.1 = c.1 ∧ ∀ q, (∀ b, b < 5 → q ≠ 8 + 24 * b) → u.2 q = c.2 q
theorem qf_.rf (c : xm_Y) : qf_ c c := ⟨rfl, fun _ _ => rfl⟩
theorem qf_.tr {a b c : xm_Y} (h : qf_ a b) (g : qf_ b c) : qf_ a c := ⟨g.1.trans h.1, fun q hq => (g.2 q hq).trans (h.2 q hq)⟩
theorem cg8_q {b : Nat} (hb : b < 5) {c u : xm_Y} (h : cg8_ b c u) : qf_ c u := ⟨h.1, fun q hq => h.2 q (hq b hb)⟩
theorem CT_q {c u d : xm_Y} {n nb : Nat} {gc : Nat → Nat} {E : E_} (h : CT_ c d n nb gc E) (q : qf_ c u) : CT_ u d n nb gc E := by
  obtain ⟨h1, h2, h3, h4, h5, h6, h7, h8, h9, h10, h11⟩ := h
  refine ⟨?_, by rw [q.1]; exact h2, h3, h4, h5, h6, h7, h8, h9, h10, fun b hb => ?_⟩
  · unfold iv_2; rw [q.1]; exact h1
  · obtain ⟨C, D, p1, p2⟩ := h11 b hb
    refine ⟨C, D, ?_, ?_⟩
    · obtain ⟨x1, x2, x3, x4⟩ := p1
      exact ⟨by rw [q.1]; exact x1, by rw [q.1]; exact x2, x3, fun k P hP => by rw [q.2 (7 + 24 * b) (fun b' _ => by omega)]; exact x4 k P hP⟩
    · have : BB_ u b (gc b) E = BB_ c b (gc b) E := by
        unfold BB_
        rw [gps_c2 (c := c) (c' := u) (fun k _ _ => by rw [q.1]) (gc b) ((h1 b hb).2.2.1)]
      rw [this]; exact p2
theorem rules3 {c d : xm_Y} {n nb : Nat} {gc : Nat → Nat} (h2 : iv_2 c d n nb gc) {b : Nat} (hb : b < nb) : ∀ i, i < 3 → rl_ (rw4_ c b i) := fun i hi => by
  by_cases q : i < n
  · obtain ⟨e, r, _⟩ := (row_g h2 hb).2.1 i q
    rw [e]; exact r
  · exact (row_g h2 hb).2.2 i (by omega) hi
/-- the class asks a body -/
theorem cq_ {m : Nat} (hm : 300 ≤ m) {c d : xm_Y} {n nb : Nat} {gc : Nat → Nat} {E : E_} (ct : CT_ c d n nb gc E) {b s : Nat} (hb : b < nb) {R : V4_} (rb : rb3_ R) (rn : lown_ n R) (hR : (c.1 s 0).toInt = R.1 ∧ (c.1 s 1).toInt = R.2.1 ∧ (c.1 s 2).toInt = R.2.2.1) : ∃ x y z : Nat, x ≤ 1 ∧ y ≤ 1 ∧ z ≤ 1 ∧ TT_ d n gc E b R (4 * x + 2 * y + z) ∧ ∀ u, qf_ c u → fn_X6_isBoundBelow m b s u = some (nI x, u) ∧ (∃ u', fn_X1_changesAtMost m b s (-1) u = some (nI y, u') ∧ qf_ c u') ∧ (∃ u', fn_X1_changesAtMost m b s 0 u = some (nI z, u') ∧ qf_ c u') := by
  have b5 : b < 5 := by have := ct.2.2.1; omega
  obtain ⟨h1, h2, h3, h4, h5, h6, h7, h8, h9, h10, h11⟩ := id ct
  obtain ⟨C, D, p1, p2⟩ := h11 b hb
  have tt := cls_t h1 h4 h5 hb h10 p2 rb rn
  have bn : ∀ b : Bool, bN b ≤ 1 := fun b => by unfold bN; split <;> omega
  refine ⟨bN (alg_ R D), bN (nop_ (cf_ c b R (-1)) (C ++ D)), bN (nop_ (cf_ c b R 0) (C ++ D)), bn _, bn _, bn _, tt, fun u q => ?_⟩
  have hL : ∀ P, P ∈ C ++ D → pb4_ P := fun P hP => by
    rcases List.mem_append.mp hP with w | w
    · exact (p2.1 P w).2
    · exact (p2.2.1 P w).2
  have pu : ps_ u b (C ++ D) C.length := by
    obtain ⟨x1, x2, x3, x4⟩ := p1
    exact ⟨by rw [q.1]; exact x1, by rw [q.1]; exact x2, x3, fun k P hP => by rw [q.2 (7 + 24 * b) (fun b' _ => by omega)]; exact x4 k P hP⟩
  have su : sm3_ u s R := ⟨by rw [q.1]; exact hR.1, by rw [q.1]; exact hR.2.1, by rw [q.1]; exact hR.2.2, rb.2.2.2, rb.1, rb.2.1, rb.2.2.1⟩
  have ru : ∀ i, i < 3 → rl_ (rw4_ u b i) := fun i hi => by
    have : rw4_ u b i = rw4_ c b i := by unfold rw4_ wc_ kc_; rw [q.1]
    rw [this]; exact rules3 h1 hb i hi
  have cfe : ∀ M, cf_ u b R M = cf_ c b R M := fun M => by
    unfold cf_ rw4_ wc_ kc_; rw [q.1]
  have fi : ∀ x : Bool, (if x = true then (1 : Int32) else 0) = nI (bN x) := fun x => by unfold bN; split <;> rfl
  refine ⟨?_, ?_, ?_⟩
  · rw [ev_binds (by omega) pu su hL, fi]
  · obtain ⟨u', e1, e2⟩ := ev_changes (m := m) (by omega) b5 pu su hL ru (x := -1) (Or.inr rfl)
    refine ⟨u', ?_, q.tr (cg8_q b5 e2)⟩
    rw [e1, cfe, fi]; rfl
  · obtain ⟨u', e1, e2⟩ := ev_changes (m := m) (by omega) b5 pu su hL ru (x := 0) (Or.inl rfl)
    refine ⟨u', ?_, q.tr (cg8_q b5 e2)⟩
    rw [e1, cfe, fi]; rfl
def rkk_ (d : xm_Y) (n : Nat) (gc : Nat → Nat) (E : E_) (b : Nat) (R : V4_) : Prop := ∃ t, 6 ≤ t ∧ TT_ d n gc E b R t
theorem ev_ranksBy {m : Nat} (hm : 300 ≤ m) {c d : xm_Y} {n nb : Nat} {gc : Nat → Nat} {E : E_} (ct : CT_ c d n nb gc E) {b s : Nat} (hb : b < nb) {R : V4_} (rb : rb3_ R) (rn : lown_ n R) (hR : (c.1 s 0).toInt = R.1 ∧ (c.1 s 1).toInt = R.2.1 ∧ (c.1 s 2).toInt = R.2.2.1) {u : xm_Y} (q : qf_ c u) : ∃ (r : Int32) (u' : xm_Y), fn_X1_ranksBy m b s u = some (r, u') ∧ qf_ c u' ∧ (r = 0 ∨ r = 1) ∧ (r = 1 ↔ rkk_ d n gc E b R) := by
  obtain ⟨x, y, z, x1, y1, z1, tt, k⟩ := cq_ hm ct hb rb rn hR
  obtain ⟨k1, ⟨u2, k2, k3⟩, -⟩ := k u q
  have key : rkk_ d n gc E b R ↔ x = 1 ∧ y = 1 := by
    constructor
    · rintro ⟨t, t6, t2⟩
      have := trl_u t2 tt
      omega
    · rintro ⟨rfl, rfl⟩
      exact ⟨_, by omega, tt⟩
  rw [fn_X1_ranksBy, k1]
  simp only [Option.bind_some]
  have xx : x = 0 ∨ x = 1 := by omega
  have yy : y = 0 ∨ y = 1 := by omega
  rcases xx with rfl | rfl
  · rw [if_pos (show nI 0 = 0 from rfl)]
    exact ⟨0, u, rfl, q, Or.inl rfl, fun w => absurd w (by decide), fun w => absurd (key.mp w).1 (by omega)⟩
  · rw [if_neg (show ¬ nI 1 = 0 by decide), k2]
    simp only [Option.bind_some]
    rcases yy with rfl | rfl
    · rw [if_pos (show nI 0 = 0 from rfl)]
      exact ⟨0, u2, rfl, k3, Or.inl rfl, fun w => absurd w (by decide), fun w => absurd (key.mp w).2 (by omega)⟩
    · rw [if_neg (show ¬ nI 1 = 0 by decide)]
      exact ⟨1, u2, rfl, k3, Or.inr rfl, fun _ => key.mpr ⟨rfl, rfl⟩, fun _ => rfl⟩
theorem rkd_lp {m : Nat} (hm : 300 ≤ m) {c d : xm_Y} {n nb : Nat} {gc : Nat → Nat} {E : E_} (ct : CT_ c d n nb gc E) {s : Nat} {R : V4_} (rb : rb3_ R) (rn : lown_ n R) (hR : (c.1 s 0).toInt = R.1 ∧ (c.1 s 1).toInt = R.2.1 ∧ (c.1 s 2).toInt = R.2.2.1) : ∀ (r b f : Nat) (u : xm_Y), b + r = nb → r + 1 ≤ f → qf_ c u → ∃ (x : Int32) (u' : xm_Y), (lp_X7_isRankedBy_2 m s f (nI b) u).bind (Sum.elim (fun r => some r) (fun q6 => some ((1 : Int32), q6.2))) = some (x, u') ∧ qf_ c u' ∧ (x = 0 ∨ x = 1) ∧ (x = 1 ↔ ∀ b', b ≤ b' → b' < nb → rkk_ d n gc E b' R)
  | 0, b, f, u, hb, hf, q => by
    obtain ⟨f', rfl⟩ : ∃ f', f = f' + 1 := ⟨f - 1, by omega⟩
    have b5 := ct.2.2.1
    refine ⟨1, u, ?_, q, Or.inr rfl, fun _ b' h1 h2 => by omega, fun _ => rfl⟩
    rw [lp_X7_isRankedBy_2, q.1, ct.2.1, if_pos ((nIle (by omega) (by omega)).mpr (by omega))]; rfl
  | r + 1, b, f, u, hb, hf, q => by
    obtain ⟨f', rfl⟩ : ∃ f', f = f' + 1 := ⟨f - 1, by omega⟩
    have b5 := ct.2.2.1
    obtain ⟨y, u1, a1, a2, a3, a4⟩ := ev_ranksBy hm ct (b := b) (by omega) rb rn hR q
    rw [lp_X7_isRankedBy_2, q.1, ct.2.1, if_neg (fun z => absurd ((nIle (by omega) (by omega)).mp z) (by omega)), ck_t (nI_xi (by omega) (by omega)), nI_cl (by omega), a1]
    simp only [Option.bind_some, xm_let]
    rcases a3 with z | z
    · rw [if_pos z]
      refine ⟨0, u1, rfl, a2, Or.inl rfl, fun w => absurd w (by decide), fun w => ?_⟩
      have := a4.mpr (w b (by omega) (by omega))
      exact absurd (z.symm.trans this) (by decide)
    · rw [if_neg (by rw [z]; decide)]
      obtain ⟨x, u', p1, p2, p3, p4⟩ := rkd_lp hm ct rb rn hR r (b + 1) f' u1 (by omega) (by omega) a2
      refine ⟨x, u', by rw [← nI_succ]; exact p1, p2, p3, p4.trans ⟨fun w b' h1 h2 => ?_, fun w b' h1 h2 => w b' (by omega) h2⟩⟩
      by_cases e : b' = b
      · rw [e]; exact a4.mp z
      · exact w b' (by omega) h2
theorem ev_ranked {m : Nat} (hm : 300 ≤ m) {c d : xm_Y} {n nb : Nat} {gc : Nat → Nat} {E : E_} (ct : CT_ c d n nb gc E) {s : Nat} {R : V4_} (rb : rb3_ R) (rn : lown_ n R) (hR : (c.1 s 0).toInt = R.1 ∧ (c.1 s 1).toInt = R.2.1 ∧ (c.1 s 2).toInt = R.2.2.1) {u : xm_Y} (q : qf_ c u) : ∃ (x : Int32) (u' : xm_Y), fn_X7_isRankedBy m s u = some (x, u') ∧ qf_ c u' ∧ (x = 0 ∨ x = 1) ∧ (x = 1 ↔ ∀ b, b < nb → rkk_ d n gc E b R) := by
  have b5 := ct.2.2.1
  obtain ⟨x, u', p1, p2, p3, p4⟩ := rkd_lp hm ct rb rn hR nb 0 m u (by omega) (by omega) q
  exact ⟨x, u', p1, p2, p3, p4.trans ⟨fun w b hb => w b (by omega) hb, fun w b _ hb => w b hb⟩⟩
/-- the reference asks a body; it asks all -/
theorem TT_d {d d' : xm_Y} (h : ∀ q, q ≠ 150 → d'.1 q = d.1 q) (n : Nat) (gc : Nat → Nat) (E : E_) (b : Nat) (R : V4_) (t : Nat) : TT_ d' n gc E b R t ↔ TT_ d n gc E b R t := by
  have e1 : ∀ G, gpsd_ d' b G = gpsd_ d b G := by
    intro G
    induction G with
    | zero => rfl
    | succ G ih =>
      unfold gpsd_
      rw [ih]
      unfold gpd_ wr_ kr_
      rw [h 152 (by decide)]
  have e2 : ∀ i, rwd_ d' b i = rwd_ d b i := fun i => by unfold rwd_ wr_ kr_; rw [h 153 (by decide)]
  have e3 : ∀ i, wk_ d' b R i = wk_ d b R i := by
    intro i
    induction i with
    | zero => rfl
    | succ i ih => unfold wk_; rw [ih, e2]
  have e4 : ∀ i, ap_ d' b R i = ap_ d b R i := by
    intro i
    induction i with
    | zero => rfl
    | succ i ih => unfold ap_; rw [ih, e2]
  unfold TT_ SS_
  rw [e1, e3, e4]
theorem bz_d {d d' : xm_Y} {n : Nat} {E : E_} (h1 : d'.1 156 = d.1 156) (h2 : d'.2 155 = d.2 155) (h : bz_ d n E) : bz_ d' n E := by
  unfold bz_; rw [h1, h2]; exact h
theorem dq_ {m : Nat} (hm : 300 ≤ m) {c d : xm_Y} {n nb : Nat} {gc : Nat → Nat} {E : E_} (ct : CT_ c d n nb gc E) {b : Nat} (hb : b < nb) {R : V4_} (rb : rb3_ R) {x1 x2 x3 : Int32} (r1 : x1.toInt = R.1) (r2 : x2.toInt = R.2.1) (r3 : x3.toInt = R.2.2.1) {d' : xm_Y} (hd : ∀ q, q ≠ 150 → q ≠ 182 → q ≠ 160 → q ≠ 161 → q ≠ 162 → q ≠ 163 → q ≠ 164 → d'.1 q = d.1 q) (h0 : d'.1 150 0 = d.1 150 0) (h155 : d'.2 155 = d.2 155) : ∃ (t : Nat) (u' : xm_Y), fn_X12_tellsOf m (nI b) x1 x2 x3 d' = some (nI t, u') ∧ t ≤ 7 ∧ tf2_ d' u' ∧ TT_ d n gc E b R t := by
  obtain ⟨i2, c2, c3, c4, c5, c6, c7, c8, c9, c10, c11⟩ := id ct
  obtain ⟨g1, g2, g3, g4, g5, g6⟩ := i2 b hb
  have e151 : d'.1 151 = d.1 151 := hd 151 (by decide) (by decide) (by decide) (by decide) (by decide) (by decide) (by decide)
  have e152 : d'.1 152 = d.1 152 := hd 152 (by decide) (by decide) (by decide) (by decide) (by decide) (by decide) (by decide)
  have e153 : d'.1 153 = d.1 153 := hd 153 (by decide) (by decide) (by decide) (by decide) (by decide) (by decide) (by decide)
  have e156 : d'.1 156 = d.1 156 := hd 156 (by decide) (by decide) (by decide) (by decide) (by decide) (by decide) (by decide)
  have eg : ∀ g, gpd_ d' b g = gpd_ d b g := fun g => by unfold gpd_ wr_ kr_; rw [e152]
  have er : ∀ i, rwd_ d' b i = rwd_ d b i := fun i => by unfold rwd_ wr_ kr_; rw [e153]
  have dbd : db_ d' b (gc b) := ⟨by rw [e151]; exact g2, g3, fun g hg => by rw [eg]; exact ((row_g i2 hb).1 g hg).2.1⟩
  obtain ⟨t, u', a1, a2, a3, a4⟩ := ev_tellsOf (m := m) (n := n) (E := E) (by omega) (show b < 5 by omega) (h0.trans c6) c5 dbd (bz_d e156 h155 c8) (fun k hk => c9 k (by omega)) (fun i hi => by rw [er]; exact ((row_g i2 hb).2.1 i hi).2.1) rb r1 r2 r3
  refine ⟨t, u', a1, a2, a3, ?_⟩
  have e1 : ∀ G, gpsd_ d' b G = gpsd_ d b G := by
    intro G
    induction G with
    | zero => rfl
    | succ G ih => unfold gpsd_; rw [ih, eg]
  have e3 : ∀ i, wk_ d' b R i = wk_ d b R i := by
    intro i
    induction i with
    | zero => rfl
    | succ i ih => unfold wk_; rw [ih, er]
  have e4 : ∀ i, ap_ d' b R i = ap_ d b R i := by
    intro i
    induction i with
    | zero => rfl
    | succ i ih => unfold ap_; rw [ih, er]
  unfold TT_ SS_
  unfold SS_ at a4
  rw [e1, e3, e4] at a4
  exact a4
