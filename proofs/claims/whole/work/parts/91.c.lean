/-! asking a place -/
def sm3_ (u : xm_Y) (s : Nat) (R : V4_) : Prop := (u.1 s 0).toInt = R.1 ∧ (u.1 s 1).toInt = R.2.1 ∧ (u.1 s 2).toInt = R.2.2.1 ∧ R.2.2.2 = 0 ∧ nb_ 100 R.1 ∧ nb_ 100 R.2.1 ∧ nb_ 100 R.2.2.1
theorem dpR {R P : V4_} (h : R.2.2.2 = 0) : dp_ R P = R.1 * P.1 + R.2.1 * P.2.1 + R.2.2.1 * P.2.2.1 := by unfold dp_; rw [h]; omega
theorem dpR_b {R P : V4_} (h : R.2.2.2 = 0) (h1 : nb_ 100 R.1) (h2 : nb_ 100 R.2.1) (h3 : nb_ 100 R.2.2.1) (hP : pb4_ P) : nb_ 720000000000000 (dp_ R P) := by
  rw [dpR h]
  exact nb_a (nb_a (nb_m h1 hP.1) (nb_m h2 hP.2.1)) (nb_m h3 hP.2.2.1)
theorem ev_valueAtP {m b s k : Nat} {u : xm_Y} {L : List V4_} {nc : Nat} {R P : V4_} (ps : ps_ u b L nc) (hR : sm3_ u s R) (hP : L[k]? = some P) : fn_X6_valueAt m b s (nI (4 * k)) u = some (Int64.ofInt (dp_ R P), u) := by
  obtain ⟨r1, r2, r3, r4, -, -, -⟩ := hR
  have kl : k < L.length := by rw [List.getElem?_eq_some_iff] at hP; exact hP.1
  have l128 := ps.2.2.1
  obtain ⟨p1, p2, p3, p4⟩ := ps.2.2.2 k P hP
  rw [fn_X6_valueAt, show nI (4 * k) + 1 = nI (4 * k + 1) from nI_ad _ 1, show nI (4 * k) + 2 = nI (4 * k + 2) from nI_ad _ 2, ck_t (by decide), ck_t (nI_xi (by omega) (by omega)), ck_t (by decide), ck_t (nI_xi (by omega) (by omega)), ck_t (by decide), ck_t (nI_xi (by omega) (by omega)), nI_cl (show 4 * k < 2 ^ 31 by omega), nI_cl (show 4 * k + 1 < 2 ^ 31 by omega), nI_cl (show 4 * k + 2 < 2 ^ 31 by omega), p1, p2, p3, show u.1 s (Int32.toNatClampNeg 0) = u.1 s 0 from rfl, show u.1 s (Int32.toNatClampNeg 1) = u.1 s 1 from rfl, show u.1 s (Int32.toNatClampNeg 2) = u.1 s 2 from rfl, i64o, i64o, i64o, r1, r2, r3, om, om, om, oa, oa, dpR r4]
def alg_ (R : V4_) : List V4_ → Bool
  | [] => true
  | P :: L => decide (0 ≤ dp_ R P) && alg_ R L
theorem alg_t {R : V4_} : ∀ {L : List V4_}, alg_ R L = true ↔ ∀ P, P ∈ L → 0 ≤ dp_ R P
  | [] => by simp [alg_]
  | P :: L => by
    unfold alg_
    rw [Bool.and_eq_true, decide_eq_true_iff, alg_t (L := L)]
    simp
theorem bnd_lp {m b s : Nat} {u : xm_Y} {L : List V4_} {nc : Nat} {R : V4_} (ps : ps_ u b L nc) (hR : sm3_ u s R) (hL : ∀ P, P ∈ L → pb4_ P) : ∀ (xs : List V4_) (k f : Nat), k + xs.length = L.length → xs.length + 1 ≤ f → (∀ (i : Nat) (P : V4_), xs[i]? = some P → L[k + i]? = some P) → ∃ l : Int32, lp_X6_isBoundBelow_7 m b s f (nI (4 * k)) u = some (if alg_ R xs = true then .inr (l, u) else .inl (0, u))
  | [], k, f, hk, hf, hx => by
    obtain ⟨f', rfl⟩ : ∃ f', f = f' + 1 := ⟨f - 1, by omega⟩
    have hk : k = L.length := hk
    subst hk
    have l128 := ps.2.2.1
    exact ⟨nI (4 * L.length), by rw [lp_X6_isBoundBelow_7, ps.1, show (4 : Int32) * nI L.length = nI (4 * L.length) from nI_mu 4 _, if_pos ((nIle (by omega) (by omega)).mpr (by omega))]; rfl⟩
  | P :: xs, k, f, hk, hf, hx => by
    obtain ⟨f', rfl⟩ : ∃ f', f = f' + 1 := ⟨f - 1, by omega⟩
    have hk : k + (xs.length + 1) = L.length := hk
    have hf : xs.length + 1 + 1 ≤ f' + 1 := hf
    have l128 := ps.2.2.1
    have g0 : L[k]? = some P := hx 0 P rfl
    have bP := hL P (List.mem_of_getElem? g0)
    obtain ⟨l, ih⟩ := bnd_lp (m := m) ps hR hL xs (k + 1) f' (by omega) (by omega) (fun i y hy => by
      have := hx (i + 1) y (by simpa using hy)
      rw [show k + 1 + i = k + (i + 1) by omega]; exact this)
    refine ⟨l, ?_⟩
    have vb : nb_ 1000000000000000000 (dp_ R P) := nb_w (dpR_b hR.2.2.2.1 hR.2.2.2.2.1 hR.2.2.2.2.2.1 hR.2.2.2.2.2.2 bP) (by decide)
    rw [lp_X6_isBoundBelow_7, ps.1, show (4 : Int32) * nI L.length = nI (4 * L.length) from nI_mu 4 _, if_neg (fun q => absurd ((nIle (by omega) (by omega)).mp q) (by omega)), ev_valueAtP ps hR g0]
    simp only [Option.bind_some, xm_let]
    rw [show nI (4 * k) + 4 = nI (4 * (k + 1)) from nI_ad _ 4, ih]
    have st : alg_ R (P :: xs) = (decide (0 ≤ dp_ R P) && alg_ R xs) := rfl
    rw [st]
    by_cases q : 0 ≤ dp_ R P
    · rw [if_pos (show (0 : Int64) ≤ Int64.ofInt (dp_ R P) from (i64le (a := 0) (by unfold nb_; omega) vb).mpr q), decide_eq_true q, Bool.true_and]
    · rw [if_neg (show ¬ (0 : Int64) ≤ Int64.ofInt (dp_ R P) from fun z => q ((i64le (a := 0) (by unfold nb_; omega) vb).mp z)), decide_eq_false q]
      rfl
theorem ev_binds {m b s : Nat} (hm : 200 ≤ m) {u : xm_Y} {C D : List V4_} {R : V4_} (ps : ps_ u b (C ++ D) C.length) (hR : sm3_ u s R) (hL : ∀ P, P ∈ C ++ D → pb4_ P) : fn_X6_isBoundBelow m b s u = some (if alg_ R D = true then 1 else 0, u) := by
  have l128 := ps.2.2.1
  rw [List.length_append] at l128
  obtain ⟨l, e⟩ := bnd_lp (m := m) ps hR hL D C.length m (by rw [List.length_append]) (by omega) (fun i P hP => by
    rw [List.getElem?_append_right (by omega), show C.length + i - C.length = i by omega]; exact hP)
  rw [fn_X6_isBoundBelow, ps.2.1, show (4 : Int32) * nI C.length = nI (4 * C.length) from nI_mu 4 _]
  simp only [xm_let]
  rw [e]
  by_cases q : alg_ R D = true
  · rw [if_pos q, if_pos q]; rfl
  · rw [if_neg q, if_neg q]; rfl
def nop_ (f : V4_) : List V4_ → Bool
  | [] => true
  | P :: L => decide (dp_ f P ≤ 0) && nop_ f L
theorem nop_t {f : V4_} : ∀ {L : List V4_}, nop_ f L = true ↔ ∀ P, P ∈ L → dp_ f P ≤ 0
  | [] => by simp [nop_]
  | P :: L => by
    unfold nop_
    rw [Bool.and_eq_true, decide_eq_true_iff, nop_t (L := L)]
    simp
def ch_ (u : xm_Y) (b : Nat) (f : V4_) : Prop := u.2 (8 + 24 * b) 0 = Int64.ofInt f.1 ∧ u.2 (8 + 24 * b) 1 = Int64.ofInt f.2.1 ∧ u.2 (8 + 24 * b) 2 = Int64.ofInt f.2.2.1
def fbd_ (f : V4_) : Prop := nb_ 7000 f.1 ∧ nb_ 7000 f.2.1 ∧ nb_ 7000 f.2.2.1 ∧ nb_ 400000 f.2.2.2
theorem now_lp {m b : Nat} {u : xm_Y} {L : List V4_} {nc : Nat} {f : V4_} (ps : ps_ u b L nc) (hf0 : ch_ u b f) (fb : fbd_ f) (hL : ∀ P, P ∈ L → pb4_ P) : ∀ (xs : List V4_) (k n : Nat), k + xs.length = L.length → xs.length + 1 ≤ n → (∀ (i : Nat) (P : V4_), xs[i]? = some P → L[k + i]? = some P) → ∃ l : Int32, lp_X6_isNowherePositive_3 m b (Int64.ofInt f.2.2.2) u n (nI (4 * k)) = some (if nop_ f xs = true then .inr l else .inl (0, u))
  | [], k, n, hk, hn, hx => by
    obtain ⟨f', rfl⟩ : ∃ f', n = f' + 1 := ⟨n - 1, by omega⟩
    have hk : k = L.length := hk
    subst hk
    have l128 := ps.2.2.1
    exact ⟨nI (4 * L.length), by rw [lp_X6_isNowherePositive_3, ps.1, show (4 : Int32) * nI L.length = nI (4 * L.length) from nI_mu 4 _, if_pos ((nIle (by omega) (by omega)).mpr (by omega))]; rfl⟩
  | P :: xs, k, n, hk, hn, hx => by
    obtain ⟨f', rfl⟩ : ∃ f', n = f' + 1 := ⟨n - 1, by omega⟩
    have hk : k + (xs.length + 1) = L.length := hk
    have hn : xs.length + 1 + 1 ≤ f' + 1 := hn
    have l128 := ps.2.2.1
    have g0 : L[k]? = some P := hx 0 P rfl
    have bP := hL P (List.mem_of_getElem? g0)
    obtain ⟨p1, p2, p3, p4⟩ := ps.2.2.2 k P g0
    obtain ⟨l, ih⟩ := now_lp (m := m) ps hf0 fb hL xs (k + 1) f' (by omega) (by omega) (fun i y hy => by
      have := hx (i + 1) y (by simpa using hy)
      rw [show k + 1 + i = k + (i + 1) by omega]; exact this)
    refine ⟨l, ?_⟩
    have vb : nb_ 1000000000000000000 (dp_ f P) := nb_w (nb_a (nb_a (nb_a (nb_m fb.1 bP.1) (nb_m fb.2.1 bP.2.1)) (nb_m fb.2.2.1 bP.2.2.1)) (nb_m fb.2.2.2 bP.2.2.2)) (by decide)
    have e1 : nI (4 * k) + 1 = nI (4 * k + 1) := nI_ad _ 1
    have e2 : nI (4 * k) + 2 = nI (4 * k + 2) := nI_ad _ 2
    have e3 : nI (4 * k) + 3 = nI (4 * k + 3) := nI_ad _ 3
    have e4 : nI (4 * k) + 4 = nI (4 * (k + 1)) := nI_ad _ 4
    rw [lp_X6_isNowherePositive_3, ps.1, show (4 : Int32) * nI L.length = nI (4 * L.length) from nI_mu 4 _, if_neg (fun q => absurd ((nIle (by omega) (by omega)).mp q) (by omega)), e1, e2, e3, e4, ck_t (by decide), ck_t (nI_xi (by omega) (by omega)), ck_t (by decide), ck_t (nI_xi (by omega) (by omega)), ck_t (by decide), ck_t (nI_xi (by omega) (by omega)), ck_t (nI_xi (by omega) (by omega)), nI_cl (show 4 * k < 2 ^ 31 by omega), nI_cl (show 4 * k + 1 < 2 ^ 31 by omega), nI_cl (show 4 * k + 2 < 2 ^ 31 by omega), nI_cl (show 4 * k + 3 < 2 ^ 31 by omega), p1, p2, p3, p4, show u.2 (8 + 24 * b) (Int32.toNatClampNeg 0) = _ from hf0.1, show u.2 (8 + 24 * b) (Int32.toNatClampNeg 1) = _ from hf0.2.1, show u.2 (8 + 24 * b) (Int32.toNatClampNeg 2) = _ from hf0.2.2, om, om, om, om, oa, oa, oa]
    simp only [xm_let]
    rw [ih]
    have st : nop_ f (P :: xs) = (decide (dp_ f P ≤ 0) && nop_ f xs) := rfl
    rw [st]
    by_cases q : dp_ f P ≤ 0
    · rw [if_pos (show Int64.ofInt (f.1 * P.1 + f.2.1 * P.2.1 + f.2.2.1 * P.2.2.1 + f.2.2.2 * P.2.2.2) ≤ 0 from (i64le (b := 0) vb (by unfold nb_; omega)).mpr q), decide_eq_true q, Bool.true_and]
    · rw [if_neg (show ¬ Int64.ofInt (f.1 * P.1 + f.2.1 * P.2.1 + f.2.2.1 * P.2.2.1 + f.2.2.2 * P.2.2.2) ≤ 0 from fun z => q ((i64le (b := 0) vb (by unfold nb_; omega)).mp z)), decide_eq_false q]
      rfl
/-- the change of a sum over a body -/
def rw4_ (c : xm_Y) (b i : Nat) : V4_ := (wc_ c (21 + 24 * b + 2 * i) 0, wc_ c (21 + 24 * b + 2 * i) 1, wc_ c (21 + 24 * b + 2 * i) 2, kc_ c (21 + 24 * b + 2 * i))
def cf_ (c : xm_Y) (b : Nat) (R : V4_) (M : Int) : V4_ := (-R.1 + R.1 * (rw4_ c b 0).1 + R.2.1 * (rw4_ c b 1).1 + R.2.2.1 * (rw4_ c b 2).1, -R.2.1 + R.1 * (rw4_ c b 0).2.1 + R.2.1 * (rw4_ c b 1).2.1 + R.2.2.1 * (rw4_ c b 2).2.1, -R.2.2.1 + R.1 * (rw4_ c b 0).2.2.1 + R.2.1 * (rw4_ c b 1).2.2.1 + R.2.2.1 * (rw4_ c b 2).2.2.1, -M + R.1 * (rw4_ c b 0).2.2.2 + R.2.1 * (rw4_ c b 1).2.2.2 + R.2.2.1 * (rw4_ c b 2).2.2.2)
def rl_ (p : V4_) : Prop := nb_ 20 p.1 ∧ nb_ 20 p.2.1 ∧ nb_ 20 p.2.2.1 ∧ nb_ 1000 p.2.2.2
theorem cf_b {c : xm_Y} {b : Nat} {R : V4_} {M : Int} (h1 : nb_ 100 R.1) (h2 : nb_ 100 R.2.1) (h3 : nb_ 100 R.2.2.1) (hM : nb_ 1 M) (hr : ∀ i, i < 3 → rl_ (rw4_ c b i)) : fbd_ (cf_ c b R M) := by
  obtain ⟨a1, a2, a3, a4⟩ := hr 0 (by omega)
  obtain ⟨b1, b2, b3, b4⟩ := hr 1 (by omega)
  obtain ⟨c1, c2, c3, c4⟩ := hr 2 (by omega)
  exact ⟨nb_w (nb_a (nb_a (nb_a (nb_n h1) (nb_m h1 a1)) (nb_m h2 b1)) (nb_m h3 c1)) (by decide), nb_w (nb_a (nb_a (nb_a (nb_n h2) (nb_m h1 a2)) (nb_m h2 b2)) (nb_m h3 c2)) (by decide), nb_w (nb_a (nb_a (nb_a (nb_n h3) (nb_m h1 a3)) (nb_m h2 b3)) (nb_m h3 c3)) (by decide), nb_w (nb_a (nb_a (nb_a (nb_n hM) (nb_m h1 a4)) (nb_m h2 b4)) (nb_m h3 c4)) (by decide)⟩
theorem i32m {x y : Int32} {A B : Nat} (hx : nb_ A x.toInt) (hy : nb_ B y.toInt) (h : A * B < 2 ^ 31) : Int32.toInt64 (x * y) = Int64.ofInt (x.toInt * y.toInt) := by
  rw [i64o]
  congr 1
  have m := nb_m hx hy
  unfold nb_ at m
  rw [Int32.toInt_mul]
  exact bm32 (by omega) (by omega)
theorem i32n {x : Int32} {A : Nat} (hx : nb_ A x.toInt) (h : A < 2 ^ 31) : Int32.toInt64 (-x) = Int64.ofInt (-x.toInt) := by
  rw [i64o]
  congr 1
  unfold nb_ at hx
  rw [Int32.toInt_neg]
  exact bm32 (by omega) (by omega)
/-- only the change -/
def cg8_ (b : Nat) (c u : xm_Y) : Prop := u.1 = c.1 ∧ ∀ q, q ≠ 8 + 24 * b → u.2 q = c.2 q
theorem cg8_.rf (b : Nat) (c : xm_Y) : cg8_ b c c := ⟨rfl, fun _ _ => rfl⟩
theorem cg8_.tr {b : Nat} {x y z : xm_Y} (h : cg8_ b x y) (g : cg8_ b y z) : cg8_ b x z := ⟨g.1.trans h.1, fun q hq => (g.2 q hq).trans (h.2 q hq)⟩
theorem cg8_.w {b : Nat} {c u : xm_Y} (h : cg8_ b c u) {j : Nat} {v : Int64} : cg8_ b c (w_J u (8 + 24 * b) j v) := ⟨h.1, fun q hq => (rJ_nc hq).trans (h.2 q hq)⟩
theorem ch3_ {b : Nat} {u : xm_Y} {f0 f1 f2 : Int} : ch_ (w_J (w_J (w_J u (8 + 24 * b) 0 (Int64.ofInt f0)) (8 + 24 * b) 1 (Int64.ofInt f1)) (8 + 24 * b) 2 (Int64.ofInt f2)) b (f0, f1, f2, 0) := by
  refine ⟨?_, ?_, ?_⟩
  · rw [rJ_ne (by omega), rJ_ne (by omega), rJ_eq]
  · rw [rJ_ne (by omega), rJ_eq]
  · rw [rJ_eq]
theorem chg7 {m b s : Nat} (hm : 10 ≤ m) {u : xm_Y} {R : V4_} (hR : sm3_ u s R) : ∃ u', (∃ l, lp_X1_changesAtMost_7 m b s m (0 : Int32) u = some (l, u')) ∧ cg8_ b u u' ∧ ch_ u' b (-R.1, -R.2.1, -R.2.2.1, 0) := by
  obtain ⟨r1, r2, r3, r4, n1, n2, n3⟩ := hR
  obtain ⟨f, rfl⟩ : ∃ f, m = f + 4 := ⟨m - 4, by omega⟩
  refine ⟨w_J (w_J (w_J u (8 + 24 * b) 0 (Int64.ofInt (-R.1))) (8 + 24 * b) 1 (Int64.ofInt (-R.2.1))) (8 + 24 * b) 2 (Int64.ofInt (-R.2.2.1)), ⟨3, ?_⟩, (((cg8_.rf b u).w).w).w, ch3_⟩
  rw [lp_X1_changesAtMost_7, if_neg (by decide), ck_t (by decide), ck_t (by decide)]
  simp only [xm_let]
  rw [lp_X1_changesAtMost_7, if_neg (by decide), ck_t (by decide), ck_t (by decide)]
  simp only [xm_let]
  rw [lp_X1_changesAtMost_7, if_neg (by decide), ck_t (by decide), ck_t (by decide)]
  simp only [xm_let]
  rw [lp_X1_changesAtMost_7, if_pos (by decide)]
  rw [← r1, ← r2, ← r3] at *
  rw [← i32n n1 (by decide), ← i32n n2 (by decide), ← i32n n3 (by decide)]
  rfl
theorem chg56 {m b s : Nat} (hm : 10 ≤ m) {u : xm_Y} {f : V4_} {i a6 : Nat} (hi : i < 3) {r : Int} {w : V4_} (hr : (u.1 s i).toInt = r) (nr : nb_ 100 r) (h0 : (u.1 a6 0).toInt = w.1) (h1 : (u.1 a6 1).toInt = w.2.1) (h2 : (u.1 a6 2).toInt = w.2.2.1) (hw : rl_ w) (hc : ch_ u b f) : ∃ u', (∃ l, lp_X1_changesAtMost_56 m b s (nI i) a6 m (0 : Int32) u = some (l, u')) ∧ cg8_ b u u' ∧ ch_ u' b (f.1 + r * w.1, f.2.1 + r * w.2.1, f.2.2.1 + r * w.2.2.1, 0) := by
  obtain ⟨c1, c2, c3⟩ := hc
  obtain ⟨n1, n2, n3, -⟩ := hw
  obtain ⟨g, rfl⟩ : ∃ g, m = g + 4 := ⟨m - 4, by omega⟩
  have ii : xm_in (nI i) 3 := nI_xi hi (by omega)
  have ci : (nI i).toNatClampNeg = i := nI_cl (by omega)
  have e0 : Int32.toInt64 (u.1 s i * u.1 a6 0) = Int64.ofInt (r * w.1) := by rw [i32m (A := 100) (B := 20) (by rw [hr]; exact nr) (by rw [h0]; exact n1) (by decide), hr, h0]
  have e1 : Int32.toInt64 (u.1 s i * u.1 a6 1) = Int64.ofInt (r * w.2.1) := by rw [i32m (A := 100) (B := 20) (by rw [hr]; exact nr) (by rw [h1]; exact n2) (by decide), hr, h1]
  have e2 : Int32.toInt64 (u.1 s i * u.1 a6 2) = Int64.ofInt (r * w.2.2.1) := by rw [i32m (A := 100) (B := 20) (by rw [hr]; exact nr) (by rw [h2]; exact n3) (by decide), hr, h2]
  refine ⟨w_J (w_J (w_J u (8 + 24 * b) 0 (Int64.ofInt (f.1 + r * w.1))) (8 + 24 * b) 1 (Int64.ofInt (f.2.1 + r * w.2.1))) (8 + 24 * b) 2 (Int64.ofInt (f.2.2.1 + r * w.2.2.1)), ⟨3, ?_⟩, (((cg8_.rf b u).w).w).w, ch3_⟩
  have s0 : u.2 (8 + 24 * b) (Int32.toNatClampNeg 0) + Int32.toInt64 (u.1 s (nI i).toNatClampNeg * u.1 a6 (Int32.toNatClampNeg 0)) = Int64.ofInt (f.1 + r * w.1) := by
    rw [ci, show u.2 (8 + 24 * b) (Int32.toNatClampNeg 0) = _ from c1, show u.1 a6 (Int32.toNatClampNeg 0) = u.1 a6 0 from rfl, e0, oa]
  rw [lp_X1_changesAtMost_56, if_neg (by decide), ck_t (by decide), ck_t ii, ck_t (by decide), ck_t (by decide), s0]
  simp only [xm_let]
  have s1 : (w_J u (8 + 24 * b) (Int32.toNatClampNeg 0) (Int64.ofInt (f.1 + r * w.1))).2 (8 + 24 * b) (Int32.toNatClampNeg (0 + 1)) + Int32.toInt64 ((w_J u (8 + 24 * b) (Int32.toNatClampNeg 0) (Int64.ofInt (f.1 + r * w.1))).1 s (nI i).toNatClampNeg * (w_J u (8 + 24 * b) (Int32.toNatClampNeg 0) (Int64.ofInt (f.1 + r * w.1))).1 a6 (Int32.toNatClampNeg (0 + 1))) = Int64.ofInt (f.2.1 + r * w.2.1) := by
    rw [rJ_ne (fun z => absurd z.2 (by decide)), ci, show u.2 (8 + 24 * b) (Int32.toNatClampNeg (0 + 1)) = _ from c2]
    show Int64.ofInt f.2.1 + Int32.toInt64 (u.1 s i * u.1 a6 1) = _
    rw [e1, oa]
  rw [lp_X1_changesAtMost_56, if_neg (by decide), ck_t (by decide), ck_t ii, ck_t (by decide), ck_t (by decide), s1]
  simp only [xm_let]
  have s2 : (w_J (w_J u (8 + 24 * b) (Int32.toNatClampNeg 0) (Int64.ofInt (f.1 + r * w.1))) (8 + 24 * b) (Int32.toNatClampNeg (0 + 1)) (Int64.ofInt (f.2.1 + r * w.2.1))).2 (8 + 24 * b) (Int32.toNatClampNeg (0 + 1 + 1)) + Int32.toInt64 ((w_J (w_J u (8 + 24 * b) (Int32.toNatClampNeg 0) (Int64.ofInt (f.1 + r * w.1))) (8 + 24 * b) (Int32.toNatClampNeg (0 + 1)) (Int64.ofInt (f.2.1 + r * w.2.1))).1 s (nI i).toNatClampNeg * (w_J (w_J u (8 + 24 * b) (Int32.toNatClampNeg 0) (Int64.ofInt (f.1 + r * w.1))) (8 + 24 * b) (Int32.toNatClampNeg (0 + 1)) (Int64.ofInt (f.2.1 + r * w.2.1))).1 a6 (Int32.toNatClampNeg (0 + 1 + 1))) = Int64.ofInt (f.2.2.1 + r * w.2.2.1) := by
    rw [rJ_ne (fun z => absurd z.2 (by decide)), rJ_ne (fun z => absurd z.2 (by decide)), ci, show u.2 (8 + 24 * b) (Int32.toNatClampNeg (0 + 1 + 1)) = _ from c3]
    show Int64.ofInt f.2.2.1 + Int32.toInt64 (u.1 s i * u.1 a6 2) = _
    rw [e2, oa]
  rw [lp_X1_changesAtMost_56, if_neg (by decide), ck_t (by decide), ck_t ii, ck_t (by decide), ck_t (by decide), s2]
  simp only [xm_let]
  rw [lp_X1_changesAtMost_56, if_pos (by decide)]
  rfl
theorem ev_changes {m b s : Nat} (hm : 200 ≤ m) (hb : b < 5) {u : xm_Y} {C D : List V4_} {R : V4_} (ps : ps_ u b (C ++ D) C.length) (hR : sm3_ u s R) (hL : ∀ P, P ∈ C ++ D → pb4_ P) (hr : ∀ i, i < 3 → rl_ (rw4_ u b i)) {x : Int32} (hx : x = 0 ∨ x = -1) : ∃ u', fn_X1_changesAtMost m b s x u = some (if nop_ (cf_ u b R x.toInt) (C ++ D) = true then 1 else 0, u') ∧ cg8_ b u u' := by
  obtain ⟨r1, r2, r3, r4, n1, n2, n3⟩ := id hR
  have nx : nb_ 1 x.toInt := by rcases hx with rfl | rfl <;> (unfold nb_; decide)
  obtain ⟨u0, ⟨l0, a1⟩, a2, a3⟩ := chg7 (m := m) (b := b) (by omega) hR
  obtain ⟨w00, w01, w02, w03⟩ := hr 0 (by omega)
  have q0 : ∀ v : xm_Y, cg8_ b u v → ∀ q j, v.1 q j = u.1 q j := fun v h q j => by rw [h.1]
  obtain ⟨u1, ⟨l1, b1⟩, b2, b3⟩ := chg56 (m := m) (b := b) (s := s) (i := 0) (a6 := 21 + 24 * b + 2 * 0 + 1) (r := R.1) (w := rw4_ u b 0) (by omega) (by omega) (by rw [q0 u0 a2]; exact r1) n1 (by rw [q0 u0 a2]; rfl) (by rw [q0 u0 a2]; rfl) (by rw [q0 u0 a2]; rfl) (hr 0 (by omega)) a3
  have c1f := a2.tr b2
  obtain ⟨u2, ⟨l2, d1⟩, d2, d3⟩ := chg56 (m := m) (b := b) (s := s) (i := 1) (a6 := 21 + 24 * b + 2 * 1 + 1) (r := R.2.1) (w := rw4_ u b 1) (by omega) (by omega) (by rw [q0 u1 c1f]; exact r2) n2 (by rw [q0 u1 c1f]; rfl) (by rw [q0 u1 c1f]; rfl) (by rw [q0 u1 c1f]; rfl) (hr 1 (by omega)) b3
  have c2f := c1f.tr d2
  obtain ⟨u3, ⟨l3, e1⟩, e2, e3⟩ := chg56 (m := m) (b := b) (s := s) (i := 2) (a6 := 21 + 24 * b + 2 * 2 + 1) (r := R.2.2.1) (w := rw4_ u b 2) (by omega) (by omega) (by rw [q0 u2 c2f]; exact r3) n3 (by rw [q0 u2 c2f]; rfl) (by rw [q0 u2 c2f]; rfl) (by rw [q0 u2 c2f]; rfl) (hr 2 (by omega)) d3
  have c3f := c2f.tr e2
  have k0 : Int32.toInt64 (u1.1 s 0 * u1.1 (21 + 24 * b + 2 * 0) 1) = Int64.ofInt (R.1 * (rw4_ u b 0).2.2.2) := by
    rw [q0 u1 c1f, q0 u1 c1f, i32m (A := 100) (B := 1000) (by rw [r1]; exact n1) w03 (by decide), r1]; rfl
  have k1 : Int32.toInt64 (u2.1 s 1 * u2.1 (21 + 24 * b + 2 * 1) 1) = Int64.ofInt (R.2.1 * (rw4_ u b 1).2.2.2) := by
    rw [q0 u2 c2f, q0 u2 c2f, i32m (A := 100) (B := 1000) (by rw [r2]; exact n2) (hr 1 (by omega)).2.2.2 (by decide), r2]; rfl
  have k2 : Int32.toInt64 (u3.1 s 2 * u3.1 (21 + 24 * b + 2 * 2) 1) = Int64.ofInt (R.2.2.1 * (rw4_ u b 2).2.2.2) := by
    rw [q0 u3 c3f, q0 u3 c3f, i32m (A := 100) (B := 1000) (by rw [r3]; exact n3) (hr 2 (by omega)).2.2.2 (by decide), r3]; rfl
  have kx : Int32.toInt64 (-x) = Int64.ofInt (-x.toInt) := i32n nx (by decide)
  have loop : ∃ l, lp_X1_changesAtMost_35 m b s m (Int32.toInt64 (-x)) (0 : Int32) u0 = some (Int64.ofInt (cf_ u b R x.toInt).2.2.2, l, u3) := by
    obtain ⟨g, hg⟩ : ∃ g, m = g + 4 := ⟨m - 4, by omega⟩
    refine ⟨3, ?_⟩
    have st : ∀ n, lp_X1_changesAtMost_35 m b s (n + 1) = fun l3 l5 u0 => if (3 : Int32) ≤ l5 then some (l3, l5, u0) else xm_chk (xm_in l5 3) ((lp_X1_changesAtMost_56 m b s l5 ((21 + 24 * b + 2 * (Int32.toNatClampNeg l5)) + 1) m (0 : Int32) u0).bind fun q11 => xm_chk (xm_in l5 3) (xm_chk (xm_in l5 3) (xm_let ((l3 + (Int32.toInt64 ((q11.2.1 s (Int32.toNatClampNeg l5)) * (q11.2.1 (21 + 24 * b + 2 * (Int32.toNatClampNeg l5)) 1))))) fun v13 => xm_let (l5 + (1 : Int32)) fun v14 => lp_X1_changesAtMost_35 m b s n v13 v14 q11.2))) := fun n => rfl
    have hm4 : lp_X1_changesAtMost_35 m b s m = lp_X1_changesAtMost_35 m b s (g + 3 + 1) := by rw [show g + 3 + 1 = m by omega]
    rw [hm4, st]
    simp only
    rw [if_neg (by decide), ck_t (by decide), show lp_X1_changesAtMost_56 m b s 0 (21 + 24 * b + 2 * (Int32.toNatClampNeg 0) + 1) m (0 : Int32) u0 = _ from b1]
    simp only [Option.bind_some, xm_let]
    rw [ck_t (by decide), show Int32.toInt64 (u1.1 s (Int32.toNatClampNeg 0) * u1.1 (21 + 24 * b + 2 * (Int32.toNatClampNeg 0)) 1) = _ from k0, show g + 3 = g + 2 + 1 from rfl, st]
    simp only
    rw [if_neg (by decide), ck_t (by decide), show lp_X1_changesAtMost_56 m b s (0 + 1) (21 + 24 * b + 2 * (Int32.toNatClampNeg (0 + 1)) + 1) m (0 : Int32) u1 = _ from d1]
    simp only [Option.bind_some, xm_let]
    rw [ck_t (by decide), show Int32.toInt64 (u2.1 s (Int32.toNatClampNeg (0 + 1)) * u2.1 (21 + 24 * b + 2 * (Int32.toNatClampNeg (0 + 1))) 1) = _ from k1, show g + 2 = g + 1 + 1 from rfl, st]
    simp only
    rw [if_neg (by decide), ck_t (by decide), show lp_X1_changesAtMost_56 m b s (0 + 1 + 1) (21 + 24 * b + 2 * (Int32.toNatClampNeg (0 + 1 + 1)) + 1) m (0 : Int32) u2 = _ from e1]
    simp only [Option.bind_some, xm_let]
    rw [ck_t (by decide), show Int32.toInt64 (u3.1 s (Int32.toNatClampNeg (0 + 1 + 1)) * u3.1 (21 + 24 * b + 2 * (Int32.toNatClampNeg (0 + 1 + 1))) 1) = _ from k2, st]
    simp only
    rw [if_pos (by decide), kx, oa, oa, oa]
    rfl
  obtain ⟨l5, loop⟩ := loop
  have ps3 : ps_ u3 b (C ++ D) C.length := by
    obtain ⟨p1, p2, p3, p4⟩ := ps
    refine ⟨by rw [q0 u3 c3f]; exact p1, by rw [q0 u3 c3f]; exact p2, p3, fun k P hP => ?_⟩
    rw [c3f.2 (7 + 24 * b) (by omega)]
    exact p4 k P hP
  have cf3 : ch_ u3 b (cf_ u b R x.toInt) := e3
  have l128 := ps.2.2.1
  obtain ⟨l6, nw⟩ := now_lp (m := m) ps3 cf3 (cf_b n1 n2 n3 nx hr) hL (C ++ D) 0 m (by omega) (by omega) (fun i P hP => by rw [Nat.zero_add]; exact hP)
  refine ⟨u3, ?_, c3f⟩
  rw [fn_X1_changesAtMost]
  simp only [xm_let]
  rw [a1]
  simp only [Option.bind_some]
  rw [loop]
  simp only [Option.bind_some]
  rw [fn_X6_isNowherePositive, show lp_X6_isNowherePositive_3 m b (Int64.ofInt (cf_ u b R x.toInt).2.2.2) u3 m (0 : Int32) = _ from nw]
  by_cases q : nop_ (cf_ u b R x.toInt) (C ++ D) = true
  · rw [if_pos q, if_pos q]; rfl
  · rw [if_neg q, if_neg q]; rfl
