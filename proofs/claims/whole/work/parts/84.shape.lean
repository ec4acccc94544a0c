/-! how large -/
def nb_ (A : Nat) (a : Int) : Prop := a.natAbs ≤ A
theorem nb_m {A B : Nat} {a b : Int} (ha : nb_ A a) (hb : nb_ B b) : nb_ (A * B) (a * b) := by
  unfold nb_ at *; rw [Int.natAbs_mul]; exact Nat.mul_le_mul ha hb
theorem nb_a {A B : Nat} {a b : Int} (ha : nb_ A a) (hb : nb_ B b) : nb_ (A + B) (a + b) := by
  unfold nb_ at *; omega
theorem nb_s {A B : Nat} {a b : Int} (ha : nb_ A a) (hb : nb_ B b) : nb_ (A + B) (a - b) := by
  unfold nb_ at *; omega
theorem nb_w {A B : Nat} {a : Int} (ha : nb_ A a) (h : A ≤ B) : nb_ B a := Nat.le_trans ha h
theorem nb_n {A : Nat} {a : Int} (ha : nb_ A a) : nb_ A (-a) := by
  unfold nb_ at *; omega
theorem i64t {a : Int} (h : nb_ 1000000000000000000 a) : (Int64.ofInt a).toInt = a := by
  unfold nb_ at h
  rw [Int64.toInt_ofInt]
  exact bm64 (by omega) (by omega)
theorem i64z {a : Int} (h : nb_ 1000000000000000000 a) : Int64.ofInt a = 0 ↔ a = 0 := by
  constructor
  · intro q
    have := congrArg Int64.toInt q
    rw [i64t h] at this
    exact this
  · intro q; rw [q]; rfl
theorem i64i {a b : Int} (h : nb_ 1000000000000000000 a) (g : nb_ 1000000000000000000 b) : Int64.ofInt a = Int64.ofInt b ↔ a = b := by
  constructor
  · intro q
    have := congrArg Int64.toInt q
    rw [i64t h, i64t g] at this
    exact this
  · intro q; rw [q]
theorem i64le {a b : Int} (h : nb_ 1000000000000000000 a) (g : nb_ 1000000000000000000 b) : Int64.ofInt a ≤ Int64.ofInt b ↔ a ≤ b := by
  rw [Int64.le_iff_toInt_le, i64t h, i64t g]
theorem i64lt {a b : Int} (h : nb_ 1000000000000000000 a) (g : nb_ 1000000000000000000 b) : Int64.ofInt a < Int64.ofInt b ↔ a < b := by
  rw [Int64.lt_iff_toInt_lt, i64t h, i64t g]
theorem om (a b : Int) : Int64.ofInt a * Int64.ofInt b = Int64.ofInt (a * b) := (Int64.ofInt_mul a b).symm
theorem oa (a b : Int) : Int64.ofInt a + Int64.ofInt b = Int64.ofInt (a + b) := (Int64.ofInt_add a b).symm
theorem os (a b : Int) : Int64.ofInt a - Int64.ofInt b = Int64.ofInt (a - b) := (Int64.ofInt_sub a b).symm
theorem ong (a : Int) : -Int64.ofInt a = Int64.ofInt (-a) := (Int64.ofInt_neg a).symm
/-! planes, gathered -/
def un_ (i : Nat) (s k : Int) : V4_ := (if i = 0 then s else 0, if i = 1 then s else 0, if i = 2 then s else 0, k)
def gp_ (c : xm_Y) (b g : Nat) : V4_ := (wc_ c (9 + 24 * b + 2 * g) 0, wc_ c (9 + 24 * b + 2 * g) 1, wc_ c (9 + 24 * b + 2 * g) 2, kc_ c (9 + 24 * b + 2 * g))
def gps_ (c : xm_Y) (b : Nat) : Nat → List V4_
  | 0 => []
  | k + 1 => gps_ c b k ++ [gp_ c b k]
def lop_ (i : Nat) : Option Int → List V4_
  | none => []
  | some v => [un_ i 1 (-v)]
def hip_ (i : Nat) : Option Int → List V4_
  | none => []
  | some v => [un_ i (-1) v]
def bpl_ (E : E_) : Nat → List V4_
  | 0 => []
  | i + 1 => bpl_ E i ++ (lop_ i (E (2 * i)) ++ hip_ i (E (2 * i + 1)))
def xp_ (i : Nat) : Option Int → Option Int → List V4_
  | none, none => [un_ i 1 0]
  | _, _ => []
def xpl_ (E : E_) : Nat → List V4_
  | 0 => []
  | i + 1 => xpl_ E i ++ xp_ i (E (2 * i)) (E (2 * i + 1))
def BB_ (c : xm_Y) (b G : Nat) (E : E_) : List V4_ := gps_ c b G ++ bpl_ E 3
theorem gps_l (c : xm_Y) (b : Nat) : ∀ k, (gps_ c b k).length = k
  | 0 => rfl
  | k + 1 => by unfold gps_; rw [List.length_append, gps_l c b k]; rfl
theorem bx_l (E : E_) : ∀ k, (bpl_ E k).length + 2 * (xpl_ E k).length ≤ 2 * k ∧ (xpl_ E k).length ≤ k
  | 0 => by unfold bpl_ xpl_; simp
  | k + 1 => by
    have ih := bx_l E k
    unfold bpl_ xpl_
    rw [List.length_append, List.length_append, List.length_append]
    have a : (lop_ k (E (2 * k))).length + (hip_ k (E (2 * k + 1))).length + 2 * (xp_ k (E (2 * k)) (E (2 * k + 1))).length ≤ 2 ∧ (xp_ k (E (2 * k)) (E (2 * k + 1))).length ≤ 1 := by
      cases E (2 * k) <;> cases E (2 * k + 1) <;> simp [lop_, hip_, xp_]
    omega
/-- the class's rows of planes -/
def sh_ (u : xm_Y) (L : List V4_) : Prop := u.1 136 1 = nI L.length ∧ L.length ≤ 12 ∧ ∀ (k : Nat) (p : V4_), L[k]? = some p → u.2 137 (4 * k) = Int64.ofInt p.1 ∧ u.2 137 (4 * k + 1) = Int64.ofInt p.2.1 ∧ u.2 137 (4 * k + 2) = Int64.ofInt p.2.2.1 ∧ u.2 137 (4 * k + 3) = Int64.ofInt p.2.2.2
/-- scratch of the shaper: its fields, planes, point -/
def sx_ (c u : xm_Y) : Prop := (∀ q, q ≠ 136 → u.1 q = c.1 q) ∧ (∀ q, q ≠ 137 → q ≠ 138 → u.2 q = c.2 q)
theorem sx_.rf (c : xm_Y) : sx_ c c := ⟨fun _ _ => rfl, fun _ _ _ => rfl⟩
theorem sx_.tr {a b c : xm_Y} (h : sx_ a b) (g : sx_ b c) : sx_ a c := ⟨fun q hq => (g.1 q hq).trans (h.1 q hq), fun q h1 h2 => (g.2 q h1 h2).trans (h.2 q h1 h2)⟩
theorem ev_addPlane {m : Nat} {u : xm_Y} {L : List V4_} (h : sh_ u L) (hl : L.length < 12) (p : V4_) : ∃ u', fn_X9_addPlane m (Int64.ofInt p.1) (Int64.ofInt p.2.1) (Int64.ofInt p.2.2.1) (Int64.ofInt p.2.2.2) u = some ((), u') ∧ sx_ u u' ∧ sh_ u' (L ++ [p]) := by
  obtain ⟨h1, h2, h3⟩ := h
  have e0 : (4 : Int32) * nI L.length = nI (4 * L.length) := nI_mu 4 _
  have e1 : nI (4 * L.length) + 1 = nI (4 * L.length + 1) := nI_ad _ 1
  have e2 : nI (4 * L.length) + 2 = nI (4 * L.length + 2) := nI_ad _ 2
  have e3 : nI (4 * L.length) + 3 = nI (4 * L.length + 3) := nI_ad _ 3
  have i0 : xm_in (nI (4 * L.length)) 48 := nI_xi (by omega) (by omega)
  have i1 : xm_in (nI (4 * L.length + 1)) 48 := nI_xi (by omega) (by omega)
  have i2 : xm_in (nI (4 * L.length + 2)) 48 := nI_xi (by omega) (by omega)
  have i3 : xm_in (nI (4 * L.length + 3)) 48 := nI_xi (by omega) (by omega)
  refine ⟨w_I (w_J (w_J (w_J (w_J u 137 (4 * L.length) (Int64.ofInt p.1)) 137 (4 * L.length + 1) (Int64.ofInt p.2.1)) 137 (4 * L.length + 2) (Int64.ofInt p.2.2.1)) 137 (4 * L.length + 3) (Int64.ofInt p.2.2.2)) 136 1 (nI (L.length + 1)), ?_, ⟨fun q hq => rI_nc hq, fun q hq _ => ?_⟩, rI_eq.trans (by simp), by simp; omega, fun k x hx => ?_⟩
  · rw [fn_X9_addPlane, h1, if_pos (show nI L.length < 12 from (nIlt (b := 12) (by omega) (by omega)).mpr hl)]
    have g : ∀ v : xm_Y, v.1 = u.1 → v.1 136 1 = nI L.length := fun v hv => by rw [hv]; exact h1
    simp only [xm_let, g (w_J u 137 _ _) rfl, g (w_J (w_J u 137 _ _) 137 _ _) rfl, g (w_J (w_J (w_J u 137 _ _) 137 _ _) 137 _ _) rfl, g (w_J (w_J (w_J (w_J u 137 _ _) 137 _ _) 137 _ _) 137 _ _) rfl, e0, e1, e2, e3, ck_t i0, ck_t i1, ck_t i2, ck_t i3, nI_cl (show 4 * L.length < 2 ^ 31 by omega), nI_cl (show 4 * L.length + 1 < 2 ^ 31 by omega), nI_cl (show 4 * L.length + 2 < 2 ^ 31 by omega), nI_cl (show 4 * L.length + 3 < 2 ^ 31 by omega)]
    rw [nI_succ]
  · show (w_J (w_J (w_J (w_J u 137 _ _) 137 _ _) 137 _ _) 137 _ _).2 q = u.2 q
    rw [rJ_nc hq, rJ_nc hq, rJ_nc hq, rJ_nc hq]
  · show (w_J (w_J (w_J (w_J u 137 _ _) 137 _ _) 137 _ _) 137 _ _).2 137 (4 * k) = _ ∧ (w_J (w_J (w_J (w_J u 137 _ _) 137 _ _) 137 _ _) 137 _ _).2 137 (4 * k + 1) = _ ∧ (w_J (w_J (w_J (w_J u 137 _ _) 137 _ _) 137 _ _) 137 _ _).2 137 (4 * k + 2) = _ ∧ (w_J (w_J (w_J (w_J u 137 _ _) 137 _ _) 137 _ _) 137 _ _).2 137 (4 * k + 3) = _
    by_cases e : k = L.length
    · subst e
      have : x = p := by simpa using hx.symm
      subst this
      refine ⟨?_, ?_, ?_, ?_⟩
      · rw [rJ_ne (by omega), rJ_ne (by omega), rJ_ne (by omega), rJ_eq]
      · rw [rJ_ne (by omega), rJ_ne (by omega), rJ_eq]
      · rw [rJ_ne (by omega), rJ_eq]
      · rw [rJ_eq]
    · have kl : k < L.length := by
        rw [List.getElem?_eq_some_iff] at hx
        have := hx.1
        simp at this
        omega
      rw [List.getElem?_append_left kl] at hx
      obtain ⟨a1, a2, a3, a4⟩ := h3 k x hx
      refine ⟨?_, ?_, ?_, ?_⟩
      · rw [rJ_ne (by omega), rJ_ne (by omega), rJ_ne (by omega), rJ_ne (by omega)]; exact a1
      · rw [rJ_ne (by omega), rJ_ne (by omega), rJ_ne (by omega), rJ_ne (by omega)]; exact a2
      · rw [rJ_ne (by omega), rJ_ne (by omega), rJ_ne (by omega), rJ_ne (by omega)]; exact a3
      · rw [rJ_ne (by omega), rJ_ne (by omega), rJ_ne (by omega), rJ_ne (by omega)]; exact a4
theorem gat1_lp {m b G : Nat} {c : xm_Y} (hb : b < 5) (hG : c.1 (3 + 24 * b) 4 = nI G) (hG6 : G ≤ 6) : ∀ (r k f : Nat) (u : xm_Y), k + r = G → r + 1 ≤ f → sx_ c u → sh_ u (gps_ c b k) → ∃ (l : Int32) (u' : xm_Y), lp_X9_gather_7 m b f (nI k) u = some (l, u') ∧ sx_ c u' ∧ sh_ u' (gps_ c b G)
  | 0, k, f, u, hk, hf, sx, sh => by
    obtain ⟨f', rfl⟩ : ∃ f', f = f' + 1 := ⟨f - 1, by omega⟩
    obtain rfl : k = G := by omega
    exact ⟨nI k, u, by rw [lp_X9_gather_7, sx.1 _ (by omega), hG, if_pos ((nIle (by omega) (by omega)).mpr (by omega))], sx, sh⟩
  | r + 1, k, f, u, hk, hf, sx, sh => by
    obtain ⟨f', rfl⟩ : ∃ f', f = f' + 1 := ⟨f - 1, by omega⟩
    obtain ⟨u1, a1, a2, a3⟩ := ev_addPlane (m := m) sh (by rw [gps_l]; omega) (gp_ c b k)
    obtain ⟨l, u', p1, p2, p3⟩ := gat1_lp (m := m) hb hG hG6 r (k + 1) f' u1 (by omega) (by omega) (sx.tr a2) a3
    refine ⟨l, u', ?_, p2, p3⟩
    have ik : xm_in (nI k) 6 := nI_xi (by omega) (by omega)
    rw [lp_X9_gather_7, sx.1 (3 + 24 * b) (by omega), hG, if_neg (fun q => absurd ((nIle (by omega) (by omega)).mp q) (by omega))]
    simp only [ck_t ik, ck_t (show xm_in (0 : Int32) 3 by decide), ck_t (show xm_in (1 : Int32) 3 by decide), ck_t (show xm_in (2 : Int32) 3 by decide), nI_cl (show k < 2 ^ 31 by omega), xm_let]
    rw [sx.1 (9 + 24 * b + 2 * k + 1) (by omega), sx.1 (9 + 24 * b + 2 * k) (by omega)]
    rw [show fn_X9_addPlane m (Int32.toInt64 (c.1 (9 + 24 * b + 2 * k + 1) (Int32.toNatClampNeg 0))) (Int32.toInt64 (c.1 (9 + 24 * b + 2 * k + 1) (Int32.toNatClampNeg 1))) (Int32.toInt64 (c.1 (9 + 24 * b + 2 * k + 1) (Int32.toNatClampNeg 2))) (Int32.toInt64 (c.1 (9 + 24 * b + 2 * k) 1)) u = some ((), u1) from a1]
    simp only [Option.bind_some]
    rw [← nI_succ, p1]
theorem ev_axis {m i : Nat} (hi : i < 3) {u : xm_Y} {L : List V4_} (h : sh_ u L) (hl : L.length < 12) (s k : Int) : ∃ u', fn_X9_addAxisPlane m (nI i) (Int64.ofInt s) (Int64.ofInt k) u = some ((), u') ∧ sx_ u u' ∧ sh_ u' (L ++ [un_ i s k]) := by
  obtain ⟨u', a1, a2, a3⟩ := ev_addPlane (m := m) h hl (un_ i s k)
  refine ⟨u', ?_, a2, a3⟩
  rw [fn_X9_addAxisPlane]
  have : i = 0 ∨ i = 1 ∨ i = 2 := by omega
  rcases this with rfl | rfl | rfl
  · show Option.bind (fn_X9_addPlane m (Int64.ofInt s) (Int64.ofInt 0) (Int64.ofInt 0) (Int64.ofInt k) u) _ = _
    rw [show fn_X9_addPlane m (Int64.ofInt s) (Int64.ofInt 0) (Int64.ofInt 0) (Int64.ofInt k) u = _ from a1]; rfl
  · show Option.bind (fn_X9_addPlane m (Int64.ofInt 0) (Int64.ofInt s) (Int64.ofInt 0) (Int64.ofInt k) u) _ = _
    rw [show fn_X9_addPlane m (Int64.ofInt 0) (Int64.ofInt s) (Int64.ofInt 0) (Int64.ofInt k) u = _ from a1]; rfl
  · show Option.bind (fn_X9_addPlane m (Int64.ofInt 0) (Int64.ofInt 0) (Int64.ofInt s) (Int64.ofInt k) u) _ = _
    rw [show fn_X9_addPlane m (Int64.ofInt 0) (Int64.ofInt 0) (Int64.ofInt s) (Int64.ofInt k) u = _ from a1]; rfl
theorem bx_sx {c u : xm_Y} {E : E_} (h : bx_ c 128 E) (sx : sx_ c u) : bx_ u 128 E := fun k hk => by rw [sx.2 128 (by decide) (by decide)]; exact h k hk
theorem gat2_lp {m : Nat} {c : xm_Y} {E : E_} {A : List V4_} (hA : A.length ≤ 6) (hE : bx_ c 128 E) (hb : ∀ k, k < 6 → bd_ 1000000000 (E k)) : ∀ (r i f : Nat) (u : xm_Y), i + r = 3 → r + 1 ≤ f → sx_ c u → sh_ u (A ++ bpl_ E i) → ∃ (l : Int32) (u' : xm_Y), lp_X9_gather_63 m f (nI i) u = some (l, u') ∧ sx_ c u' ∧ sh_ u' (A ++ bpl_ E 3)
  | 0, i, f, u, hi, hf, sx, sh => by
    obtain ⟨f', rfl⟩ : ∃ f', f = f' + 1 := ⟨f - 1, by omega⟩
    obtain rfl : i = 3 := by omega
    exact ⟨nI 3, u, by rw [lp_X9_gather_63, if_pos (by decide)], sx, sh⟩
  | r + 1, i, f, u, hi, hf, sx, sh => by
    obtain ⟨f', rfl⟩ : ∃ f', f = f' + 1 := ⟨f - 1, by omega⟩
    have len := (bx_l E i).1
    have h0 := hb (2 * i) (by omega)
    have h1 := hb (2 * i + 1) (by omega)
    -- the low end
    have lo : ∃ u1, (if ec_ (E (2 * i)) = -3000000000000 then some u else Option.bind (fn_X9_addAxisPlane m (nI i) 1 (-ec_ (E (2 * i))) u) fun q14 => some q14.2) = some u1 ∧ sx_ u u1 ∧ sh_ u1 (A ++ (bpl_ E i ++ lop_ i (E (2 * i)))) := by
      cases e : E (2 * i) with
      | none =>
        rw [if_pos (show ec_ none = -3000000000000 from rfl)]
        exact ⟨u, rfl, sx_.rf u, by show sh_ u (A ++ (bpl_ E i ++ [])); rw [List.append_nil]; exact sh⟩
      | some v =>
        rw [e] at h0
        have bv := h0 v rfl
        obtain ⟨u1, a1, a2, a3⟩ := ev_axis (m := m) (i := i) (by omega) sh (by rw [List.length_append]; omega) 1 (-v)
        rw [if_neg (show ¬ ec_ (some v) = -3000000000000 from ec_no (by omega) (by omega)), show -ec_ (some v) = Int64.ofInt (-v) from ong v, show fn_X9_addAxisPlane m (nI i) 1 (Int64.ofInt (-v)) u = _ from a1]
        refine ⟨u1, rfl, a2, ?_⟩
        show sh_ u1 (A ++ (bpl_ E i ++ [un_ i 1 (-v)]))
        rw [← List.append_assoc]; exact a3
    obtain ⟨u1, b1, b2, b3⟩ := lo
    have len2 : (A ++ (bpl_ E i ++ lop_ i (E (2 * i)))).length < 12 := by
      rw [List.length_append, List.length_append]
      have : (lop_ i (E (2 * i))).length ≤ 1 := by cases E (2 * i) <;> simp [lop_]
      omega
    have hi2 : ∃ u2, (if ec_ (E (2 * i + 1)) = -3000000000000 then some u1 else Option.bind (fn_X9_addAxisPlane m (nI i) (-1) (ec_ (E (2 * i + 1))) u1) fun q14 => some q14.2) = some u2 ∧ sx_ u1 u2 ∧ sh_ u2 (A ++ bpl_ E (i + 1)) := by
      cases e : E (2 * i + 1) with
      | none =>
        rw [if_pos (show ec_ none = -3000000000000 from rfl)]
        refine ⟨u1, rfl, sx_.rf u1, ?_⟩
        show sh_ u1 (A ++ (bpl_ E i ++ (lop_ i (E (2 * i)) ++ hip_ i (E (2 * i + 1)))))
        rw [e]
        show sh_ u1 (A ++ (bpl_ E i ++ (lop_ i (E (2 * i)) ++ [])))
        rw [List.append_nil]; exact b3
      | some v =>
        rw [e] at h1
        have bv := h1 v rfl
        obtain ⟨u2, a1, a2, a3⟩ := ev_axis (m := m) (i := i) (by omega) b3 len2 (-1) v
        rw [if_neg (show ¬ ec_ (some v) = -3000000000000 from ec_no (by omega) (by omega)), show fn_X9_addAxisPlane m (nI i) (-1) (ec_ (some v)) u1 = _ from a1]
        refine ⟨u2, rfl, a2, ?_⟩
        show sh_ u2 (A ++ (bpl_ E i ++ (lop_ i (E (2 * i)) ++ hip_ i (E (2 * i + 1)))))
        rw [e]
        show sh_ u2 (A ++ (bpl_ E i ++ (lop_ i (E (2 * i)) ++ [un_ i (-1) v])))
        rw [← List.append_assoc (bpl_ E i), ← List.append_assoc]; exact a3
    obtain ⟨u2, c1, c2, c3⟩ := hi2
    obtain ⟨l, u', p1, p2, p3⟩ := gat2_lp (m := m) hA hE hb r (i + 1) f' u2 (by omega) (by omega) ((sx.tr b2).tr c2) c3
    refine ⟨l, u', ?_, p2, p3⟩
    have n0 := ev_end (m := m) (o := 127) (i := i) (s := 0) (bx_sx hE sx) (by omega) (by omega)
    have n1 := ev_end (m := m) (o := 127) (i := i) (s := 1) (bx_sx hE (sx.tr b2)) (by omega) (by omega)
    rw [Nat.add_zero] at n0
    rw [lp_X9_gather_63, if_neg (show ¬ (3 : Int32) ≤ nI i from fun q => absurd ((nIle (a := 3) (by omega) (by omega)).mp q) (by omega)), show fn_X2_end m 127 (nI i) (0 : Int32) u = _ from n0]
    simp only [Option.bind_some]
    rw [show fn_X2_end m 127 (nI i) (0 : Int32) u = _ from n0]
    simp only [Option.bind_some]
    rw [b1]
    simp only [Option.bind_some]
    rw [show fn_X2_end m 127 (nI i) (1 : Int32) u1 = _ from n1]
    simp only [Option.bind_some]
    rw [show fn_X2_end m 127 (nI i) (1 : Int32) u1 = _ from n1]
    simp only [Option.bind_some]
    rw [c1]
    simp only [Option.bind_some, xm_let]
    rw [← nI_succ, p1]
theorem gat3_lp {m : Nat} {c : xm_Y} {E : E_} {A : List V4_} (hA : A.length + 2 * (xpl_ E 3).length ≤ 12) (hE : bx_ c 128 E) (hb : ∀ k, k < 6 → bd_ 1000000000 (E k)) : ∀ (r i f : Nat) (u : xm_Y), i + r = 3 → r + 1 ≤ f → sx_ c u → sh_ u (A ++ xpl_ E i) → ∃ (l : Int32) (u' : xm_Y), lp_X9_gather_137 m f (nI i) u = some (l, u') ∧ sx_ c u' ∧ sh_ u' (A ++ xpl_ E 3) ∧ u'.1 136 2 = u.1 136 2
  | 0, i, f, u, hi, hf, sx, sh => by
    obtain ⟨f', rfl⟩ : ∃ f', f = f' + 1 := ⟨f - 1, by omega⟩
    obtain rfl : i = 3 := by omega
    exact ⟨nI 3, u, by rw [lp_X9_gather_137, if_pos (by decide)], sx, sh, rfl⟩
  | r + 1, i, f, u, hi, hf, sx, sh => by
    obtain ⟨f', rfl⟩ : ∃ f', f = f' + 1 := ⟨f - 1, by omega⟩
    have h0 := hb (2 * i) (by omega)
    have h1 := hb (2 * i + 1) (by omega)
    have n0 := ev_end (m := m) (o := 127) (i := i) (s := 0) (bx_sx hE sx) (by omega) (by omega)
    have n1 := ev_end (m := m) (o := 127) (i := i) (s := 1) (bx_sx hE sx) (by omega) (by omega)
    rw [Nat.add_zero] at n0
    have go : ∀ u1, sx_ u u1 → sh_ u1 (A ++ xpl_ E (i + 1)) → u1.1 136 2 = u.1 136 2 → ∃ (l : Int32) (u' : xm_Y), lp_X9_gather_137 m f' (nI i + 1) u1 = some (l, u') ∧ sx_ c u' ∧ sh_ u' (A ++ xpl_ E 3) ∧ u'.1 136 2 = u.1 136 2 := by
      intro u1 a b e
      obtain ⟨l, u', p1, p2, p3, p4⟩ := gat3_lp (m := m) hA hE hb r (i + 1) f' u1 (by omega) (by omega) (sx.tr a) b
      exact ⟨l, u', by rw [← nI_succ]; exact p1, p2, p3, p4.trans e⟩
    rw [lp_X9_gather_137, if_neg (show ¬ (3 : Int32) ≤ nI i from fun q => absurd ((nIle (a := 3) (by omega) (by omega)).mp q) (by omega)), show fn_X2_end m 127 (nI i) (0 : Int32) u = _ from n0]
    simp only [Option.bind_some, xm_let]
    have nop : ∀ {x : List V4_}, xp_ i (E (2 * i)) (E (2 * i + 1)) = [] → sh_ u (A ++ xpl_ E (i + 1)) := by
      intro _ e
      show sh_ u (A ++ (xpl_ E i ++ xp_ i (E (2 * i)) (E (2 * i + 1))))
      rw [e, List.append_nil]; exact sh
    cases e0 : E (2 * i) with
    | some v =>
      rw [e0] at h0
      have bv := h0 v rfl
      rw [if_neg (show ¬ ec_ (some v) = -3000000000000 from ec_no (by omega) (by omega))]
      simp only [Option.bind_some]
      exact go u (sx_.rf u) (nop (x := []) (by rw [e0]; cases E (2 * i + 1) <;> rfl)) rfl
    | none =>
      rw [if_pos (show ec_ none = -3000000000000 from rfl), show fn_X2_end m 127 (nI i) (1 : Int32) u = _ from n1]
      simp only [Option.bind_some]
      cases e1 : E (2 * i + 1) with
      | some v =>
        rw [e1] at h1
        have bv := h1 v rfl
        rw [if_neg (show ¬ ec_ (some v) = -3000000000000 from ec_no (by omega) (by omega))]
        simp only [Option.bind_some]
        exact go u (sx_.rf u) (nop (x := []) (by rw [e0, e1]; rfl)) rfl
      | none =>
        rw [if_pos (show ec_ none = -3000000000000 from rfl)]
        have lx : (xpl_ E i).length ≤ i := (bx_l E i).2
        have lm : (xpl_ E i).length + 1 ≤ (xpl_ E 3).length := by
          have s : (xpl_ E (i + 1)).length = (xpl_ E i).length + 1 := by
            show (xpl_ E i ++ xp_ i (E (2 * i)) (E (2 * i + 1))).length = _
            rw [e0, e1, List.length_append]; rfl
          have mono : ∀ a, (xpl_ E a).length ≤ (xpl_ E (a + 1)).length := fun a => by
            show _ ≤ (xpl_ E a ++ _).length
            rw [List.length_append]; omega
          have : i = 0 ∨ i = 1 ∨ i = 2 := by omega
          rcases this with rfl | rfl | rfl
          · have s : (xpl_ E 1).length = (xpl_ E 0).length + 1 := s
            have m1 : (xpl_ E 1).length ≤ (xpl_ E 2).length := mono 1
            have m2 : (xpl_ E 2).length ≤ (xpl_ E 3).length := mono 2
            omega
          · have s : (xpl_ E 2).length = (xpl_ E 1).length + 1 := s
            have m2 : (xpl_ E 2).length ≤ (xpl_ E 3).length := mono 2
            omega
          · have s : (xpl_ E 3).length = (xpl_ E 2).length + 1 := s
            omega
        obtain ⟨u1, a1, a2, a3⟩ := ev_axis (m := m) (i := i) (by omega) sh (by rw [List.length_append]; omega) 1 0
        rw [show fn_X9_addAxisPlane m (nI i) 1 0 u = _ from a1]
        simp only [Option.bind_some]
        refine go u1 a2 ?_ ?_
        · show sh_ u1 (A ++ (xpl_ E i ++ xp_ i (E (2 * i)) (E (2 * i + 1))))
          rw [e0, e1]
          show sh_ u1 (A ++ (xpl_ E i ++ [un_ i 1 0]))
          rw [← List.append_assoc]; exact a3
        · -- the bounding count stays
          have := a1
          rw [fn_X9_addAxisPlane] at this
          have h12 : (A ++ xpl_ E i).length < 12 := by rw [List.length_append]; omega
          obtain ⟨x0, x1, x2, hx⟩ : ∃ x0 x1 x2, fn_X9_addPlane m x0 x1 x2 (Int64.ofInt 0) u = some ((), u1) := by
            have : i = 0 ∨ i = 1 ∨ i = 2 := by omega
            rcases this with rfl | rfl | rfl
            · refine ⟨Int64.ofInt 1, 0, 0, ?_⟩
              have q := a1
              rw [fn_X9_addAxisPlane] at q
              have q : Option.bind (fn_X9_addPlane m (Int64.ofInt 1) 0 0 (Int64.ofInt 0) u) (fun q10 => some ((), q10.2)) = some ((), u1) := q
              cases w : fn_X9_addPlane m (Int64.ofInt 1) 0 0 (Int64.ofInt 0) u with
              | none => rw [w] at q; cases q
              | some z => rw [w] at q; obtain ⟨⟨⟩, z⟩ := z; exact q
            · refine ⟨0, Int64.ofInt 1, 0, ?_⟩
              have q := a1
              rw [fn_X9_addAxisPlane] at q
              have q : Option.bind (fn_X9_addPlane m 0 (Int64.ofInt 1) 0 (Int64.ofInt 0) u) (fun q10 => some ((), q10.2)) = some ((), u1) := q
              cases w : fn_X9_addPlane m 0 (Int64.ofInt 1) 0 (Int64.ofInt 0) u with
              | none => rw [w] at q; cases q
              | some z => rw [w] at q; obtain ⟨⟨⟩, z⟩ := z; exact q
            · refine ⟨0, 0, Int64.ofInt 1, ?_⟩
              have q := a1
              rw [fn_X9_addAxisPlane] at q
              have q : Option.bind (fn_X9_addPlane m 0 0 (Int64.ofInt 1) (Int64.ofInt 0) u) (fun q10 => some ((), q10.2)) = some ((), u1) := q
              cases w : fn_X9_addPlane m 0 0 (Int64.ofInt 1) (Int64.ofInt 0) u with
              | none => rw [w] at q; cases q
              | some z => rw [w] at q; obtain ⟨⟨⟩, z⟩ := z; exact q
          rw [fn_X9_addPlane] at hx
          split at hx
          · simp only [xm_let, xm_chk] at hx
            split at hx
            · split at hx
              · split at hx
                · split at hx
                  · cases hx
                    exact rI_ne (by omega)
                  · cases hx
                · cases hx
              · cases hx
            · cases hx
          · cases hx; rfl
