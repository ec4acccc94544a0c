/-! points of a place -/
def ps_ (u : xm_Y) (b : Nat) (L : List V4_) (nc : Nat) : Prop := u.1 (6 + 24 * b) 1 = nI L.length ∧ u.1 (6 + 24 * b) 2 = nI nc ∧ L.length ≤ 128 ∧ ∀ (k : Nat) (P : V4_), L[k]? = some P → u.2 (7 + 24 * b) (4 * k) = Int64.ofInt P.1 ∧ u.2 (7 + 24 * b) (4 * k + 1) = Int64.ofInt P.2.1 ∧ u.2 (7 + 24 * b) (4 * k + 2) = Int64.ofInt P.2.2.1 ∧ u.2 (7 + 24 * b) (4 * k + 3) = Int64.ofInt P.2.2.2
def fr6_ (b : Nat) (c u : xm_Y) : Prop := (∀ q, q ≠ 6 + 24 * b → u.1 q = c.1 q) ∧ (∀ e, e ≠ 1 → e ≠ 2 → u.1 (6 + 24 * b) e = c.1 (6 + 24 * b) e) ∧ (∀ q, q ≠ 7 + 24 * b → q ≠ 138 → u.2 q = c.2 q)
theorem fr6_.rf (b : Nat) (c : xm_Y) : fr6_ b c c := ⟨fun _ _ => rfl, fun _ _ _ => rfl, fun _ _ _ => rfl⟩
theorem fr6_.tr {b : Nat} {x y z : xm_Y} (h : fr6_ b x y) (g : fr6_ b y z) : fr6_ b x z := ⟨fun q hq => (g.1 q hq).trans (h.1 q hq), fun e h1 h2 => (g.2.1 e h1 h2).trans (h.2.1 e h1 h2), fun q h1 h2 => (g.2.2 q h1 h2).trans (h.2.2 q h1 h2)⟩
theorem po_fr {b : Nat} {x y : xm_Y} (h : po_ x y) : fr6_ b x y := ⟨fun q _ => by rw [h.1], fun e _ _ => by rw [h.1], fun q _ h2 => h.2 q h2⟩
theorem sh_fr {b : Nat} (hb : b < 5) {c u : xm_Y} {L : List V4_} (h : sh_ c L) (p : fr6_ b c u) : sh_ u L := by
  obtain ⟨h1, h2, h3⟩ := h
  refine ⟨by rw [p.1 136 (by omega)]; exact h1, h2, fun k x hx => ?_⟩
  rw [p.2.2 137 (by omega) (by omega)]
  exact h3 k x hx
theorem ps_po {b : Nat} (hb : b < 5) {c u : xm_Y} {L : List V4_} {nc : Nat} (h : ps_ c b L nc) (p : po_ c u) : ps_ u b L nc := by
  obtain ⟨h1, h2, h3, h4⟩ := h
  refine ⟨by rw [p.1]; exact h1, by rw [p.1]; exact h2, h3, fun k x hx => ?_⟩
  rw [p.2 (7 + 24 * b) (by omega)]
  exact h4 k x hx
theorem v4_iff {P Q : V4_} (hP : pb4_ P) (hQ : pb4_ Q) : P = Q ↔ Int64.ofInt P.1 = Int64.ofInt Q.1 ∧ Int64.ofInt P.2.1 = Int64.ofInt Q.2.1 ∧ Int64.ofInt P.2.2.1 = Int64.ofInt Q.2.2.1 ∧ Int64.ofInt P.2.2.2 = Int64.ofInt Q.2.2.2 := by
  obtain ⟨p1, p2, p3, p4⟩ := hP
  obtain ⟨q1, q2, q3, q4⟩ := hQ
  rw [i64i (nb_w p1 (by decide)) (nb_w q1 (by decide)), i64i (nb_w p2 (by decide)) (nb_w q2 (by decide)), i64i (nb_w p3 (by decide)) (nb_w q3 (by decide)), i64i (nb_w p4 (by decide)) (nb_w q4 (by decide))]
  exact ⟨fun h => by rw [h]; exact ⟨rfl, rfl, rfl, rfl⟩, fun ⟨a, b, c, d⟩ => v4_ext a b c d⟩
theorem has_lp {m b : Nat} {u : xm_Y} {L : List V4_} {nc : Nat} {Q : V4_} (h : ps_ u b L nc) (hQ : pt4_ u Q) (bQ : pb4_ Q) (hL : ∀ P, P ∈ L → pb4_ P) : ∀ (xs : List V4_) (k f : Nat), k + xs.length = L.length → xs.length + 1 ≤ f → (∀ (i : Nat) (P : V4_), xs[i]? = some P → L[k + i]? = some P) → ∃ l : Int32, lp_X6_hasPoint_2 m b u f (nI (4 * k)) = some (if Q ∈ xs then .inl (1, u) else .inr l)
  | [], k, f, hk, hf, hx => by
    obtain ⟨f', rfl⟩ : ∃ f', f = f' + 1 := ⟨f - 1, by omega⟩
    have hk : k = L.length := hk
    subst hk
    have l12 := h.2.2.1
    exact ⟨nI (4 * L.length), by rw [lp_X6_hasPoint_2, h.1, show (4 : Int32) * nI L.length = nI (4 * L.length) from nI_mu 4 _, if_pos ((nIle (by omega) (by omega)).mpr (by omega)), if_neg (by simp)]⟩
  | P :: xs, k, f, hk, hf, hx => by
    obtain ⟨f', rfl⟩ : ∃ f', f = f' + 1 := ⟨f - 1, by omega⟩
    have hk : k + (xs.length + 1) = L.length := hk
    have hf : xs.length + 1 + 1 ≤ f' + 1 := hf
    have l12 := h.2.2.1
    have g0 : L[k]? = some P := hx 0 P rfl
    obtain ⟨a1, a2, a3, a4⟩ := h.2.2.2 k P g0
    obtain ⟨p1, p2, p3, p4⟩ := id hQ
    have bP := hL P (List.mem_of_getElem? g0)
    obtain ⟨l, ih⟩ := has_lp (m := m) h hQ bQ hL xs (k + 1) f' (by omega) (by omega) (fun i y hy => by
      have := hx (i + 1) y (by simpa using hy)
      rw [show k + 1 + i = k + (i + 1) by omega]; exact this)
    refine ⟨l, ?_⟩
    have e1 : nI (4 * k) + 1 = nI (4 * k + 1) := nI_ad _ 1
    have e2 : nI (4 * k) + 2 = nI (4 * k + 2) := nI_ad _ 2
    have e3 : nI (4 * k) + 3 = nI (4 * k + 3) := nI_ad _ 3
    have e4 : nI (4 * k) + 4 = nI (4 * (k + 1)) := nI_ad _ 4
    have i0 : xm_in (nI (4 * k)) 512 := nI_xi (by omega) (by omega)
    have i1 : xm_in (nI (4 * k + 1)) 512 := nI_xi (by omega) (by omega)
    have i2 : xm_in (nI (4 * k + 2)) 512 := nI_xi (by omega) (by omega)
    have i3 : xm_in (nI (4 * k + 3)) 512 := nI_xi (by omega) (by omega)
    rw [lp_X6_hasPoint_2, h.1, show (4 : Int32) * nI L.length = nI (4 * L.length) from nI_mu 4 _, if_neg (fun q => absurd ((nIle (by omega) (by omega)).mp q) (by omega)), e1, e2, e3, e4]
    simp only [ck_t i0, ck_t i1, ck_t i2, ck_t i3, ck_t (show xm_in (0 : Int32) 4 by decide), ck_t (show xm_in (1 : Int32) 4 by decide), ck_t (show xm_in (2 : Int32) 4 by decide), ck_t (show xm_in (3 : Int32) 4 by decide), nI_cl (show 4 * k < 2 ^ 31 by omega), nI_cl (show 4 * k + 1 < 2 ^ 31 by omega), nI_cl (show 4 * k + 2 < 2 ^ 31 by omega), nI_cl (show 4 * k + 3 < 2 ^ 31 by omega), a1, a2, a3, a4, show u.2 138 (Int32.toNatClampNeg 0) = _ from p1, show u.2 138 (Int32.toNatClampNeg 1) = _ from p2, show u.2 138 (Int32.toNatClampNeg 2) = _ from p3, show u.2 138 (Int32.toNatClampNeg 3) = _ from p4, xm_let]
    rw [ih]
    by_cases q : P = Q
    · obtain ⟨z1, z2, z3, z4⟩ := (v4_iff bP bQ).mp q
      rw [if_pos z1, if_pos z2, if_pos z3, if_pos z4, if_pos (by simp [q])]
    · have rest : (if Q ∈ P :: xs then Sum.inl ((1 : Int32), u) else Sum.inr l) = (if Q ∈ xs then Sum.inl ((1 : Int32), u) else Sum.inr l) := by
        simp [Ne.symm q]
      rw [rest]
      by_cases z1 : Int64.ofInt P.1 = Int64.ofInt Q.1
      · rw [if_pos z1]
        by_cases z2 : Int64.ofInt P.2.1 = Int64.ofInt Q.2.1
        · rw [if_pos z2]
          by_cases z3 : Int64.ofInt P.2.2.1 = Int64.ofInt Q.2.2.1
          · rw [if_pos z3, if_neg (fun z4 => q ((v4_iff bP bQ).mpr ⟨z1, z2, z3, z4⟩))]
          · rw [if_neg z3]
        · rw [if_neg z2]
      · rw [if_neg z1]
def adl_ (L : List V4_) (Q : V4_) : List V4_ := if Q ∈ L then L else L ++ [Q]
theorem cpJ4 {u : xm_Y} {p q o : Nat} (j : Nat) : (cp_J u p q 0 o 4).2 q j = if o ≤ j ∧ j < o + 4 then u.2 p (j - o) else u.2 q j := by
  have e : (cp_J u p q 0 o 4).2 q = va_cpy (u.2 p) (u.2 q) 0 o 4 := if_pos rfl
  rw [e]
  show (if o ≤ j ∧ j < o + 4 then u.2 p (0 + (j - o)) else u.2 q j) = _
  rw [Nat.zero_add]
theorem ev_add {m b : Nat} (hm : 200 ≤ m) (hb : b < 5) {u : xm_Y} {L : List V4_} {nc : Nat} {Q : V4_} (h : ps_ u b L nc) (hl : L.length < 128) (hQ : pt4_ u Q) (bQ : pb4_ Q) (hL : ∀ P, P ∈ L → pb4_ P) : ∃ u', fn_X6_add m b u = some ((), u') ∧ fr6_ b u u' ∧ ps_ u' b (adl_ L Q) (if Q ∈ L then nc else if 0 < Q.2.2.2 then L.length + 1 else nc) := by
  obtain ⟨l, e⟩ := has_lp (m := m) h hQ bQ hL L 0 m (by omega) (by omega) (fun i P hP => by rw [Nat.zero_add]; exact hP)
  obtain ⟨h1, h2, h3, h4⟩ := id h
  obtain ⟨p1, p2, p3, p4⟩ := id hQ
  rw [fn_X6_add, h1, if_neg (show ¬ (128 : Int32) ≤ nI L.length from fun q => absurd ((nIle (a := 128) (by omega) (by omega)).mp q) (by omega)), fn_X6_hasPoint, show lp_X6_hasPoint_2 m b u m (0 : Int32) = _ from e]
  unfold adl_
  by_cases q : Q ∈ L
  · rw [if_pos q, if_pos q, if_pos q]
    exact ⟨u, rfl, fr6_.rf b u, h⟩
  · rw [if_neg q, if_neg q, if_neg q]
    simp only [Option.bind_some, Sum.elim]
    rw [if_pos trivial, h1, show (4 : Int32) * nI L.length = nI (4 * L.length) from nI_mu 4 _, ck_t ⟨by decide, (nIle (a := 0) (by omega) (by omega)).mpr (by omega), by decide, by decide, by rw [nI_cl (by omega)]; show 4 * L.length + 4 ≤ 512; omega⟩, nI_cl (show 4 * L.length < 2 ^ 31 by omega)]
    simp only [xm_let]
    rw [show Int32.toNatClampNeg 0 = 0 from rfl, show Int32.toNatClampNeg 4 = 4 from rfl, show (cp_J u 138 (7 + 24 * b) 0 (4 * L.length) 4).1 (6 + 24 * b) 1 = nI L.length from h1, ← nI_succ, ck_t (by decide)]
    have c138 : (w_I (cp_J u 138 (7 + 24 * b) 0 (4 * L.length) 4) (6 + 24 * b) 1 (nI (L.length + 1))).2 138 (Int32.toNatClampNeg 3) = Int64.ofInt Q.2.2.2 := by
      show (cp_J u 138 (7 + 24 * b) 0 (4 * L.length) 4).2 138 3 = _
      unfold cp_J xm_u1
      simp only [if_neg (show ¬ 138 = 7 + 24 * b by omega)]
      exact p4
    have cnt : (w_I (cp_J u 138 (7 + 24 * b) 0 (4 * L.length) 4) (6 + 24 * b) 1 (nI (L.length + 1))).1 (6 + 24 * b) 1 = nI (L.length + 1) := rI_eq
    have fr : fr6_ b u (w_I (cp_J u 138 (7 + 24 * b) 0 (4 * L.length) 4) (6 + 24 * b) 1 (nI (L.length + 1))) := by
      refine ⟨fun q hq => rI_nc hq, fun e e1 e2 => rI_ne (by omega), fun q q1 q2 => ?_⟩
      show (cp_J u 138 (7 + 24 * b) 0 (4 * L.length) 4).2 q = _
      unfold cp_J xm_u1
      simp only [if_neg q1]
    have cells : ∀ (v : xm_Y), v.2 = (cp_J u 138 (7 + 24 * b) 0 (4 * L.length) 4).2 → ∀ (k : Nat) (P : V4_), (L ++ [Q])[k]? = some P → v.2 (7 + 24 * b) (4 * k) = Int64.ofInt P.1 ∧ v.2 (7 + 24 * b) (4 * k + 1) = Int64.ofInt P.2.1 ∧ v.2 (7 + 24 * b) (4 * k + 2) = Int64.ofInt P.2.2.1 ∧ v.2 (7 + 24 * b) (4 * k + 3) = Int64.ofInt P.2.2.2 := by
      intro v hv k P hP
      rw [hv, cpJ4, cpJ4, cpJ4, cpJ4]
      by_cases ek : k = L.length
      · subst ek
        have : P = Q := by simpa using hP.symm
        subst this
        rw [if_pos (by omega), if_pos (by omega), if_pos (by omega), if_pos (by omega), show 4 * L.length - 4 * L.length = 0 by omega, show 4 * L.length + 1 - 4 * L.length = 1 by omega, show 4 * L.length + 2 - 4 * L.length = 2 by omega, show 4 * L.length + 3 - 4 * L.length = 3 by omega]
        exact ⟨p1, p2, p3, p4⟩
      · have kl : k < L.length := by
          rw [List.getElem?_eq_some_iff] at hP
          have := hP.1
          simp at this
          omega
        rw [List.getElem?_append_left kl] at hP
        rw [if_neg (by omega), if_neg (by omega), if_neg (by omega), if_neg (by omega)]
        exact h4 k P hP
    rw [c138, cnt]
    by_cases pos : 0 < Q.2.2.2
    · rw [if_neg (show ¬ Int64.ofInt Q.2.2.2 ≤ 0 from fun z => absurd ((i64le (b := 0) (nb_w bQ.2.2.2 (by decide)) (by unfold nb_; omega)).mp z) (by omega)), if_pos pos]
      refine ⟨_, rfl, fr6_.tr fr ⟨fun q hq => rI_nc hq, fun e e1 e2 => rI_ne (by omega), fun _ _ _ => rfl⟩, ?_, ?_, by simp; omega, cells _ rfl⟩
      · rw [rI_ne (by omega), cnt]; simp
      · rw [rI_eq]
    · rw [if_pos (show Int64.ofInt Q.2.2.2 ≤ 0 from (i64le (b := 0) (nb_w bQ.2.2.2 (by decide)) (by unfold nb_; omega)).mpr (by omega)), if_neg pos]
      refine ⟨_, rfl, fr, by rw [cnt]; simp, ?_, by simp; omega, cells _ rfl⟩
      rw [rI_ne (by omega)]; exact h2
