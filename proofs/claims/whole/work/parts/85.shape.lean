theorem ev_gather {m b G : Nat} {c : xm_Y} {E : E_} (hm : 20 ≤ m) (hb : b < 5) (hG : c.1 (3 + 24 * b) 4 = nI G) (hG6 : G ≤ 6) (hE : bx_ c 128 E) (hbd : ∀ k, k < 6 → bd_ 1000000000 (E k)) : ∃ u', fn_X9_gather m b c = some ((), u') ∧ sx_ c u' ∧ sh_ u' (BB_ c b G E ++ xpl_ E 3) ∧ u'.1 136 2 = nI (BB_ c b G E).length := by
  have s0 : sx_ c (w_I c 136 1 0) := ⟨fun q hq => rI_nc hq, fun _ _ _ => rfl⟩
  have h0 : sh_ (w_I c 136 1 0) (gps_ c b 0) := ⟨rI_eq, by simp [gps_], fun k p hp => by simp [gps_] at hp⟩
  obtain ⟨l1, u1, a1, a2, a3⟩ := gat1_lp (m := m) hb hG hG6 G 0 m (w_I c 136 1 0) (by omega) (by omega) s0 h0
  have bl := bx_l E 3
  obtain ⟨l2, u2, b1, b2, b3⟩ := gat2_lp (m := m) (A := gps_ c b G) (by rw [gps_l]; omega) hE hbd 3 0 m u1 (by omega) (by omega) a2 (by show sh_ u1 (gps_ c b G ++ []); rw [List.append_nil]; exact a3)
  have s3 : sx_ c (w_I u2 136 2 (nI (BB_ c b G E).length)) := b2.tr ⟨fun q hq => rI_nc hq, fun _ _ _ => rfl⟩
  have h3 : sh_ (w_I u2 136 2 (nI (BB_ c b G E).length)) (BB_ c b G E ++ xpl_ E 0) := by
    show sh_ _ (BB_ c b G E ++ [])
    rw [List.append_nil]
    exact ⟨(rI_ne (by omega)).trans b3.1, b3.2.1, b3.2.2⟩
  obtain ⟨l3, u3, c1, c2, c3, c4⟩ := gat3_lp (m := m) (A := BB_ c b G E) (by unfold BB_; rw [List.length_append, gps_l]; omega) hE hbd 3 0 m (w_I u2 136 2 (nI (BB_ c b G E).length)) (by omega) (by omega) s3 h3
  refine ⟨u3, ?_, c2, c3, c4.trans rI_eq⟩
  rw [fn_X9_gather]
  simp only [xm_let]
  rw [show lp_X9_gather_7 m b m (0 : Int32) (w_I c 136 1 0) = _ from a1]
  simp only [Option.bind_some]
  rw [show lp_X9_gather_63 m m (0 : Int32) u1 = _ from b1]
  simp only [Option.bind_some]
  rw [show u2.1 136 1 = nI (BB_ c b G E).length from b3.1, show lp_X9_gather_137 m m (0 : Int32) _ = _ from c1]
  rfl
def bl_ (p : V4_) : Prop := nb_ 20 p.1 ∧ nb_ 20 p.2.1 ∧ nb_ 20 p.2.2.1 ∧ nb_ 1000000000 p.2.2.2
def pb4_ (p : V4_) : Prop := nb_ 2400000000000 p.1 ∧ nb_ 2400000000000 p.2.1 ∧ nb_ 2400000000000 p.2.2.1 ∧ nb_ 48000 p.2.2.2
theorem cx_b {a b : V4_} (ha : bl_ a) (hb : bl_ b) : nb_ 800 (cx_ a b).1 ∧ nb_ 800 (cx_ a b).2.1 ∧ nb_ 800 (cx_ a b).2.2.1 := by
  obtain ⟨a1, a2, a3, a4⟩ := ha
  obtain ⟨b1, b2, b3, b4⟩ := hb
  exact ⟨nb_s (nb_m a2 b3) (nb_m a3 b2), nb_s (nb_m a3 b1) (nb_m a1 b3), nb_s (nb_m a1 b2) (nb_m a2 b1)⟩
theorem d3_b {a b c : V4_} (ha : bl_ a) (hb : bl_ b) (hc : bl_ c) : nb_ 48000 (d3_ a b c) := by
  obtain ⟨x1, x2, x3⟩ := cx_b hb hc
  obtain ⟨a1, a2, a3, a4⟩ := ha
  exact nb_a (nb_a (nb_m a1 x1) (nb_m a2 x2)) (nb_m a3 x3)
theorem yy_as (a b c : V4_) : yy_ a b c = (a.2.2.2 * (cx_ b c).1 + b.2.2.2 * (cx_ c a).1 + c.2.2.2 * (cx_ a b).1, a.2.2.2 * (cx_ b c).2.1 + b.2.2.2 * (cx_ c a).2.1 + c.2.2.2 * (cx_ a b).2.1, a.2.2.2 * (cx_ b c).2.2.1 + b.2.2.2 * (cx_ c a).2.2.1 + c.2.2.2 * (cx_ a b).2.2.1, -d3_ a b c) := rfl
theorem yy_b {a b c : V4_} (ha : bl_ a) (hb : bl_ b) (hc : bl_ c) : pb4_ (yy_ a b c) := by
  obtain ⟨x1, x2, x3⟩ := cx_b hb hc
  obtain ⟨y1, y2, y3⟩ := cx_b hc ha
  obtain ⟨z1, z2, z3⟩ := cx_b ha hb
  have d := d3_b ha hb hc
  rw [yy_as]
  obtain ⟨a1, a2, a3, a4⟩ := ha
  obtain ⟨b1, b2, b3, b4⟩ := hb
  obtain ⟨c1, c2, c3, c4⟩ := hc
  exact ⟨nb_a (nb_a (nb_m a4 x1) (nb_m b4 y1)) (nb_m c4 z1), nb_a (nb_a (nb_m a4 x2) (nb_m b4 y2)) (nb_m c4 z2), nb_a (nb_a (nb_m a4 x3) (nb_m b4 y3)) (nb_m c4 z3), nb_n d⟩
theorem dp_b {g P : V4_} (hg : bl_ g) (hP : pb4_ P) : nb_ 1000000000000000000 (dp_ g P) := by
  obtain ⟨a1, a2, a3, a4⟩ := hg
  obtain ⟨b1, b2, b3, b4⟩ := hP
  exact nb_w (nb_a (nb_a (nb_a (nb_m a1 b1) (nb_m a2 b2)) (nb_m a3 b3)) (nb_m a4 b4)) (by decide)
theorem ev_cross {m : Nat} {u : xm_Y} {L : List V4_} (h : sh_ u L) {i j : Nat} {a b : V4_} (ha : L[i]? = some a) (hb : L[j]? = some b) : fn_X9_cross m (nI (4 * i)) (nI (4 * j)) 0 u = some (Int64.ofInt (cx_ a b).1, u) ∧ fn_X9_cross m (nI (4 * i)) (nI (4 * j)) 1 u = some (Int64.ofInt (cx_ a b).2.1, u) ∧ fn_X9_cross m (nI (4 * i)) (nI (4 * j)) 2 u = some (Int64.ofInt (cx_ a b).2.2.1, u) := by
  have il : i < L.length := by rw [List.getElem?_eq_some_iff] at ha; exact ha.1
  have jl : j < L.length := by rw [List.getElem?_eq_some_iff] at hb; exact hb.1
  have l12 := h.2.1
  obtain ⟨a1, a2, a3, -⟩ := h.2.2 i a ha
  obtain ⟨b1, b2, b3, -⟩ := h.2.2 j b hb
  have e1 : ∀ k, nI (4 * k) + 1 = nI (4 * k + 1) := fun k => nI_ad _ 1
  have e2 : ∀ k, nI (4 * k) + 2 = nI (4 * k + 2) := fun k => nI_ad _ 2
  have e0 : ∀ k, nI (4 * k) + 0 = nI (4 * k) := fun k => Int32.add_zero _
  have c0 : ∀ k, k < L.length → xm_in (nI (4 * k)) 48 := fun k hk => nI_xi (by omega) (by omega)
  have c1 : ∀ k, k < L.length → xm_in (nI (4 * k + 1)) 48 := fun k hk => nI_xi (by omega) (by omega)
  have c2 : ∀ k, k < L.length → xm_in (nI (4 * k + 2)) 48 := fun k hk => nI_xi (by omega) (by omega)
  have d0 : ∀ k, k < L.length → (nI (4 * k)).toNatClampNeg = 4 * k := fun k hk => nI_cl (by omega)
  have d1 : ∀ k, k < L.length → (nI (4 * k + 1)).toNatClampNeg = 4 * k + 1 := fun k hk => nI_cl (by omega)
  have d2 : ∀ k, k < L.length → (nI (4 * k + 2)).toNatClampNeg = 4 * k + 2 := fun k hk => nI_cl (by omega)
  refine ⟨?_, ?_, ?_⟩
  · rw [fn_X9_cross]
    show xm_chk (xm_in (nI (4 * i) + 1) 48) (xm_chk (xm_in (nI (4 * j) + 2) 48) (xm_chk (xm_in (nI (4 * i) + 2) 48) (xm_chk (xm_in (nI (4 * j) + 1) 48) (some (u.2 137 (nI (4 * i) + 1).toNatClampNeg * u.2 137 (nI (4 * j) + 2).toNatClampNeg - u.2 137 (nI (4 * i) + 2).toNatClampNeg * u.2 137 (nI (4 * j) + 1).toNatClampNeg, u))))) = _
    rw [e1, e2, e1, e2, ck_t (c1 i il), ck_t (c2 j jl), ck_t (c2 i il), ck_t (c1 j jl), d1 i il, d2 j jl, d2 i il, d1 j jl, a2, b3, a3, b2, om, om, os]
    rfl
  · rw [fn_X9_cross]
    show xm_chk (xm_in (nI (4 * i) + 2) 48) (xm_chk (xm_in (nI (4 * j) + 0) 48) (xm_chk (xm_in (nI (4 * i) + 0) 48) (xm_chk (xm_in (nI (4 * j) + 2) 48) (some (u.2 137 (nI (4 * i) + 2).toNatClampNeg * u.2 137 (nI (4 * j) + 0).toNatClampNeg - u.2 137 (nI (4 * i) + 0).toNatClampNeg * u.2 137 (nI (4 * j) + 2).toNatClampNeg, u))))) = _
    rw [e0, e0, e2, e2, ck_t (c2 i il), ck_t (c0 j jl), ck_t (c0 i il), ck_t (c2 j jl), d2 i il, d0 j jl, d0 i il, d2 j jl, a3, b1, a1, b3, om, om, os]
    rfl
  · rw [fn_X9_cross]
    show xm_chk (xm_in (nI (4 * i) + 0) 48) (xm_chk (xm_in (nI (4 * j) + 1) 48) (xm_chk (xm_in (nI (4 * i) + 1) 48) (xm_chk (xm_in (nI (4 * j) + 0) 48) (some (u.2 137 (nI (4 * i) + 0).toNatClampNeg * u.2 137 (nI (4 * j) + 1).toNatClampNeg - u.2 137 (nI (4 * i) + 1).toNatClampNeg * u.2 137 (nI (4 * j) + 0).toNatClampNeg, u))))) = _
    rw [e0, e0, e1, e1, ck_t (c0 i il), ck_t (c1 j jl), ck_t (c1 i il), ck_t (c0 j jl), d0 i il, d1 j jl, d1 i il, d0 j jl, a1, b2, a2, b1, om, om, os]
    rfl
def pt4_ (u : xm_Y) (P : V4_) : Prop := u.2 138 0 = Int64.ofInt P.1 ∧ u.2 138 1 = Int64.ofInt P.2.1 ∧ u.2 138 2 = Int64.ofInt P.2.2.1 ∧ u.2 138 3 = Int64.ofInt P.2.2.2
/-- only the point -/
def po_ (c u : xm_Y) : Prop := u.1 = c.1 ∧ ∀ q, q ≠ 138 → u.2 q = c.2 q
theorem po_.rf (c : xm_Y) : po_ c c := ⟨rfl, fun _ _ => rfl⟩
theorem po_.tr {a b c : xm_Y} (h : po_ a b) (g : po_ b c) : po_ a c := ⟨g.1.trans h.1, fun q hq => (g.2 q hq).trans (h.2 q hq)⟩
theorem po_.w {c u : xm_Y} (h : po_ c u) {j : Nat} {v : Int64} : po_ c (w_J u 138 j v) := ⟨h.1, fun q hq => (rJ_nc hq).trans (h.2 q hq)⟩
theorem sh_po {c u : xm_Y} {L : List V4_} (h : sh_ c L) (p : po_ c u) : sh_ u L := by
  obtain ⟨h1, h2, h3⟩ := h
  refine ⟨by rw [p.1]; exact h1, h2, fun k x hx => ?_⟩
  rw [p.2 137 (by decide)]
  exact h3 k x hx
def sn_ (d : Int) : Int := if d ≤ 0 then 1 else -1
def mt_ (a b c : V4_) : V4_ := lc_ (sn_ (d3_ a b c)) (yy_ a b c) 0 (yy_ a b c)
theorem mt_b {a b c : V4_} (ha : bl_ a) (hb : bl_ b) (hc : bl_ c) : pb4_ (mt_ a b c) := by
  obtain ⟨y1, y2, y3, y4⟩ := yy_b ha hb hc
  have s : ∀ {A : Nat} {y : Int}, nb_ A y → nb_ A (sn_ (d3_ a b c) * y + 0 * y) := fun {A} {y} h => by
    unfold nb_ sn_ at *
    split <;> omega
  exact ⟨s y1, s y2, s y3, s y4⟩
theorem ev_abs {m : Nat} {a : Int} (h : nb_ 1000000000000000000 a) (u : xm_Y) : fn_J9_abs_067f4 m (Int64.ofInt a) u = some (Int64.ofInt (a.natAbs : Int), u) := by
  rw [fn_J9_abs_067f4]
  by_cases q : a < 0
  · simp only [if_pos ((i64lt h (show nb_ _ (0 : Int) by unfold nb_; omega)).mpr q), if_neg (show ¬ (0 : Int64) ≤ Int64.ofInt a from fun z => absurd ((i64le (a := 0) (by unfold nb_; omega) h).mp z) (by omega)), ong, show -a = (a.natAbs : Int) by omega]
    first
    | rfl
    | (simp [ong, show -a = (a.natAbs : Int) by omega])
  · simp only [if_pos (show (0 : Int64) ≤ Int64.ofInt a from (i64le (a := 0) (by unfold nb_; omega) h).mpr (by omega)), show (a.natAbs : Int) = a by omega]
    first
    | rfl
    | skip
