theorem mtp4 {a b c : V4_} (h : d3_ a b c ≠ 0) : (mt_ a b c).2.2.2 = ((d3_ a b c).natAbs : Int) ∧ 0 < (mt_ a b c).2.2.2 := by
  have e : (mt_ a b c).2.2.2 = sn_ (d3_ a b c) * -d3_ a b c + 0 * -d3_ a b c := by
    unfold mt_ lc_; rw [yy_as]
  rw [e]
  unfold sn_
  split <;> omega
theorem ev_meet {m : Nat} {u : xm_Y} {L : List V4_} (h : sh_ u L) {i j k : Nat} {a b c : V4_} (ha : L[i]? = some a) (hb : L[j]? = some b) (hc : L[k]? = some c) (la : bl_ a) (lb : bl_ b) (lc : bl_ c) : ∃ u', fn_X9_meet m (nI (4 * i)) (nI (4 * j)) (nI (4 * k)) u = some (if d3_ a b c = 0 then 0 else 1, u') ∧ po_ u u' ∧ (d3_ a b c ≠ 0 → pt4_ u' (mt_ a b c)) := by
  have il : i < L.length := by rw [List.getElem?_eq_some_iff] at ha; exact ha.1
  have jl : j < L.length := by rw [List.getElem?_eq_some_iff] at hb; exact hb.1
  have kl : k < L.length := by rw [List.getElem?_eq_some_iff] at hc; exact hc.1
  have l12 := h.2.1
  obtain ⟨bc0, bc1, bc2⟩ := ev_cross (m := m) h hb hc
  obtain ⟨a1, a2, a3, a4⟩ := h.2.2 i a ha
  obtain ⟨b1, b2, b3, b4⟩ := h.2.2 j b hb
  obtain ⟨c1, c2, c3, c4⟩ := h.2.2 k c hc
  have e1 : nI (4 * i) + 1 = nI (4 * i + 1) := nI_ad _ 1
  have e2 : nI (4 * i) + 2 = nI (4 * i + 2) := nI_ad _ 2
  have e3 : ∀ k, nI (4 * k) + 3 = nI (4 * k + 3) := fun k => nI_ad _ 3
  have i0 : xm_in (nI (4 * i)) 48 := nI_xi (by omega) (by omega)
  have i1 : xm_in (nI (4 * i + 1)) 48 := nI_xi (by omega) (by omega)
  have i2 : xm_in (nI (4 * i + 2)) 48 := nI_xi (by omega) (by omega)
  have i3 : ∀ k, k < L.length → xm_in (nI (4 * k + 3)) 48 := fun k hk => nI_xi (by omega) (by omega)
  have dd := d3_b la lb lc
  have dd18 : nb_ 1000000000000000000 (d3_ a b c) := nb_w dd (by decide)
  rw [fn_X9_meet, bc0]
  simp only [Option.bind_some]
  rw [bc1]
  simp only [Option.bind_some]
  rw [bc2]
  simp only [Option.bind_some, xm_let]
  rw [e1, e2, e3, e3, e3, ck_t i0, ck_t i1, ck_t i2, nI_cl (show 4 * i < 2 ^ 31 by omega), nI_cl (show 4 * i + 1 < 2 ^ 31 by omega), nI_cl (show 4 * i + 2 < 2 ^ 31 by omega), nI_cl (show 4 * i + 3 < 2 ^ 31 by omega), nI_cl (show 4 * j + 3 < 2 ^ 31 by omega), nI_cl (show 4 * k + 3 < 2 ^ 31 by omega), a1, a2, a3, a4, b4, c4, om, om, om, oa, oa]
  rw [show a.1 * (cx_ b c).1 + a.2.1 * (cx_ b c).2.1 + a.2.2.1 * (cx_ b c).2.2.1 = d3_ a b c from rfl]
  by_cases hd : d3_ a b c = 0
  · rw [if_pos ((i64z dd18).mpr hd), if_pos hd]
    exact ⟨u, rfl, po_.rf u, fun z => absurd hd z⟩
  · rw [if_neg (fun z => hd ((i64z dd18).mp z)), if_neg hd]
    have sg : ((if Int64.ofInt (d3_ a b c) ≤ 0 then some (1 : Int64) else some (-1 : Int64)) : Option Int64) = some (Int64.ofInt (sn_ (d3_ a b c))) := by
      unfold sn_
      by_cases q : d3_ a b c ≤ 0
      · rw [if_pos (show Int64.ofInt (d3_ a b c) ≤ 0 from (i64le (b := 0) dd18 (by unfold nb_; omega)).mpr q), if_pos q]; rfl
      · rw [if_neg (show ¬ Int64.ofInt (d3_ a b c) ≤ 0 from fun z => q ((i64le (b := 0) dd18 (by unfold nb_; omega)).mp z)), if_neg q]; rfl
    rw [sg]
    simp only [Option.bind_some]
    rw [ck_t (i3 j jl), ck_t (i3 k kl), ck_t (i3 i il)]
    obtain ⟨ca0, -, -⟩ := ev_cross (m := m) h hc ha
    obtain ⟨ab0, -, -⟩ := ev_cross (m := m) h ha hb
    rw [ca0]
    simp only [Option.bind_some]
    rw [ab0]
    simp only [Option.bind_some]
    rw [ck_t (by decide), ck_t (i3 i il)]
    generalize hv1 : w_J u 138 (Int32.toNatClampNeg 0) (Int64.ofInt (sn_ (d3_ a b c)) * (Int64.ofInt a.2.2.2 * Int64.ofInt (cx_ b c).1 + Int64.ofInt b.2.2.2 * Int64.ofInt (cx_ c a).1 + Int64.ofInt c.2.2.2 * Int64.ofInt (cx_ a b).1)) = v1
    have pv1 : po_ u v1 := by rw [← hv1]; exact (po_.rf u).w
    obtain ⟨-, ca1, -⟩ := ev_cross (m := m) (sh_po h pv1) hc ha
    obtain ⟨-, ab1, -⟩ := ev_cross (m := m) (sh_po h pv1) ha hb
    rw [ca1]
    simp only [Option.bind_some]
    rw [ab1]
    simp only [Option.bind_some]
    rw [ck_t (by decide), ck_t (i3 i il), show v1.2 137 (4 * i + 3) = Int64.ofInt a.2.2.2 from ((sh_po h pv1).2.2 i a ha).2.2.2]
    generalize hv2 : w_J v1 138 (Int32.toNatClampNeg 1) (Int64.ofInt (sn_ (d3_ a b c)) * (Int64.ofInt a.2.2.2 * Int64.ofInt (cx_ b c).2.1 + Int64.ofInt b.2.2.2 * Int64.ofInt (cx_ c a).2.1 + Int64.ofInt c.2.2.2 * Int64.ofInt (cx_ a b).2.1)) = v2
    have pv2 : po_ u v2 := by rw [← hv2]; exact pv1.w
    obtain ⟨-, -, ca2⟩ := ev_cross (m := m) (sh_po h pv2) hc ha
    obtain ⟨-, -, ab2⟩ := ev_cross (m := m) (sh_po h pv2) ha hb
    rw [ca2]
    simp only [Option.bind_some]
    rw [ab2]
    simp only [Option.bind_some]
    rw [ck_t (by decide), show v2.2 137 (4 * i + 3) = Int64.ofInt a.2.2.2 from ((sh_po h pv2).2.2 i a ha).2.2.2, ev_abs dd18]
    simp only [Option.bind_some]
    rw [ck_t (by decide)]
    refine ⟨_, rfl, (pv2.w).w, fun _ => ?_⟩
    have z : ∀ y : Int, sn_ (d3_ a b c) * y = sn_ (d3_ a b c) * y + 0 * y := fun y => by omega
    have m0 : (mt_ a b c).1 = sn_ (d3_ a b c) * (a.2.2.2 * (cx_ b c).1 + b.2.2.2 * (cx_ c a).1 + c.2.2.2 * (cx_ a b).1) := (z _).symm
    have m1 : (mt_ a b c).2.1 = sn_ (d3_ a b c) * (a.2.2.2 * (cx_ b c).2.1 + b.2.2.2 * (cx_ c a).2.1 + c.2.2.2 * (cx_ a b).2.1) := (z _).symm
    have m2 : (mt_ a b c).2.2.1 = sn_ (d3_ a b c) * (a.2.2.2 * (cx_ b c).2.2.1 + b.2.2.2 * (cx_ c a).2.2.1 + c.2.2.2 * (cx_ a b).2.2.1) := (z _).symm
    refine ⟨?_, ?_, ?_, ?_⟩
    · rw [rJ_ne (by decide), rJ_ne (by decide), ← hv2, rJ_ne (by decide), ← hv1]
      show (w_J u 138 0 _).2 138 0 = _
      rw [rJ_eq, om, om, om, oa, oa, om, m0]
    · rw [rJ_ne (by decide), rJ_ne (by decide), ← hv2]
      show (w_J v1 138 1 _).2 138 1 = _
      rw [rJ_eq, om, om, om, oa, oa, om, m1]
    · rw [rJ_ne (by decide)]
      show (w_J v2 138 2 _).2 138 2 = _
      rw [rJ_eq, om, om, om, oa, oa, om, m2]
    · show (w_J _ 138 3 _).2 138 3 = _
      rw [rJ_eq, (mtp4 hd).1]
def ins_ (P : V4_) : List V4_ → Bool
  | [] => true
  | g :: B => decide (0 ≤ dp_ g P) && ins_ P B
theorem ins_t {P : V4_} : ∀ {B : List V4_}, ins_ P B = true ↔ ∀ g, g ∈ B → 0 ≤ dp_ g P
  | [] => by simp [ins_]
  | g :: B => by
    unfold ins_
    rw [Bool.and_eq_true, decide_eq_true_iff, ins_t (B := B)]
    simp
theorem ins_lp {m : Nat} {u : xm_Y} {L : List V4_} {P : V4_} {mB : Nat} (h : sh_ u L) (hm2 : u.1 136 2 = nI mB) (hmB : mB ≤ L.length) (hP : pt4_ u P) (bP : pb4_ P) (hb : ∀ g, g ∈ L → bl_ g) : ∀ (xs : List V4_) (k f : Nat), k + xs.length = mB → xs.length + 1 ≤ f → (∀ (i : Nat) (g : V4_), xs[i]? = some g → L[k + i]? = some g) → ∃ l : Int32, lp_X9_isInside_2 m u f (nI (4 * k)) = some (if ins_ P xs = true then .inr l else .inl (0, u))
  | [], k, f, hk, hf, hx => by
    obtain ⟨f', rfl⟩ : ∃ f', f = f' + 1 := ⟨f - 1, by omega⟩
    have hk : k = mB := hk
    subst hk
    have l12 := h.2.1
    exact ⟨nI (4 * k), by rw [lp_X9_isInside_2, hm2, show (4 : Int32) * nI k = nI (4 * k) from nI_mu 4 k, if_pos ((nIle (by omega) (by omega)).mpr (by omega))]; rfl⟩
  | g :: xs, k, f, hk, hf, hx => by
    obtain ⟨f', rfl⟩ : ∃ f', f = f' + 1 := ⟨f - 1, by omega⟩
    have hk : k + (xs.length + 1) = mB := hk
    have hf : xs.length + 1 + 1 ≤ f' + 1 := hf
    have l12 := h.2.1
    have g0 : L[k]? = some g := hx 0 g rfl
    obtain ⟨a1, a2, a3, a4⟩ := h.2.2 k g g0
    obtain ⟨p1, p2, p3, p4⟩ := id hP
    have gb := hb g (List.mem_of_getElem? g0)
    obtain ⟨l, ih⟩ := ins_lp (m := m) h hm2 hmB hP bP hb xs (k + 1) f' (by omega) (by omega) (fun i y hy => by
      have := hx (i + 1) y (by simpa using hy)
      rw [show k + 1 + i = k + (i + 1) by omega]; exact this)
    refine ⟨l, ?_⟩
    have e1 : nI (4 * k) + 1 = nI (4 * k + 1) := nI_ad _ 1
    have e2 : nI (4 * k) + 2 = nI (4 * k + 2) := nI_ad _ 2
    have e3 : nI (4 * k) + 3 = nI (4 * k + 3) := nI_ad _ 3
    have e4 : nI (4 * k) + 4 = nI (4 * (k + 1)) := nI_ad _ 4
    rw [lp_X9_isInside_2, hm2, show (4 : Int32) * nI mB = nI (4 * mB) from nI_mu 4 mB, if_neg (fun q => absurd ((nIle (by omega) (by omega)).mp q) (by omega)), e1, e2, e3, e4, ck_t (nI_xi (by omega) (by omega)), ck_t (by decide), ck_t (nI_xi (by omega) (by omega)), ck_t (by decide), ck_t (nI_xi (by omega) (by omega)), ck_t (by decide), ck_t (nI_xi (by omega) (by omega)), ck_t (by decide), nI_cl (show 4 * k < 2 ^ 31 by omega), nI_cl (show 4 * k + 1 < 2 ^ 31 by omega), nI_cl (show 4 * k + 2 < 2 ^ 31 by omega), nI_cl (show 4 * k + 3 < 2 ^ 31 by omega), a1, a2, a3, a4, show u.2 138 (Int32.toNatClampNeg 0) = _ from p1, show u.2 138 (Int32.toNatClampNeg 1) = _ from p2, show u.2 138 (Int32.toNatClampNeg 2) = _ from p3, show u.2 138 (Int32.toNatClampNeg 3) = _ from p4, om, om, om, om, oa, oa, oa]
    simp only [xm_let]
    rw [ih]
    have st : ins_ P (g :: xs) = (decide (0 ≤ dp_ g P) && ins_ P xs) := rfl
    rw [st]
    by_cases q : 0 ≤ dp_ g P
    · rw [if_pos (show (0 : Int64) ≤ Int64.ofInt (g.1 * P.1 + g.2.1 * P.2.1 + g.2.2.1 * P.2.2.1 + g.2.2.2 * P.2.2.2) from (i64le (a := 0) (by unfold nb_; omega) (dp_b gb bP)).mpr q), decide_eq_true q, Bool.true_and]
    · rw [if_neg (show ¬ (0 : Int64) ≤ Int64.ofInt (g.1 * P.1 + g.2.1 * P.2.1 + g.2.2.1 * P.2.2.1 + g.2.2.2 * P.2.2.2) from fun z => q ((i64le (a := 0) (by unfold nb_; omega) (dp_b gb bP)).mp z)), decide_eq_false q]
      rfl
theorem ev_inside {m : Nat} (hm : 20 ≤ m) {u : xm_Y} {B X : List V4_} {P : V4_} (h : sh_ u (B ++ X)) (hm2 : u.1 136 2 = nI B.length) (hP : pt4_ u P) (bP : pb4_ P) (hb : ∀ g, g ∈ B ++ X → bl_ g) : fn_X9_isInside m u = some (if ins_ P B = true then 1 else 0, u) := by
  have l12 := h.2.1
  rw [List.length_append] at l12
  obtain ⟨l, e⟩ := ins_lp (m := m) h hm2 (by rw [List.length_append]; omega) hP bP hb B 0 m (by omega) (by omega) (fun i g hg => by
    rw [Nat.zero_add, List.getElem?_append_left (by rw [List.getElem?_eq_some_iff] at hg; exact hg.1)]; exact hg)
  rw [fn_X9_isInside, show lp_X9_isInside_2 m u m (0 : Int32) = _ from e]
  by_cases q : ins_ P B = true
  · rw [if_pos q, if_pos q]; rfl
  · rw [if_neg q, if_neg q]; rfl
/-- a direction, by its sign -/
def fo4_ (s : Int) (a b : V4_) : V4_ := lc_ s (cx_ a b) 0 (cx_ a b)
theorem ev_follow {m : Nat} {u : xm_Y} {L : List V4_} (h : sh_ u L) {i j : Nat} {a b : V4_} (ha : L[i]? = some a) (hb : L[j]? = some b) (la : bl_ a) (lb : bl_ b) {s : Int32} (hs : s = 1 ∨ s = -1) : ∃ u', fn_X9_follow m (nI (4 * i)) (nI (4 * j)) s u = some (if cx_ a b = z4_ then 0 else 1, u') ∧ po_ u u' ∧ pt4_ u' (fo4_ s.toInt a b) := by
  obtain ⟨x1, x2, x3⟩ := cx_b la lb
  have sb : nb_ 1 s.toInt := by rcases hs with rfl | rfl <;> (unfold nb_; decide)
  have s0 : s.toInt ≠ 0 := by rcases hs with rfl | rfl <;> decide
  obtain ⟨c0, -, -⟩ := ev_cross (m := m) h ha hb
  rw [fn_X9_follow, c0]
  simp only [Option.bind_some, xm_let]
  rw [ck_t (by decide), i64o, om]
  generalize hv1 : w_J u 138 (Int32.toNatClampNeg 0) (Int64.ofInt (s.toInt * (cx_ a b).1)) = v1
  have pv1 : po_ u v1 := by rw [← hv1]; exact (po_.rf u).w
  obtain ⟨-, c1, -⟩ := ev_cross (m := m) (sh_po h pv1) ha hb
  rw [c1]
  simp only [Option.bind_some]
  rw [ck_t (by decide), om]
  generalize hv2 : w_J v1 138 (Int32.toNatClampNeg 1) (Int64.ofInt (s.toInt * (cx_ a b).2.1)) = v2
  have pv2 : po_ u v2 := by rw [← hv2]; exact pv1.w
  obtain ⟨-, -, c2⟩ := ev_cross (m := m) (sh_po h pv2) ha hb
  rw [c2]
  simp only [Option.bind_some]
  rw [ck_t (by decide), om, ck_t (by decide)]
  generalize hv3 : w_J (w_J v2 138 (Int32.toNatClampNeg 2) (Int64.ofInt (s.toInt * (cx_ a b).2.2.1))) 138 (Int32.toNatClampNeg 3) 0 = v3
  have pv3 : po_ u v3 := by rw [← hv3]; exact (pv2.w).w
  have r0 : v3.2 138 0 = Int64.ofInt (s.toInt * (cx_ a b).1) := by
    rw [← hv3, rJ_ne (by decide), rJ_ne (by decide), ← hv2, rJ_ne (by decide), ← hv1]
    show (w_J u 138 0 _).2 138 0 = _
    rw [rJ_eq]
  have r1 : v3.2 138 1 = Int64.ofInt (s.toInt * (cx_ a b).2.1) := by
    rw [← hv3, rJ_ne (by decide), rJ_ne (by decide), ← hv2]
    show (w_J v1 138 1 _).2 138 1 = _
    rw [rJ_eq]
  have r2 : v3.2 138 2 = Int64.ofInt (s.toInt * (cx_ a b).2.2.1) := by
    rw [← hv3, rJ_ne (by decide)]
    show (w_J v2 138 2 _).2 138 2 = _
    rw [rJ_eq]
  have r3 : v3.2 138 3 = Int64.ofInt 0 := by
    rw [← hv3]
    show (w_J _ 138 3 _).2 138 3 = _
    rw [rJ_eq]; rfl
  have nz : ∀ {y : Int}, nb_ 800 y → (Int64.ofInt (s.toInt * y) = 0 ↔ y = 0) := by
    intro y hy
    rw [i64z (nb_w (nb_m sb hy) (by decide)), Int.mul_eq_zero]
    exact ⟨fun q => q.resolve_left s0, Or.inr⟩
  have z : ∀ y : Int, s.toInt * y = s.toInt * y + 0 * y := fun y => by omega
  rw [show v3.2 138 (Int32.toNatClampNeg 0) = _ from r0, show v3.2 138 (Int32.toNatClampNeg 1) = _ from r1, show v3.2 138 (Int32.toNatClampNeg 2) = _ from r2, ck_t (by decide), ck_t (by decide), ck_t (by decide)]
  refine ⟨v3, ?_, pv3, by rw [r0]; exact congrArg _ (z _), by rw [r1]; exact congrArg _ (z _), by rw [r2]; exact congrArg _ (z _), by rw [r3]; exact congrArg _ (show (0 : Int) = s.toInt * 0 + 0 * 0 by omega)⟩
  by_cases q1 : (cx_ a b).1 = 0
  · rw [if_pos ((nz x1).mpr q1)]
    by_cases q2 : (cx_ a b).2.1 = 0
    · rw [if_pos ((nz x2).mpr q2)]
      by_cases q3 : (cx_ a b).2.2.1 = 0
      · have e : cx_ a b = z4_ := v4_ext q1 q2 q3 rfl
        rw [if_pos ((nz x3).mpr q3), if_pos e]; rfl
      · rw [if_neg (fun w => q3 ((nz x3).mp w)), if_neg (fun w => q3 (by rw [w]; rfl))]; rfl
    · rw [if_neg (fun w => q2 ((nz x2).mp w)), if_neg (fun w => q2 (by rw [w]; rfl))]; rfl
  · rw [if_neg (fun w => q1 ((nz x1).mp w)), if_neg (fun w => q1 (by rw [w]; rfl))]; rfl
