theorem iv_calls {PL : xm_Y → Nat → Prop} {FL : xm_Y → xm_Y → Prop} (pf : pf_ PL FL) {c c' d d' : xm_Y} (e1 : ∀ q, q ≠ 146 → q ≠ 149 → c'.1 q = c.1 q) (e0 : c'.1 146 1 = c.1 146 1) (e2 : ∀ q, q ≠ 148 → c'.2 q = c.2 q) (x4 : d'.2 = d.2) (x1 : ∀ q, q ≠ 150 → q ≠ 176 → q ≠ 177 → q ≠ 178 → q ≠ 179 → q ≠ 180 → d'.1 q = d.1 q) (x2 : ∀ e, e < 40 → d'.1 150 e = d.1 150 e) (h10' : iv_10 c' d') (iv : iv_ PL FL c d) : iv_ PL FL c' d' := by
  obtain ⟨n, nb, gc, h1, h2, h3, h4, h5, h6, h7, h8, h9, h10⟩ := iv
  obtain ⟨a1, a2, a3, a4, a5, a6, a7⟩ := id h1
  have y1 : ∀ q, 151 ≤ q → q ≤ 175 → d'.1 q = d.1 q := fun q z1 z2 => x1 q (by omega) (by omega) (by omega) (by omega) (by omega) (by omega)
  have f1 : ∀ q, q < 146 → c'.1 q = c.1 q := fun q hq => e1 q (by omega) (by omega)
  have f2 : ∀ q, q < 148 → c'.2 q = c.2 q := fun q hq => e2 q (by omega)
  refine ⟨n, nb, gc, ?_, ?_, ?_, ?_, ?_, ?_, ?_, ?_, ?_, h10'⟩
  · unfold iv_1; rw [f1 1 (by decide), x2 0 (by decide), x2 1 (by decide)]; exact h1
  · exact iv_2c (fun k hk => f1 k (by omega)) (y1 151 (by decide) (by decide)) (y1 152 (by decide) (by decide)) (y1 153 (by decide) (by decide)) a4 a7 h2
  · unfold iv_3; rw [f2 123 (by decide), x4]; exact h3
  · unfold iv_4; rw [f2 130 (by decide), x4, y1 158 (by decide) (by decide)]; exact h4
  · unfold iv_5; rw [f2 128 (by decide), x4, y1 156 (by decide) (by decide)]; exact h5
  · unfold iv_6; rw [f1 124 (by decide), x2 26 (by decide)]; exact h6
  · unfold iv_7; rw [f1 139 (by decide), f1 142 (by decide), f1 143 (by decide), x2 19 (by decide), y1 161 (by decide) (by decide), y1 163 (by decide) (by decide)]; exact h7
  · exact iv_8c pf (fun k hk => ⟨f1 k (by omega), f2 k (by omega)⟩) (f2 128 (by decide)) (by rw [f1 139 (by decide)]) (f1 144 (by decide)) (by rw [f2 139 (by decide)]) (x2 0 (by decide)) (x2 1 (by decide)) (x2 21 (by decide)) (y1 151 (by decide) (by decide)) (y1 152 (by decide) (by decide)) (y1 156 (by decide) (by decide)) (by rw [x4]) (y1 162 (by decide) (by decide)) h8
  · unfold iv_9; rw [e0, f2 147 (by decide), x2 36 (by decide), y1 173 (by decide) (by decide), y1 174 (by decide) (by decide), y1 175 (by decide) (by decide)]; exact h9
/-- the CALLS as items -/
theorem iv9_C {c d : xm_Y} (h9 : iv_9 c d) : ∃ C : List It_, dc_ d C ∧ c.1 146 1 = nI C.length ∧ (∀ (i : Nat) (x : It_), C[i]? = some x → c.2 147 i = pi_ x) := by
  obtain ⟨q, q1, q2, q3, q4⟩ := h9
  have get : ∀ (i : Nat) (x : It_), ((List.range q).map (fun k => (((d.1 173 k).toInt.toNat, (d.1 174 k).toInt.toNat, (d.1 175 k).toInt.toNat) : It_)))[i]? = some x → i < q ∧ x = ((d.1 173 i).toInt.toNat, (d.1 174 i).toInt.toNat, (d.1 175 i).toInt.toNat) := by
    intro i x hx
    rw [List.getElem?_map] at hx
    by_cases hi : i < q
    · rw [List.getElem?_range hi] at hx
      exact ⟨hi, (Option.some.inj hx).symm⟩
    · rw [List.getElem?_eq_none (by simp; omega)] at hx
      cases hx
  have n_ : ∀ {x : Int32}, 0 ≤ x.toInt → nI x.toInt.toNat = x := by
    intro x hx
    have := x.toInt_lt
    apply Int32.toInt_inj.mp
    rw [nI_toInt (by omega)]
    omega
  have key : ∀ i, i < q → iok_ ((d.1 173 i).toInt.toNat, (d.1 174 i).toInt.toNat, (d.1 175 i).toInt.toNat) ∧ c.2 147 i = pi_ ((d.1 173 i).toInt.toNat, (d.1 174 i).toInt.toNat, (d.1 175 i).toInt.toNat) := by
    intro i hi
    obtain ⟨⟨f0, f8⟩, ⟨g0, g8⟩, ⟨t0, t1⟩, k, k1, k2⟩ := q4 i hi
    have mk := k1 100 c (by omega)
    rw [ev_masksOf (by omega)] at mk
    have mk : mk_ 16 0 (d.1 175 i) = k := congrArg Prod.fst (Option.some.inj mk)
    refine ⟨⟨?_, ?_, ?_⟩, ?_⟩
    · show (d.1 173 i).toInt.toNat < 8
      omega
    · show (d.1 174 i).toInt.toNat < 8
      omega
    · show (d.1 175 i).toInt.toNat < 3 ^ 16
      have : (3 : Nat) ^ 16 = 43046721 := by decide
      omega
    · rw [k2, ← mk]
      show _ = pk_ (nI (d.1 173 i).toInt.toNat) (nI (d.1 174 i).toInt.toNat) (mk_ 16 0 (nI (d.1 175 i).toInt.toNat))
      rw [n_ f0, n_ g0, n_ t0]
      rfl
  have len : ((List.range q).map (fun k => (((d.1 173 k).toInt.toNat, (d.1 174 k).toInt.toNat, (d.1 175 k).toInt.toNat) : It_))).length = q := by simp
  refine ⟨(List.range q).map (fun k => (((d.1 173 k).toInt.toNat, (d.1 174 k).toInt.toNat, (d.1 175 k).toInt.toNat) : It_)), ⟨by rw [len]; exact q3, by rw [len]; exact q1, fun x hx => ?_, fun i x hx => ?_⟩, by rw [len]; exact q2, fun i x hx => ?_⟩
  · obtain ⟨i, hi⟩ := List.getElem?_of_mem hx
    obtain ⟨i1, i2⟩ := get i x hi
    rw [i2]; exact (key i i1).1
  · obtain ⟨i1, i2⟩ := get i x hx
    obtain ⟨⟨f0, f8⟩, ⟨g0, g8⟩, ⟨t0, t1⟩, -⟩ := q4 i i1
    rw [i2]
    exact ⟨(n_ f0).symm, (n_ g0).symm, (n_ t0).symm⟩
  · obtain ⟨i1, i2⟩ := get i x hx
    rw [i2]; exact (key i i1).2
theorem rs_len : ∀ (xs A : List It_), (rs_ A xs).length ≤ xs.length
  | [], A => Nat.le_refl _
  | x :: xs, A => by
    show (if x ∈ A then rs_ A xs else x :: rs_ (A ++ [x]) xs).length ≤ xs.length + 1
    split
    · have := rs_len xs A; omega
    · have := rs_len xs (A ++ [x])
      show (rs_ (A ++ [x]) xs).length + 1 ≤ _
      omega
theorem ev_makeAllc {m : Nat} (hm : 3000 ≤ m) {c : xm_Y} {C : List It_} (hn : c.1 146 1 = nI C.length) (h40 : C.length ≤ 40) (hok : ∀ x, x ∈ C → iok_ x) (hc : ∀ (i : Nat) (x : It_), C[i]? = some x → c.2 147 i = pi_ x) {o : Option (List It_)} (ho : ot_ (rs_ [] C) 1001 0 (rs_ [] C) = some o) : ∃ u', fn_X3_makeAll m c = some (if o.isSome = true then 1 else 0, u') ∧ ef_ c u' ∧ (∀ L', o = some L' → kc2_ u' L') := by
  obtain ⟨u1, a1, a2, a3, a4⟩ := ev_fill (m := m) 149 2048 (by omega) (by omega) 0 c
  have ef1 : ef_ c (w_I u1 146 3 0) := ⟨fun q h1 h2 => (rI_nc h1).trans (a3 q h2), fun e he => (rI_ne (by omega)).trans (by rw [a3 146 (by decide)]), fun q _ => by show u1.2 q = _; rw [a2]⟩
  have k0 : kc2_ (w_I u1 146 3 0) [] := ⟨rI_eq, by simp, fun x hx => absurd hx (by simp), fun j x hx => absurd hx (by simp), fun _ => 0, fun h hh => (show (w_I u1 146 3 0).1 149 h = nI 0 from (rI_ne (by omega)).trans (a4 h hh)), ht_new (fun _ _ => rfl)⟩
  obtain ⟨l, u2, b1, b2, b3⟩ := sd_lp (m := m) (by omega) hn h40 C 0 m (w_I u1 146 3 0) [] (by omega) (by omega) ef1 k0 (by simp) hok (fun i x hx => by rw [Nat.zero_add]; exact hc i x hx)
  rw [List.nil_append] at b3
  have rl := rs_len C []
  obtain ⟨l2, u3, p1, p2, p3⟩ := out_lp (m := m) (by omega) (S := rs_ [] C) (by omega) 1001 0 m u2 (rs_ [] C) o (by omega) (by omega) b3 (fun i x hx => hx) ho
  refine ⟨u3, ?_, b2.tr p2, p3⟩
  rw [fn_X3_makeAll, a1]
  simp only [Option.bind_some, xm_let]
  rw [show lp_X3_makeAll_15 m m (0 : Int32) (w_I u1 146 3 0) = _ from b1]
  simp only [Option.bind_some]
  rw [b3.1, show lp_X3_makeAll_47 m (nI (rs_ [] C).length) m (0 : Int32) u2 = _ from p1]
  cases o with
  | none => rfl
  | some L' => rfl
theorem ev_makeAlld {m : Nat} (hm : 3000 ≤ m) {d : xm_Y} {C : List It_} (hd : dc_ d C) {o : Option (List It_)} (ho : ot_ C 1001 0 (rs_ [] C) = some o) : ∃ u', fn_X12_makeAll m d = some (if o.isSome = true then 1 else 0, u') ∧ er_ d u' ∧ (∀ L', o = some L' → kr2_ u' L') := by
  have e1 : er_ d (w_I d 150 40 0) := ⟨rfl, fun q a _ _ _ _ _ => rI_nc a, fun e a b => rI_ne (by omega)⟩
  have k0 : kr2_ (w_I d 150 40 0) [] := ⟨rI_eq, by simp, fun x hx => absurd hx (by simp), fun j x hx => absurd hx (by simp)⟩
  have h40 := hd.2.1
  obtain ⟨l, u2, b1, b2, b3⟩ := sdd_lp (m := m) (by omega) C 0 m (w_I d 150 40 0) [] (dc_er hd e1) (by omega) (by omega) k0 (by simp) (fun i x hx => by rw [Nat.zero_add]; exact hx)
  rw [List.nil_append] at b3
  obtain ⟨l2, u3, p1, p2, p3⟩ := outd_lp (m := m) (by omega) 1001 0 m u2 (rs_ [] C) o (dc_er hd (e1.tr b2)) (by omega) (by omega) b3 ho
  refine ⟨u3, ?_, (e1.tr b2).tr p2, p3⟩
  rw [fn_X12_makeAll]
  simp only [xm_let]
  rw [show lp_X12_makeAll_9 m m (1 : Int32) (0 : Int32) (w_I d 150 40 0) = _ from b1]
  simp only [Option.bind_some]
  rw [show lp_X12_makeAll_52 m m (1 : Int32) (0 : Int32) u2 = _ from p1]
  simp only [Option.bind_some]
  rw [ck_t (by split <;> decide)]
theorem ef_md {c u : xm_Y} (h : ef_ c u) : md_ c u := fun k hk => ⟨h.1 k (by omega) (by omega), h.2.2 k (by omega)⟩
theorem er_cl {d u : xm_Y} (h : er_ d u) : cl_ d u := fun k hk => ⟨h.2.1 k (by omega) (by omega) (by omega) (by omega) (by omega) (by omega), by rw [h.1]⟩
theorem tf_ending {PL : xm_Y → Nat → Prop} {FL : xm_Y → xm_Y → Prop} {m : Nat} (pf : pf_ PL FL) (hm : 3000 ≤ m) : tf_ PL FL (fn_X11_ending m) (fn_X12_ending m) := by
  intro c d iv
  obtain ⟨n, nb, gc, h1, h2, h3, h4, h5, h6, h7, h8, h9, h10⟩ := id iv
  obtain ⟨C, hd, hn, hc⟩ := iv9_C h9
  have rl := rs_len C []
  have h40 := hd.2.1
  obtain ⟨o, ho⟩ := ot_end (S := C) 1001 0 (rs_ [] C) (by omega) (by omega) (by omega)
  have hoc : ot_ (rs_ [] C) 1001 0 (rs_ [] C) = some o := by rw [← ot_rs]; exact ho
  obtain ⟨c1, p1, p2, p3⟩ := ev_makeAllc hm hn h40 hd.2.2.1 hc hoc
  obtain ⟨d1, q1, q2, q3⟩ := ev_makeAlld hm hd ho
  cases o with
  | none =>
    refine ⟨-3, w_I c1 146 5 1000, w_I d1 150 40 1000, ?_, (ef_md p2).wI (by decide), ?_, (er_cl q2).wI (by decide), ?_⟩
    · rw [fn_X11_ending, fn_X3_judge, p1]; rfl
    · rw [fn_X12_ending, q1]; rfl
    · refine iv_calls pf (c := c) (d := d) (fun q a b => (rI_nc a).trans (p2.1 q a b)) ((rI_ne (by omega)).trans (p2.2.1 1 (by decide))) (fun q a => p2.2.2 q a) q2.1 (fun q a b e f g h => (rI_nc a).trans (q2.2.1 q a b e f g h)) (fun e he => (rI_ne (by omega)).trans (q2.2.2 e (by omega) (by omega))) ⟨?_, ?_, ?_⟩ iv
      · rw [rI_eq, rI_eq]
      · rw [rI_ne (by omega), rI_ne (by omega), p2.2.1 6 (by decide), q2.2.2 42 (by decide) (by decide)]; exact h10.2.1
      · rw [rI_ne (by omega), rI_ne (by omega), p2.2.1 7 (by decide), q2.2.2 43 (by decide) (by decide)]; exact h10.2.2
  | some L =>
    have kc := p3 L rfl
    have kr := q3 L rfl
    have kc' : kc2_ (w_I c1 146 5 (nI L.length)) L := by
      obtain ⟨a1, a2, a3, a4, tb, a5, a6⟩ := kc
      exact ⟨(rI_ne (by omega)).trans a1, a2, a3, a4, tb, fun h hh => by rw [rI_nc (by decide)]; exact a5 h hh, a6⟩
    have l1000 := kc.2.1
    obtain ⟨lc, l2, f1, f2⟩ := ff_lp (m := m) (by omega) kc' L 0 m (-1) none (by omega) (by omega) (fun i x hx => by rw [Nat.zero_add]; exact hx) rfl
    have kr' : kr2_ (w_I d1 150 41 (-1)) L := by
      obtain ⟨a1, a2, a3, a4⟩ := kr
      refine ⟨(rI_ne (by omega)).trans a1, a2, a3, fun j x hx => ?_⟩
      rw [rI_nc (by decide), rI_nc (by decide), rI_nc (by decide)]
      exact a4 j x hx
    obtain ⟨l3, d2, g1, g2, g3, g4⟩ := ffd_lp (m := m) (by omega) (L := L) L 0 m (w_I d1 150 41 (-1)) none kr' (by omega) (by omega) (fun i x hx => by rw [Nat.zero_add]; exact hx) (by rw [rI_eq]; rfl)
    have er2 : er_ d d2 := q2.tr (er_.tr (show er_ d1 (w_I d1 150 41 (-1)) from ⟨rfl, fun q a _ _ _ _ _ => rI_nc a, fun e a b => rI_ne (by omega)⟩) g2)
    have ec : fn_X3_judge m c = Option.bind (some (lc, w_I c1 146 5 (nI L.length))) (fun q5 => if 0 ≤ q5.1 then xm_chk (xm_in q5.1 1000) (Option.bind (fn_X3_fromOf m (q5.2.2 148 (Int32.toNatClampNeg q5.1)) q5.2) fun q7 => xm_let (w_I q7.2 146 6 q7.1) fun u8 => xm_chk (xm_in q5.1 1000) (Option.bind (fn_X3_numberOf m (u8.2 148 (Int32.toNatClampNeg q5.1)) u8) fun q9 => xm_let (w_I q9.2 146 7 q9.1) fun u10 => some ((0 : Int32), u10))) else some ((1 : Int32), q5.2)) := by
      rw [fn_X3_judge, p1]
      simp only [Option.bind_some]
      rw [show (some L).isSome = true from rfl, if_pos rfl, if_neg (by decide)]
      simp only [xm_let]
      rw [kc.1, fn_X3_firstFault, show lp_X3_firstFault_4 m m (-1 : Int32) (0 : Int32) (w_I c1 146 5 (nI L.length)) = _ from f1]
      rfl
    have ed : fn_X12_ending m d = (if 0 ≤ (d2.1 150 41) then xm_chk (xm_in (d2.1 150 41) 1001) (xm_let (w_I d2 150 42 (d2.1 176 (Int32.toNatClampNeg (d2.1 150 41)))) fun u21 => xm_chk (xm_in (u21.1 150 41) 1001) (xm_let (w_I u21 150 43 (u21.1 178 (Int32.toNatClampNeg (u21.1 150 41)))) fun u22 => some ((0 : Int32), u22))) else some ((1 : Int32), d2)) := by
      rw [fn_X12_ending, q1]
      simp only [Option.bind_some]
      rw [show (some L).isSome = true from rfl, if_pos rfl, if_neg (by decide)]
      simp only [xm_let]
      rw [show lp_X12_ending_24 m m (0 : Int32) (w_I d1 150 41 (-1)) = _ from g1]
      rfl
    have efc : ∀ q, q ≠ 146 → q ≠ 149 → (w_I c1 146 5 (nI L.length)).1 q = c.1 q := fun q a b => (rI_nc a).trans (p2.1 q a b)
    have efn : ∀ e, e ≠ 3 → e ≠ 5 → (w_I c1 146 5 (nI L.length)).1 146 e = c.1 146 e := fun e a b => (rI_ne (by omega)).trans (p2.2.1 e a)
    cases hb : bs_ none L with
    | none =>
      rw [hb] at f2 g4
      have f2 : lc = -1 := f2
      have g4 : d2.1 150 41 = -1 := g4
      refine ⟨1, w_I c1 146 5 (nI L.length), d2, ?_, (ef_md p2).wI (by decide), ?_, er_cl er2, ?_⟩
      · rw [fn_X11_ending, ec, f2]; rfl
      · rw [ed, g4]; rfl
      · refine iv_calls pf (c := c) (d := d) efc (efn 1 (by decide) (by decide)) (fun q a => p2.2.2 q a) er2.1 er2.2.1 (fun e he => er2.2.2 e (by omega) (by omega)) ⟨?_, ?_, ?_⟩ iv
        · rw [rI_eq, g3.1]
        · rw [efn 6 (by decide) (by decide), er2.2.2 42 (by decide) (by decide)]; exact h10.2.1
        · rw [efn 7 (by decide) (by decide), er2.2.2 43 (by decide) (by decide)]; exact h10.2.2
    | some y =>
      rw [hb] at f2 g4
      obtain ⟨j, j1, j2⟩ := f2
      obtain ⟨i, i1, i2⟩ := g4
      have jl : j < L.length := by rw [List.getElem?_eq_some_iff] at j2; exact j2.1
      have il : i < L.length := by rw [List.getElem?_eq_some_iff] at i2; exact i2.1
      have yok : iok_ y := kc.2.2.1 y (List.mem_of_getElem? j2)
      have cj := kc'.2.2.2.1 j y j2
      obtain ⟨y1, y2, y3⟩ := g3.2.2.2 i y i2
      refine ⟨0, w_I (w_I (w_I c1 146 5 (nI L.length)) 146 6 (nI y.1)) 146 7 (nI y.2.2), w_I (w_I d2 150 42 (nI y.1)) 150 43 (nI y.2.2), ?_, (((ef_md p2).wI (by decide)).wI (by decide)).wI (by decide), ?_, ((er_cl er2).wI (by decide)).wI (by decide), ?_⟩
      · rw [fn_X11_ending, ec, j1]
        simp only [Option.bind_some]
        rw [if_pos (show 0 ≤ nI j from (nIle (a := 0) (by omega) (by omega)).mpr (by omega)), ck_t (nI_xi (by omega) (by omega)), nI_cl (by omega), cj, fn_X3_fromOf]
        simp only [Option.bind_some, xm_let]
        show (Option.bind (xm_chk (xm_in (nI j) 1000) (Option.bind (fn_X3_numberOf m ((w_I (w_I c1 146 5 (nI L.length)) 146 6 (fr_ (pi_ y))).2 148 j) (w_I (w_I c1 146 5 (nI L.length)) 146 6 (fr_ (pi_ y)))) fun q9 => some ((0 : Int32), w_I q9.2 146 7 q9.1))) fun q1 => some (q1.1, q1.2)) = _
        rw [ck_t (nI_xi (by omega) (by omega)), pi_fr yok, show (w_I (w_I c1 146 5 (nI L.length)) 146 6 (nI y.1)).2 148 j = pi_ y from cj, ev_num (by omega) yok]
        rfl
      · rw [ed, i1]
        simp only [xm_let]
        have e41 : (w_I d2 150 42 (d2.1 176 (Int32.toNatClampNeg (nI i)))).1 150 41 = nI i := (rI_ne (by omega)).trans i1
        rw [if_pos (show 0 ≤ nI i from (nIle (a := 0) (by omega) (by omega)).mpr (by omega)), ck_t (nI_xi (by omega) (by omega)), e41, ck_t (nI_xi (by omega) (by omega)), nI_cl (by omega), y1, rI_nc (by decide), y3]
      · refine iv_calls pf (c := c) (d := d) (fun q a b => (rI_nc a).trans ((rI_nc a).trans (efc q a b))) ((rI_ne (by omega)).trans ((rI_ne (by omega)).trans (efn 1 (by decide) (by decide)))) (fun q a => p2.2.2 q a) er2.1 (fun q a b e f g h => (rI_nc a).trans ((rI_nc a).trans (er2.2.1 q a b e f g h))) (fun e he => (rI_ne (by omega)).trans ((rI_ne (by omega)).trans (er2.2.2 e (by omega) (by omega)))) ⟨?_, ?_, ?_⟩ iv
        · rw [rI_ne (by omega), rI_ne (by omega), rI_eq, rI_ne (by omega), rI_ne (by omega), g3.1]
        · rw [rI_ne (by omega), rI_eq, rI_ne (by omega), rI_eq]
        · rw [rI_eq, rI_eq]
