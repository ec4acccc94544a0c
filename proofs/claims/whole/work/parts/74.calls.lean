/-! the reference's makeAll and its first fault; ending -/
def dc_ (d : xm_Y) (C : List It_) : Prop := d.1 150 36 = nI C.length ∧ C.length ≤ 40 ∧ (∀ x, x ∈ C → iok_ x) ∧ (∀ (i : Nat) (x : It_), C[i]? = some x → d.1 173 i = nI x.1 ∧ d.1 174 i = nI x.2.1 ∧ d.1 175 i = nI x.2.2)
theorem dc_er {d u : xm_Y} {C : List It_} (h : dc_ d C) (e : er_ d u) : dc_ u C := by
  unfold dc_
  rw [e.2.2 36 (by decide) (by decide), e.2.1 173 (by decide) (by decide) (by decide) (by decide) (by decide) (by decide), e.2.1 174 (by decide) (by decide) (by decide) (by decide) (by decide) (by decide), e.2.1 175 (by decide) (by decide) (by decide) (by decide) (by decide) (by decide)]
  exact h
theorem sdd_lp {m : Nat} (hm : 2100 ≤ m) {C : List It_} : ∀ (xs : List It_) (k f : Nat) (u : xm_Y) (L : List It_), dc_ u C → k + xs.length = C.length → xs.length + 1 ≤ f → kr2_ u L → L.length ≤ k → (∀ (i : Nat) (x : It_), xs[i]? = some x → C[k + i]? = some x) → ∃ (l : Int32) (u' : xm_Y), lp_X12_makeAll_9 m f 1 (nI k) u = some (1, l, u') ∧ er_ u u' ∧ kr2_ u' (L ++ rs_ L xs)
  | [], k, f, u, L, hd, hk, hf, hL, hl, hc => by
    obtain ⟨f', rfl⟩ : ∃ f', f = f' + 1 := ⟨f - 1, by omega⟩
    have hk : k = C.length := hk
    subst hk
    have := hd.2.1
    refine ⟨nI C.length, u, ?_, er_.rf u, ?_⟩
    · rw [lp_X12_makeAll_9, hd.1, if_pos ((nIle (by omega) (by omega)).mpr (by omega))]
    · show kr2_ u (L ++ [])
      rw [List.append_nil]; exact hL
  | x :: xs, k, f, u, L, hd, hk, hf, hL, hl, hc => by
    obtain ⟨f', rfl⟩ : ∃ f', f = f' + 1 := ⟨f - 1, by omega⟩
    have hk : k + (xs.length + 1) = C.length := hk
    have hf : xs.length + 1 + 1 ≤ f' + 1 := hf
    have c40 := hd.2.1
    have hx0 : C[k]? = some x := hc 0 x rfl
    have xok : iok_ x := hd.2.2.1 x (List.mem_of_getElem? hx0)
    obtain ⟨d1, d2, d3⟩ := hd.2.2.2 k x hx0
    obtain ⟨u1, a1, a2, a3⟩ := ev_make hm hL xok
    have st : ∃ L1, kp_ L x = some L1 ∧ L1.length ≤ k + 1 ∧ L1 ++ rs_ L1 xs = L ++ rs_ L (x :: xs) := by
      show ∃ L1, kp_ L x = some L1 ∧ L1.length ≤ k + 1 ∧ L1 ++ rs_ L1 xs = L ++ (if x ∈ L then rs_ L xs else x :: rs_ (L ++ [x]) xs)
      unfold kp_
      by_cases q : x ∈ L
      · rw [if_pos q, if_pos q]; exact ⟨L, rfl, by omega, rfl⟩
      · rw [if_neg q, if_neg q, if_pos (by omega)]
        exact ⟨L ++ [x], rfl, by simp; omega, by simp⟩
    obtain ⟨L1, k1, k2, k3⟩ := st
    rw [k1] at a1
    obtain ⟨l, u', p1, p2, p3⟩ := sdd_lp hm xs (k + 1) f' u1 L1 (dc_er hd a2) (by omega) (by omega) (a3 L1 k1) k2 (fun i y hy => by
      have := hc (i + 1) y (by simpa using hy)
      rw [show k + 1 + i = k + (i + 1) by omega]; exact this)
    refine ⟨l, u', ?_, a2.tr p2, by rw [← k3]; exact p3⟩
    have ik : xm_in (nI k) 40 := nI_xi (by omega) (by omega)
    rw [lp_X12_makeAll_9, hd.1, if_neg (fun q => absurd ((nIle (by omega) (by omega)).mp q) (by omega)), if_neg (by decide)]
    simp only [ck_t ik, nI_cl (show k < 2 ^ 31 by omega), d1, d2, d3, a1, Option.bind_some, xm_let]
    rw [← nI_succ]
    exact p1
theorem rowd_lp {m : Nat} (hm : 2100 ≤ m) {C : List It_} {a : It_} {A : Nat} : ∀ (xs : List It_) (k f : Nat) (u : xm_Y) (L : List It_), dc_ u C → k + xs.length = C.length → xs.length + 1 ≤ f → kr2_ u L → L[A]? = some a → (∀ (i : Nat) (x : It_), xs[i]? = some x → C[k + i]? = some x) → ∃ (l : Int32) (u' : xm_Y), lp_X12_makeAll_66 m (nI A) f 1 (nI k) u = some (if (rw2_ a xs L).isSome = true then 1 else 0, l, u') ∧ er_ u u' ∧ (∀ L', rw2_ a xs L = some L' → kr2_ u' L')
  | [], k, f, u, L, hd, hk, hf, hL, ha, hc => by
    obtain ⟨f', rfl⟩ : ∃ f', f = f' + 1 := ⟨f - 1, by omega⟩
    have hk : k = C.length := hk
    subst hk
    have := hd.2.1
    refine ⟨nI C.length, u, ?_, er_.rf u, fun L' h => by cases h; exact hL⟩
    rw [lp_X12_makeAll_66, hd.1, if_pos ((nIle (by omega) (by omega)).mpr (by omega))]
    rfl
  | x :: xs, k, f, u, L, hd, hk, hf, hL, ha, hc => by
    obtain ⟨f', rfl⟩ : ∃ f', f = f' + 1 := ⟨f - 1, by omega⟩
    have hk : k + (xs.length + 1) = C.length := hk
    have hf : xs.length + 1 + 1 ≤ f' + 1 := hf
    have c40 := hd.2.1
    obtain ⟨g1, g2, g3, g4⟩ := id hL
    have Al : A < L.length := by rw [List.getElem?_eq_some_iff] at ha; exact ha.1
    have aok : iok_ a := g3 a (List.mem_of_getElem? ha)
    have hx0 : C[k]? = some x := hc 0 x rfl
    have xok : iok_ x := hd.2.2.1 x (List.mem_of_getElem? hx0)
    obtain ⟨d1, d2, d3⟩ := hd.2.2.2 k x hx0
    obtain ⟨b1, b2, b3⟩ := g4 A a ha
    have iA : xm_in (nI A) 1001 := nI_xi (by omega) (by omega)
    have ik : xm_in (nI k) 40 := nI_xi (by omega) (by omega)
    have hc' : ∀ (i : Nat) (y : It_), xs[i]? = some y → C[k + 1 + i]? = some y := fun i y hy => by
      have := hc (i + 1) y (by simpa using hy)
      rw [show k + 1 + i = k + (i + 1) by omega]; exact this
    rw [lp_X12_makeAll_66, hd.1, if_neg (fun q => absurd ((nIle (by omega) (by omega)).mp q) (by omega)), if_neg (by decide)]
    simp only [ck_t iA, ck_t ik, nI_cl (show A < 2 ^ 31 by omega), nI_cl (show k < 2 ^ 31 by omega), d1, d2, d3, b1, b2, b3, xm_let]
    rw [← nI_succ]
    have stp : rw2_ a (x :: xs) L = (if a.2.1 = x.1 then (match kp_ L (pr_ a x) with | none => none | some L' => rw2_ a xs L') else rw2_ a xs L) := rfl
    rw [stp]
    by_cases q : a.2.1 = x.1
    · obtain ⟨u1, t1, t2⟩ := ev_tgd (m := m) (by omega) aok xok u
      obtain ⟨u2, a1, a2, a3⟩ := ev_make hm (kr2_es hL t2) (pr_ok aok xok)
      have a1 : fn_X12_make m (nI a.1) (nI x.2.1) (nI (pr_ a x).2.2) u1 = some (if (kp_ L (pr_ a x)).isSome = true then 1 else 0, u2) := a1
      rw [if_pos (by rw [q]), t1]
      simp only [Option.bind_some, if_pos q]
      rw [a1]
      simp only [Option.bind_some]
      cases e : kp_ L (pr_ a x) with
      | none =>
        rw [show (none : Option (List It_)).isSome = false from rfl, if_neg (by decide)]
        obtain ⟨f'', rfl⟩ : ∃ f'', f' = f'' + 1 := ⟨f' - 1, by omega⟩
        refine ⟨nI (k + 1), u2, ?_, (es_er t2).tr a2, fun L' h => by cases h⟩
        rw [lp_X12_makeAll_66]
        split
        · rfl
        · rw [if_pos rfl]
      | some L1 =>
        obtain ⟨s1, s2, s3, s4, s5⟩ := kp_sub e
        obtain ⟨l, u', p1, p2, p3⟩ := rowd_lp hm xs (k + 1) f' u2 L1 (dc_er hd ((es_er t2).tr a2)) (by omega) (by omega) (a3 L1 e) (s5 A a ha) hc'
        refine ⟨l, u', ?_, ((es_er t2).tr a2).tr p2, p3⟩
        rw [show (some L1).isSome = true from rfl, if_pos rfl, p1]
    · rw [if_neg (fun z => q (nIinj (Nat.lt_trans aok.2.1 (by decide)) (Nat.lt_trans xok.1 (by decide)) z))]
      simp only [if_neg q, Option.bind_some]
      exact rowd_lp hm xs (k + 1) f' u L hd (by omega) (by omega) hL ha hc'
theorem outd_lp {m : Nat} (hm : 2100 ≤ m) {C : List It_} : ∀ (r k f : Nat) (u : xm_Y) (L : List It_) (o : Option (List It_)), dc_ u C → k + r = 1001 → r + 1 ≤ f → kr2_ u L → ot_ C r k L = some o → ∃ (l : Int32) (u' : xm_Y), lp_X12_makeAll_52 m f 1 (nI k) u = some (if o.isSome = true then 1 else 0, l, u') ∧ er_ u u' ∧ (∀ L', o = some L' → kr2_ u' L')
  | 0, k, f, u, L, o, hd, hk, hf, hL, ho => by cases ho
  | r + 1, k, f, u, L, o, hd, hk, hf, hL, ho => by
    obtain ⟨f', rfl⟩ : ∃ f', f = f' + 1 := ⟨f - 1, by omega⟩
    have ho : (match L[k]? with | none => some (some L) | some a => match rw2_ a C L with | none => some none | some L' => ot_ C r (k + 1) L') = some o := ho
    have l1 := hL.2.1
    have c40 := hd.2.1
    cases e : L[k]? with
    | none =>
      rw [e] at ho
      have ho : some (some L) = some o := ho
      cases ho
      have kl : L.length ≤ k := by rw [List.getElem?_eq_none_iff] at e; exact e
      refine ⟨nI k, u, ?_, er_.rf u, fun L' h => by cases h; exact hL⟩
      rw [lp_X12_makeAll_52, hL.1, if_pos ((nIle (by omega) (by omega)).mpr kl)]
      rfl
    | some a =>
      rw [e] at ho
      have ho : (match rw2_ a C L with | none => some none | some L' => ot_ C r (k + 1) L') = some o := ho
      have kl : k < L.length := by rw [List.getElem?_eq_some_iff] at e; exact e.1
      obtain ⟨l, u1, p1, p2, p3⟩ := rowd_lp (m := m) hm (a := a) (A := k) C 0 m u L hd (by omega) (by omega) hL e (fun i x hx => by rw [Nat.zero_add]; exact hx)
      rw [lp_X12_makeAll_52, hL.1, if_neg (fun q => absurd ((nIle (by omega) (by omega)).mp q) (by omega)), if_neg (by decide), show lp_X12_makeAll_66 m (nI k) m (1 : Int32) (0 : Int32) u = _ from p1]
      simp only [Option.bind_some, xm_let]
      rw [← nI_succ]
      cases e2 : rw2_ a C L with
      | none =>
        rw [e2] at ho
        have ho : some none = some o := ho
        cases ho
        obtain ⟨f'', rfl⟩ : ∃ f'', f' = f'' + 1 := ⟨f' - 1, by omega⟩
        refine ⟨nI (k + 1), u1, ?_, p2, fun L' h => by cases h⟩
        rw [show (none : Option (List It_)).isSome = false from rfl, if_neg (by decide), lp_X12_makeAll_52]
        split
        · rfl
        · rw [if_pos rfl]
      | some L1 =>
        rw [e2] at ho
        have ho : ot_ C r (k + 1) L1 = some o := ho
        obtain ⟨l2, u', t1, t2, t3⟩ := outd_lp hm r (k + 1) f' u1 L1 o (dc_er hd p2) (by omega) (by omega) (p3 L1 e2) ho
        refine ⟨l2, u', ?_, p2.tr t2, t3⟩
        rw [show (some L1).isSome = true from rfl, if_pos rfl, t1]
theorem ev_asked {m : Nat} (hm : 20 ≤ m) {u : xm_Y} {L : List It_} (h : kr2_ u L) {k : Nat} {x : It_} (hx0 : L[k]? = some x) : ∃ u', fn_X12_isAsked m (nI k) u = some (if ft_ x = true then 0 else 1, u') ∧ es_ u u' := by
  obtain ⟨h1, h2, h3, h4⟩ := id h
  have kl : k < L.length := by rw [List.getElem?_eq_some_iff] at hx0; exact hx0.1
  have xok : iok_ x := h3 x (List.mem_of_getElem? hx0)
  obtain ⟨c1, c2, c3⟩ := h4 k x hx0
  have ik : xm_in (nI k) 1001 := nI_xi (by omega) (by omega)
  rw [fn_X12_isAsked]
  simp only [ck_t ik, nI_cl (show k < 2 ^ 31 by omega), c1, c2, c3]
  unfold ft_
  by_cases q1 : x.1 = x.2.1
  · rw [if_pos (by rw [q1]), decide_eq_true q1, Bool.true_and]
    obtain ⟨u1, t1, t2⟩ := ev_tgd hm xok xok u
    rw [t1]
    simp only [Option.bind_some]
    have c3' : u1.1 178 k = nI x.2.2 := by rw [t2.2 178 (by decide) (by decide)]; exact c3
    rw [c3']
    have pe : nI (pr_ x x).2.2 = nI x.2.2 ↔ pr_ x x = x := by
      rw [it_eq (pr_ok xok xok) xok]
      exact ⟨fun z => ⟨rfl, rfl, z⟩, fun z => z.2.2⟩
    by_cases q3 : pr_ x x = x
    · rw [if_pos (pe.mpr q3), decide_eq_true q3, Bool.and_true]
      obtain ⟨u2, s1, s2, s3, s4⟩ := ev_spread hm 179 xok.2.2 u1
      rw [s1]
      simp only [Option.bind_some]
      refine ⟨u2, ?_, s2.trans t2.1, fun q a b => (s3 q a).trans (t2.2 q a b)⟩
      have e0 : u2.1 179 (Int32.toNatClampNeg 0) = nI (dt_ x.2.2 0) := s4 0 (by omega)
      have e5 : u2.1 179 (Int32.toNatClampNeg 5) = nI (dt_ x.2.2 5) := s4 5 (by omega)
      have e10 : u2.1 179 (Int32.toNatClampNeg 10) = nI (dt_ x.2.2 10) := s4 10 (by omega)
      have e15 : u2.1 179 (Int32.toNatClampNeg 15) = nI (dt_ x.2.2 15) := s4 15 (by omega)
      rw [e0, e5, e10, e15]
      have dd : df_ (dt_ x.2.2) 4 0 = (decide (2 ≤ dt_ x.2.2 0) || (decide (2 ≤ dt_ x.2.2 5) || (decide (2 ≤ dt_ x.2.2 10) || (decide (2 ≤ dt_ x.2.2 15) || false)))) := rfl
      rw [dd]
      have two : ∀ d : Nat, d < 3 → (nI d = 2 ↔ 2 ≤ d) := by
        intro d hd
        have : d = 0 ∨ d = 1 ∨ d = 2 := by omega
        rcases this with rfl | rfl | rfl <;> decide
      have t0 := two _ (dt_3 x.2.2 0)
      have t5 := two _ (dt_3 x.2.2 5)
      have t10 := two _ (dt_3 x.2.2 10)
      have t15 := two _ (dt_3 x.2.2 15)
      rw [ck_t (by decide), ck_t (by decide), ck_t (by decide), ck_t (by decide)]
      by_cases z0 : 2 ≤ dt_ x.2.2 0
      · rw [if_pos (t0.mpr z0), decide_eq_true z0]; rfl
      · rw [if_neg (fun w => z0 (t0.mp w)), decide_eq_false z0]
        by_cases z5 : 2 ≤ dt_ x.2.2 5
        · rw [if_pos (t5.mpr z5), decide_eq_true z5]; rfl
        · rw [if_neg (fun w => z5 (t5.mp w)), decide_eq_false z5]
          by_cases z10 : 2 ≤ dt_ x.2.2 10
          · rw [if_pos (t10.mpr z10), decide_eq_true z10]; rfl
          · rw [if_neg (fun w => z10 (t10.mp w)), decide_eq_false z10]
            by_cases z15 : 2 ≤ dt_ x.2.2 15
            · rw [if_pos (t15.mpr z15), decide_eq_true z15]; rfl
            · rw [if_neg (fun w => z15 (t15.mp w)), decide_eq_false z15]; rfl
    · rw [if_neg (fun z => q3 (pe.mp z)), decide_eq_false q3, Bool.and_false, if_neg (by decide)]
      exact ⟨u1, rfl, t2⟩
  · rw [if_neg (fun z => q1 (nIinj (Nat.lt_trans xok.1 (by decide)) (Nat.lt_trans xok.2.1 (by decide)) z)), decide_eq_false q1, Bool.false_and, Bool.false_and, if_neg (by decide)]
    exact ⟨u, rfl, rfl, fun _ _ _ => rfl⟩
theorem ffd_lp {m : Nat} (hm : 20 ≤ m) {L : List It_} : ∀ (xs : List It_) (k f : Nat) (u : xm_Y) (b : Option It_), kr2_ u L → k + xs.length = L.length → xs.length + 1 ≤ f → (∀ (i : Nat) (x : It_), xs[i]? = some x → L[k + i]? = some x) → ix_ (u.1 150 41) b L → ∃ l u', lp_X12_ending_24 m f (nI k) u = some (l, u') ∧ er_ u u' ∧ kr2_ u' L ∧ ix_ (u'.1 150 41) (bs_ b xs) L
  | [], k, f, u, b, h, hk, hf, hc, hi => by
    obtain ⟨f', rfl⟩ : ∃ f', f = f' + 1 := ⟨f - 1, by omega⟩
    have hk : k = L.length := hk
    subst hk
    have := h.2.1
    exact ⟨nI L.length, u, by rw [lp_X12_ending_24, h.1, if_pos ((nIle (by omega) (by omega)).mpr (by omega))], er_.rf u, h, hi⟩
  | x :: xs, k, f, u, b, h, hk, hf, hc, hi => by
    obtain ⟨f', rfl⟩ : ∃ f', f = f' + 1 := ⟨f - 1, by omega⟩
    have hk : k + (xs.length + 1) = L.length := hk
    have hf : xs.length + 1 + 1 ≤ f' + 1 := hf
    obtain ⟨g1, g2, g3, g4⟩ := id h
    have hx0 : L[k]? = some x := hc 0 x rfl
    have xok : iok_ x := g3 x (List.mem_of_getElem? hx0)
    obtain ⟨c1, c2, c3⟩ := g4 k x hx0
    have hc' : ∀ (i : Nat) (y : It_), xs[i]? = some y → L[k + 1 + i]? = some y := fun i y hy => by
      have := hc (i + 1) y (by simpa using hy)
      rw [show k + 1 + i = k + (i + 1) by omega]; exact this
    have ik : xm_in (nI k) 1001 := nI_xi (by omega) (by omega)
    obtain ⟨u1, a1, a2⟩ := ev_asked hm h hx0
    have h' := kr2_es h a2
    have e41 : u1.1 150 41 = u.1 150 41 := by rw [a2.2 150 (by decide) (by decide)]
    have q6 : ((if (u.1 150 41) < 0 then some (1 : Int32) else xm_chk (xm_in (u.1 150 41) 1001) (if nI x.1 < (u.1 176 (Int32.toNatClampNeg (u.1 150 41))) then some (1 : Int32) else xm_chk (xm_in (u.1 150 41) 1001) (if nI x.1 = (u.1 176 (Int32.toNatClampNeg (u.1 150 41))) then xm_chk (xm_in (u.1 150 41) 1001) (if (u.1 178 (Int32.toNatClampNeg (u.1 150 41))) ≤ nI x.2.2 then some (0 : Int32) else some 1) else some (0 : Int32)))) : Option Int32) = some (if bn_ x b = true then 1 else 0) := by
      cases b with
      | none =>
        have hi : u.1 150 41 = -1 := hi
        rw [hi, if_pos (by decide)]; rfl
      | some y =>
        obtain ⟨j, j1, j2⟩ := hi
        have jl : j < L.length := by rw [List.getElem?_eq_some_iff] at j2; exact j2.1
        have yok : iok_ y := g3 y (List.mem_of_getElem? j2)
        obtain ⟨y1, y2, y3⟩ := g4 j y j2
        have ij : xm_in (nI j) 1001 := nI_xi (by omega) (by omega)
        have l1 : x.1 < 2 ^ 31 := Nat.lt_trans xok.1 (by decide)
        have l2 : y.1 < 2 ^ 31 := Nat.lt_trans yok.1 (by decide)
        rw [j1, if_neg (show ¬ nI j < 0 from fun z => absurd ((nIlt (b := 0) (by omega) (by omega)).mp z) (by omega)), ck_t ij, ck_t ij, ck_t ij, nI_cl (by omega), y1, y3]
        show _ = some (if ah_ x y = true then 1 else 0)
        unfold ah_
        by_cases q : x.1 = y.1
        · rw [if_neg (fun z => absurd ((nIlt l1 l2).mp z) (by omega)), if_pos (by rw [q]), if_pos q]
          by_cases z : x.2.2 < y.2.2
          · rw [if_neg (fun w => absurd ((nIle (iok31 yok) (iok31 xok)).mp w) (by omega)), decide_eq_true z]; rfl
          · rw [if_pos ((nIle (iok31 yok) (iok31 xok)).mpr (by omega)), decide_eq_false z]; rfl
        · rw [if_neg q]
          by_cases z : x.1 < y.1
          · rw [if_pos ((nIlt l1 l2).mpr z), decide_eq_true z]; rfl
          · rw [if_neg (fun w => z ((nIlt l1 l2).mp w)), if_neg (fun w => q (nIinj l1 l2 w)), decide_eq_false z]; rfl
    rw [lp_X12_ending_24, g1, if_neg (fun q => absurd ((nIle (by omega) (by omega)).mp q) (by omega))]
    simp only [ck_t ik, nI_cl (show k < 2 ^ 31 by omega), c1, c2, c3, xm_let]
    rw [q6, a1]
    simp only [Option.bind_some]
    rw [e41, ← nI_succ]
    have stp : bs_ b (x :: xs) = bs_ (if (ft_ x && bn_ x b) = true then some x else b) xs := rfl
    rw [stp]
    have go : ∀ (v : Int32) (b' : Option It_), ix_ v b' L → ∃ l u', lp_X12_ending_24 m f' (nI (k + 1)) (w_I u1 150 41 v) = some (l, u') ∧ er_ u u' ∧ kr2_ u' L ∧ ix_ (u'.1 150 41) (bs_ b' xs) L := by
      intro v b' hv
      have hk2 : kr2_ (w_I u1 150 41 v) L := by
        obtain ⟨z1, z2, z3, z4⟩ := h'
        refine ⟨(rI_ne (by omega)).trans z1, z2, z3, fun j y hy => ?_⟩
        rw [rI_nc (by decide), rI_nc (by decide), rI_nc (by decide)]
        exact z4 j y hy
      obtain ⟨l, u', p1, p2, p3, p4⟩ := ffd_lp hm xs (k + 1) f' (w_I u1 150 41 v) b' hk2 (by omega) (by omega) hc' (by rw [rI_eq]; exact hv)
      refine ⟨l, u', p1, er_.tr (er_.tr (es_er a2) (show er_ u1 (w_I u1 150 41 v) from ⟨rfl, fun q z1 _ _ _ _ _ => rI_nc z1, fun e z1 z2 => rI_ne (by omega)⟩)) p2, p3, p4⟩
    by_cases q : ft_ x = true
    · rw [if_pos q, if_pos rfl, q, Bool.true_and]
      by_cases z : bn_ x b = true
      · rw [if_pos z, if_neg (by decide), if_pos z]
        exact go (nI k) (some x) ⟨k, rfl, hx0⟩
      · rw [if_neg z, if_pos rfl, if_neg z]
        exact go _ b hi
    · rw [if_neg q, if_neg (by decide), Bool.eq_false_iff.mpr q, Bool.false_and, if_neg (by decide)]
      exact go _ b hi
