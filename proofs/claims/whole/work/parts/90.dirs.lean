def GD_ (B X L : List V4_) : Prop := L.Nodup ∧ ∀ Q, Q ∈ L → gd_ (gf_ (B ++ X)) B.length (B ++ X).length Q ∧ pb4_ Q
theorem GD_36 {B X L : List V4_} (o : okp_ B X) (h : GD_ B X L) : L.length ≤ 36 := by
  have e : (B ++ X).length = B.length + X.length := List.length_append
  exact dir_36 (g := gf_ (B ++ X)) (mB := B.length) (N := (B ++ X).length) (by omega) (by have := o.2.1; omega) (by have := o.2.2; omega) h.1 (fun P hP => (h.2 P hP).1)
theorem fo_t (s : Int) (a b : V4_) : dp_ a (fo4_ s a b) = 0 ∧ dp_ b (fo4_ s a b) = 0 ∧ (fo4_ s a b).2.2.2 = 0 := by
  unfold fo4_
  rw [dp_lc, dp_lc]
  have h1 : dp_ a (cx_ a b) = 0 := by unfold dp_ cx_; grind
  have h2 : dp_ b (cx_ a b) = 0 := by unfold dp_ cx_; grind
  rw [h1, h2]
  refine ⟨by omega, by omega, ?_⟩
  unfold lc_ cx_; simp
theorem fo_ne {s : Int} (hs : s = 1 ∨ s = -1) {a b : V4_} (h : cx_ a b ≠ z4_) : fo4_ s a b ≠ z4_ := by
  intro z
  apply h
  unfold fo4_ lc_ z4_ at z
  simp only [Prod.mk.injEq] at z
  obtain ⟨z1, z2, z3, -⟩ := z
  rcases hs with rfl | rfl <;> exact v4_ext (by show (cx_ a b).1 = 0; omega) (by show (cx_ a b).2.1 = 0; omega) (by show (cx_ a b).2.2.1 = 0; omega) rfl
theorem fo_b {s : Int} (hs : s = 1 ∨ s = -1) {a b : V4_} (ha : bl_ a) (hb : bl_ b) : pb4_ (fo4_ s a b) := by
  obtain ⟨x1, x2, x3⟩ := cx_b ha hb
  have n : ∀ {y : Int}, nb_ 800 y → nb_ 2400000000000 (s * y + 0 * y) := fun {y} h => by
    unfold nb_ at *
    rcases hs with rfl | rfl <;> omega
  refine ⟨n x1, n x2, n x3, ?_⟩
  rw [(fo_t s a b).2.2]
  unfold nb_; decide
theorem sk_gd {B X : List V4_} (o : okp_ B X) {i j : Nat} {a b : V4_} {s : Int} (hs : s = 1 ∨ s = -1) (hij : i < j) (ha : (B ++ X)[i]? = some a) (hb : (B ++ X)[j]? = some b) (hd : cx_ a b ≠ z4_) (hi : ins_ (fo4_ s a b) B = true) : gd_ (gf_ (B ++ X)) B.length (B ++ X).length (sk_ (fo4_ s a b)) ∧ pb4_ (sk_ (fo4_ s a b)) := by
  have jl : j < (B ++ X).length := by rw [List.getElem?_eq_some_iff] at hb; exact hb.1
  have nz := fo_ne hs hd
  have gp := G_pos nz
  have la := o.1 a (List.mem_of_getElem? ha)
  have lb := o.1 b (List.mem_of_getElem? hb)
  obtain ⟨t1, t2, t4⟩ := fo_t s a b
  have tz : ∀ g, dp_ g (fo4_ s a b) = 0 → dp_ g (sk_ (fo4_ s a b)) = 0 := fun g h => by
    rw [sk_dp] at h
    rcases Int.mul_eq_zero.mp h with q | q
    · omega
    · exact q
  have tp : ∀ g, 0 ≤ dp_ g (fo4_ s a b) → 0 ≤ dp_ g (sk_ (fo4_ s a b)) := fun g h => by
    rw [sk_dp] at h
    apply Classical.byContradiction
    intro no
    have := Int.mul_pos (show (0 : Int) < (G_ (fo4_ s a b) : Int) by omega) (show 0 < -dp_ g (sk_ (fo4_ s a b)) by omega)
    have e : (G_ (fo4_ s a b) : Int) * -dp_ g (sk_ (fo4_ s a b)) = -((G_ (fo4_ s a b) : Int) * dp_ g (sk_ (fo4_ s a b))) := by grind
    omega
  have p4 : (sk_ (fo4_ s a b)).2.2.2 = 0 := by
    have := t4
    rw [(sk_m (fo4_ s a b)).2.2.2] at this
    rcases Int.mul_eq_zero.mp this with q | q
    · omega
    · exact q
  have nz2 : sk_ (fo4_ s a b) ≠ z4_ := fun z => by
    apply nz
    obtain ⟨e1, e2, e3, e4⟩ := sk_m (fo4_ s a b)
    rw [z] at e1 e2 e3 e4
    have k0 : ∀ w : Int, w = (G_ (fo4_ s a b) : Int) * 0 → w = 0 := fun w hw => by rw [hw]; omega
    exact v4_ext (k0 _ e1) (k0 _ e2) (k0 _ e3) (k0 _ e4)
  refine ⟨⟨p4, nz2, sk_pm nz, fun p hp => ?_, i, j, hij, jl, ?_, ?_, ?_⟩, sk_b nz (fo_b hs la lb)⟩
  · have : (B ++ X)[p]? = some B[p] := by rw [List.getElem?_append_left hp]; exact List.getElem?_eq_getElem hp
    rw [gf_s this]
    exact tp _ (ins_t.mp hi _ (List.getElem_mem hp))
  · rw [gf_s ha]; exact tz _ t1
  · rw [gf_s hb]; exact tz _ t2
  · rw [gf_s ha, gf_s hb]; exact hd
theorem dstep {m b : Nat} (hm : 200 ≤ m) (hb5 : b < 5) {B X C : List V4_} (o : okp_ B X) (gC : GC_ B X C) {i j : Nat} {x y : V4_} (hij : i < j) (ha : (B ++ X)[i]? = some x) (hb : (B ++ X)[j]? = some y) {s : Int32} (hs : s = 1 ∨ s = -1) {u : xm_Y} {L : List V4_} (sh : sh_ u (B ++ X)) (h2 : u.1 136 2 = nI B.length) (ps : ps_ u b (C ++ L) C.length) (gd : GD_ B X L) : ∃ (u' : xm_Y) (L' : List V4_), Option.bind (fn_X9_follow m (nI (4 * i)) (nI (4 * j)) s u) (fun q6 => if q6.1 = 0 then some q6.2 else Option.bind (fn_X9_isInside m q6.2) fun q10 => if q10.1 = 0 then some q10.2 else Option.bind (fn_X9_shrink m q10.2) fun q12 => Option.bind (fn_X6_add m b q12.2) fun q13 => some q13.2) = some u' ∧ fr6_ b u u' ∧ ps_ u' b (C ++ L') C.length ∧ GD_ B X L' ∧ (∀ Q, Q ∈ L → Q ∈ L') ∧ (cx_ x y ≠ z4_ → ins_ (fo4_ s.toInt x y) B = true → sk_ (fo4_ s.toInt x y) ∈ L') := by
  have la := o.1 x (List.mem_of_getElem? ha)
  have lb := o.1 y (List.mem_of_getElem? hb)
  have si : s.toInt = 1 ∨ s.toInt = -1 := by rcases hs with rfl | rfl <;> decide
  obtain ⟨u1, a1, a2, p1⟩ := ev_follow (m := m) sh ha hb la lb hs
  rw [a1]
  simp only [Option.bind_some]
  by_cases hd : cx_ x y = z4_
  · rw [if_pos hd, if_pos rfl]
    exact ⟨u1, L, rfl, po_fr a2, ps_po hb5 ps a2, gd, fun _ h => h, fun h => absurd hd h⟩
  · rw [if_neg hd, if_neg (by decide)]
    have nz := fo_ne si hd
    have bm := fo_b si la lb
    rw [ev_inside (by omega) (sh_po sh a2) (by rw [a2.1]; exact h2) p1 bm o.1]
    simp only [Option.bind_some]
    by_cases hi : ins_ (fo4_ s.toInt x y) B = true
    · rw [if_pos hi, if_neg (by decide)]
      obtain ⟨u2, s1, s2, s3⟩ := ev_shrink hm p1 bm nz
      rw [s1]
      simp only [Option.bind_some]
      obtain ⟨g1, g2⟩ := sk_gd o si hij ha hb hd hi
      have l60 := GC_60 o gC
      have l36 := GD_36 o gd
      obtain ⟨u3, t1, t2, t3⟩ := ev_add hm hb5 (ps_po hb5 (ps_po hb5 ps a2) s2) (by rw [List.length_append]; omega) s3 g2 (fun P hP => by
        rcases List.mem_append.mp hP with h | h
        · exact (gC.2 P h).2
        · exact (gd.2 P h).2)
      rw [t1]
      have nC : ¬ sk_ (fo4_ s.toInt x y) ∈ C := fun z => by
        have := (gC.2 _ z).1.1
        rw [g1.1] at this
        omega
      have ea : adl_ (C ++ L) (sk_ (fo4_ s.toInt x y)) = C ++ adl_ L (sk_ (fo4_ s.toInt x y)) := by
        unfold adl_
        by_cases w : sk_ (fo4_ s.toInt x y) ∈ L
        · rw [if_pos w, if_pos (by simp [w])]
        · rw [if_neg w, if_neg (by simp [w, nC]), List.append_assoc]
      refine ⟨u3, adl_ L (sk_ (fo4_ s.toInt x y)), rfl, ((po_fr a2).tr (po_fr s2)).tr t2, ?_, ⟨adl_n gd.1, fun Q hQ => ?_⟩, fun Q hQ => adl_m.mpr (Or.inl hQ), fun _ _ => adl_m.mpr (Or.inr rfl)⟩
      · rw [ea, if_neg (show ¬ 0 < (sk_ (fo4_ s.toInt x y)).2.2.2 by rw [g1.1]; omega), show (if sk_ (fo4_ s.toInt x y) ∈ C ++ L then C.length else C.length) = C.length by split <;> rfl] at t3
        exact t3
      · rcases adl_m.mp hQ with h | h
        · exact gd.2 Q h
        · rw [h]; exact ⟨g1, g2⟩
    · rw [if_neg hi, if_pos rfl]
      exact ⟨u1, L, rfl, po_fr a2, ps_po hb5 ps a2, gd, fun _ h => h, fun _ h => absurd h hi⟩
theorem bas {α β γ : Type} (o : Option α) (f : α → Option β) (g : β → Option γ) : (o.bind fun q => (f q).bind g) = (o.bind f).bind g := by cases o <;> rfl
theorem d25 {m b : Nat} (hm : 200 ≤ m) (hb5 : b < 5) {B X C : List V4_} (o : okp_ B X) (gC : GC_ B X C) {i j : Nat} {x y : V4_} (hij : i < j) (ha : (B ++ X)[i]? = some x) (hb : (B ++ X)[j]? = some y) {u : xm_Y} {L : List V4_} (sh : sh_ u (B ++ X)) (h2 : u.1 136 2 = nI B.length) (ps : ps_ u b (C ++ L) C.length) (gd : GD_ B X L) : ∃ (l : Int32) (u' : xm_Y) (L' : List V4_), lp_X9_findDirections_25 m b (nI i) (nI j) m (-1) u = some (l, u') ∧ fr6_ b u u' ∧ ps_ u' b (C ++ L') C.length ∧ GD_ B X L' ∧ (∀ Q, Q ∈ L → Q ∈ L') ∧ (∀ s : Int, (s = 1 ∨ s = -1) → cx_ x y ≠ z4_ → ins_ (fo4_ s x y) B = true → sk_ (fo4_ s x y) ∈ L') := by
  obtain ⟨u1, L1, a1, a2, a3, a4, a5, a6⟩ := dstep (m := m) hm hb5 o gC hij ha hb (s := -1) (Or.inr rfl) sh h2 ps gd
  obtain ⟨u2, L2, b1, b2, b3, b4, b5, b6⟩ := dstep (m := m) hm hb5 o gC hij ha hb (s := 1) (Or.inl rfl) (sh_fr hb5 sh a2) (by rw [a2.1 136 (by omega)]; exact h2) a3 a4
  obtain ⟨f, hf⟩ : ∃ f, m = f + 3 := ⟨m - 3, by omega⟩
  refine ⟨3, u2, L2, ?_, a2.tr b2, b3, b4, fun Q hQ => b5 Q (a5 Q hQ), fun s hs hd hi => ?_⟩
  · have i4 : (4 : Int32) * nI i = nI (4 * i) := nI_mu 4 i
    have j4 : (4 : Int32) * nI j = nI (4 * j) := nI_mu 4 j
    have e : ∀ n, lp_X9_findDirections_25 m b (nI i) (nI j) (n + 1) = fun l4 u0 => if (1 : Int32) < l4 then some (l4, u0) else ((fn_X9_follow m ((4 : Int32) * nI i) ((4 : Int32) * nI j) l4 u0).bind fun q5 => ((if q5.1 = 0 then some q5.2 else ((fn_X9_isInside m q5.2).bind fun q9 => if q9.1 = 0 then some q9.2 else ((fn_X9_shrink m q9.2).bind fun q11 => ((fn_X6_add m b q11.2).bind fun q12 => some q12.2)))) : Option xm_Y).bind fun q6 => xm_let (l4 + (2 : Int32)) fun v13 => lp_X9_findDirections_25 m b (nI i) (nI j) n v13 q6) := fun n => rfl
    have e3 : lp_X9_findDirections_25 m b (nI i) (nI j) m (-1) u = lp_X9_findDirections_25 m b (nI i) (nI j) (f + 2 + 1) (-1) u := by rw [show f + 2 + 1 = m by omega]
    rw [e3, e]
    simp only
    rw [if_neg (by decide), i4, j4, bas, a1]
    simp only [Option.bind_some, xm_let]
    rw [show f + 2 = f + 1 + 1 from rfl, e]
    simp only
    rw [if_neg (by decide), i4, j4, bas, show fn_X9_follow m (nI (4 * i)) (nI (4 * j)) (-1 + 2) u1 = fn_X9_follow m (nI (4 * i)) (nI (4 * j)) 1 u1 from rfl, b1]
    simp only [Option.bind_some, xm_let]
    rw [e]
    simp only
    rw [if_pos (by decide)]
    rfl
  · rcases hs with rfl | rfl
    · exact b6 hd hi
    · exact b5 _ (a6 hd hi)
theorem d14_lp {m b : Nat} (hm : 200 ≤ m) (hb5 : b < 5) {B X C : List V4_} (o : okp_ B X) (gC : GC_ B X C) {i : Nat} {x : V4_} (ha : (B ++ X)[i]? = some x) : ∀ (r j f : Nat) (u : xm_Y) (L : List V4_), j + r = (B ++ X).length → i < j → r + 1 ≤ f → sh_ u (B ++ X) → u.1 136 2 = nI B.length → ps_ u b (C ++ L) C.length → GD_ B X L → ∃ (l : Int32) (u' : xm_Y) (L' : List V4_), lp_X9_findDirections_14 m b (nI i) f (nI j) u = some (l, u') ∧ fr6_ b u u' ∧ ps_ u' b (C ++ L') C.length ∧ GD_ B X L' ∧ (∀ Q, Q ∈ L → Q ∈ L') ∧ (∀ (j' : Nat) (y : V4_) (s : Int), j ≤ j' → (s = 1 ∨ s = -1) → (B ++ X)[j']? = some y → cx_ x y ≠ z4_ → ins_ (fo4_ s x y) B = true → sk_ (fo4_ s x y) ∈ L')
  | 0, j, f, u, L, hk, hjk, hf, sh, h2, ps, gd => by
    obtain ⟨f', rfl⟩ : ∃ f', f = f' + 1 := ⟨f - 1, by omega⟩
    have l12 := sh.2.1
    refine ⟨nI j, u, L, ?_, fr6_.rf b u, ps, gd, fun _ h => h, fun j' y s h1 _ hy => ?_⟩
    · rw [lp_X9_findDirections_14, sh.1, if_pos ((nIle (by omega) (by omega)).mpr (by omega))]
    · rw [List.getElem?_eq_none (by omega)] at hy; cases hy
  | r + 1, j, f, u, L, hk, hjk, hf, sh, h2, ps, gd => by
    obtain ⟨f', rfl⟩ : ∃ f', f = f' + 1 := ⟨f - 1, by omega⟩
    have l12 := sh.2.1
    have hb : (B ++ X)[j]? = some (B ++ X)[j] := List.getElem?_eq_getElem (by omega)
    obtain ⟨l1, u1, L1, a1, a2, a3, a4, a5, a6⟩ := d25 hm hb5 o gC hjk ha hb sh h2 ps gd
    obtain ⟨l, u', L', p1, p2, p3, p4, p5, p6⟩ := d14_lp hm hb5 o gC ha r (j + 1) f' u1 L1 (by omega) (by omega) (by omega) (sh_fr hb5 sh a2) (by rw [a2.1 136 (by omega)]; exact h2) a3 a4
    refine ⟨l, u', L', ?_, a2.tr p2, p3, p4, fun Q hQ => p5 Q (a5 Q hQ), fun j' y s h1 hs hy hd hi => ?_⟩
    · rw [lp_X9_findDirections_14, sh.1, if_neg (fun q => absurd ((nIle (by omega) (by omega)).mp q) (by omega)), a1]
      simp only [Option.bind_some, xm_let]
      rw [← nI_succ, p1]
    · by_cases e : j' = j
      · subst e
        rw [hb] at hy
        cases hy
        exact p5 _ (a6 s hs hd hi)
      · exact p6 j' y s (by omega) hs hy hd hi
theorem d2_lp {m b : Nat} (hm : 200 ≤ m) (hb5 : b < 5) {B X C : List V4_} (o : okp_ B X) (gC : GC_ B X C) : ∀ (r i f : Nat) (u : xm_Y) (L : List V4_), i + r = (B ++ X).length → r + 1 ≤ f → sh_ u (B ++ X) → u.1 136 2 = nI B.length → ps_ u b (C ++ L) C.length → GD_ B X L → ∃ (l : Int32) (u' : xm_Y) (L' : List V4_), lp_X9_findDirections_2 m b f (nI i) u = some (l, u') ∧ fr6_ b u u' ∧ ps_ u' b (C ++ L') C.length ∧ GD_ B X L' ∧ (∀ Q, Q ∈ L → Q ∈ L') ∧ (∀ (i' j' : Nat) (x y : V4_) (s : Int), i ≤ i' → i' < j' → (s = 1 ∨ s = -1) → (B ++ X)[i']? = some x → (B ++ X)[j']? = some y → cx_ x y ≠ z4_ → ins_ (fo4_ s x y) B = true → sk_ (fo4_ s x y) ∈ L')
  | 0, i, f, u, L, hk, hf, sh, h2, ps, gd => by
    obtain ⟨f', rfl⟩ : ∃ f', f = f' + 1 := ⟨f - 1, by omega⟩
    have l12 := sh.2.1
    refine ⟨nI i, u, L, ?_, fr6_.rf b u, ps, gd, fun _ h => h, fun i' j' x y s h1 h3 _ hx => ?_⟩
    · rw [lp_X9_findDirections_2, sh.1, if_pos ((nIle (by omega) (by omega)).mpr (by omega))]
    · rw [List.getElem?_eq_none (by omega)] at hx; cases hx
  | r + 1, i, f, u, L, hk, hf, sh, h2, ps, gd => by
    obtain ⟨f', rfl⟩ : ∃ f', f = f' + 1 := ⟨f - 1, by omega⟩
    have l12 := sh.2.1
    have ha : (B ++ X)[i]? = some (B ++ X)[i] := List.getElem?_eq_getElem (by omega)
    obtain ⟨l1, u1, L1, a1, a2, a3, a4, a5, a6⟩ := d14_lp hm hb5 o gC ha r (i + 1) m u L (by omega) (by omega) (by omega) sh h2 ps gd
    obtain ⟨l, u', L', p1, p2, p3, p4, p5, p6⟩ := d2_lp hm hb5 o gC r (i + 1) f' u1 L1 (by omega) (by omega) (sh_fr hb5 sh a2) (by rw [a2.1 136 (by omega)]; exact h2) a3 a4
    refine ⟨l, u', L', ?_, a2.tr p2, p3, p4, fun Q hQ => p5 Q (a5 Q hQ), fun i' j' x y s h1 h3 hs hx hy hd hi => ?_⟩
    · rw [lp_X9_findDirections_2, sh.1, if_neg (fun q => absurd ((nIle (by omega) (by omega)).mp q) (by omega))]
      simp only [xm_let]
      rw [← nI_succ, a1]
      simp only [Option.bind_some]
      rw [p1]
    · by_cases e : i' = i
      · subst e
        rw [ha] at hx
        cases hx
        exact p5 _ (a6 j' y s (by omega) hs hy hd hi)
      · exact p6 i' j' x y s (by omega) h3 hs hx hy hd hi
