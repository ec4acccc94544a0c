/-! all corners, all directions -/
def gf_ (L : List V4_) (i : Nat) : V4_ := (L[i]?).getD z4_
theorem gf_s {L : List V4_} {i : Nat} {a : V4_} (h : L[i]? = some a) : gf_ L i = a := by unfold gf_; rw [h]; rfl
def GC_ (B X L : List V4_) : Prop := L.Nodup ∧ ∀ Q, Q ∈ L → gc_ (gf_ (B ++ X)) B.length (B ++ X).length Q ∧ pb4_ Q
def okp_ (B X : List V4_) : Prop := (∀ p, p ∈ B ++ X → bl_ p) ∧ B.length + 2 * X.length ≤ 12 ∧ X.length ≤ 3
theorem GC_60 {B X L : List V4_} (o : okp_ B X) (h : GC_ B X L) : L.length ≤ 60 := by
  have e : (B ++ X).length = B.length + X.length := List.length_append
  exact cor_60 (g := gf_ (B ++ X)) (mB := B.length) (N := (B ++ X).length) (by omega) (by have := o.2.1; omega) (by have := o.2.2; omega) h.1 (fun P hP => (h.2 P hP).1)
theorem mt_t (a b c : V4_) : dp_ a (mt_ a b c) = 0 ∧ dp_ b (mt_ a b c) = 0 ∧ dp_ c (mt_ a b c) = 0 := by
  unfold mt_
  rw [dp_lc, dp_lc, dp_lc, dp_c a, dp_c b, dp_c c, yy_1, yy_2, yy_3]
  omega
theorem adl_n {L : List V4_} {Q : V4_} (h : L.Nodup) : (adl_ L Q).Nodup := by
  unfold adl_
  split
  · exact h
  · rename_i q
    rw [List.nodup_append]
    refine ⟨h, by simp, fun a ha b hb => ?_⟩
    rw [List.mem_singleton] at hb
    intro z
    rw [z, hb] at ha
    exact q ha
theorem adl_m {L : List V4_} {Q P : V4_} : P ∈ adl_ L Q ↔ P ∈ L ∨ P = Q := by
  unfold adl_
  split
  · rename_i q
    exact ⟨Or.inl, fun h => h.elim id (fun z => by rw [z]; exact q)⟩
  · rw [List.mem_append, List.mem_singleton]
theorem mtne {a b c : V4_} (h : d3_ a b c ≠ 0) : mt_ a b c ≠ z4_ := fun z => by
  have := (mtp4 h).2
  rw [z] at this
  exact absurd this (by decide)
theorem sk_gc {B X : List V4_} (o : okp_ B X) {i j k : Nat} {a b c : V4_} (hij : i < j) (hjk : j < k) (ha : (B ++ X)[i]? = some a) (hb : (B ++ X)[j]? = some b) (hc : (B ++ X)[k]? = some c) (hd : d3_ a b c ≠ 0) (hi : ins_ (mt_ a b c) B = true) : gc_ (gf_ (B ++ X)) B.length (B ++ X).length (sk_ (mt_ a b c)) ∧ pb4_ (sk_ (mt_ a b c)) := by
  have kl : k < (B ++ X).length := by rw [List.getElem?_eq_some_iff] at hc; exact hc.1
  have nz := mtne hd
  have gp := G_pos nz
  have la := o.1 a (List.mem_of_getElem? ha)
  have lb := o.1 b (List.mem_of_getElem? hb)
  have lc := o.1 c (List.mem_of_getElem? hc)
  obtain ⟨t1, t2, t3⟩ := mt_t a b c
  have tz : ∀ g, dp_ g (mt_ a b c) = 0 → dp_ g (sk_ (mt_ a b c)) = 0 := fun g h => by
    rw [sk_dp] at h
    rcases Int.mul_eq_zero.mp h with q | q
    · omega
    · exact q
  have tp : ∀ g, 0 ≤ dp_ g (mt_ a b c) → 0 ≤ dp_ g (sk_ (mt_ a b c)) := fun g h => by
    rw [sk_dp] at h
    apply Classical.byContradiction
    intro no
    have := Int.mul_pos (show (0 : Int) < (G_ (mt_ a b c) : Int) by omega) (show 0 < -dp_ g (sk_ (mt_ a b c)) by omega)
    have e : (G_ (mt_ a b c) : Int) * -dp_ g (sk_ (mt_ a b c)) = -((G_ (mt_ a b c) : Int) * dp_ g (sk_ (mt_ a b c))) := by grind
    omega
  have p4 : 0 < (sk_ (mt_ a b c)).2.2.2 := by
    have := (mtp4 hd).2
    rw [(sk_m (mt_ a b c)).2.2.2] at this
    apply Classical.byContradiction
    intro no
    have m := Int.mul_nonneg (show (0 : Int) ≤ (G_ (mt_ a b c) : Int) by omega) (show 0 ≤ -(sk_ (mt_ a b c)).2.2.2 by omega)
    have e : (G_ (mt_ a b c) : Int) * -(sk_ (mt_ a b c)).2.2.2 = -((G_ (mt_ a b c) : Int) * (sk_ (mt_ a b c)).2.2.2) := by grind
    omega
  refine ⟨⟨p4, sk_pm nz, fun p hp => ?_, i, j, k, hij, hjk, kl, ?_, ?_, ?_, ?_⟩, sk_b nz (mt_b la lb lc)⟩
  · have : (B ++ X)[p]? = some B[p] := by rw [List.getElem?_append_left hp]; exact List.getElem?_eq_getElem hp
    rw [gf_s this]
    exact tp _ (ins_t.mp hi _ (List.getElem_mem hp))
  · rw [gf_s ha]; exact tz _ t1
  · rw [gf_s hb]; exact tz _ t2
  · rw [gf_s hc]; exact tz _ t3
  · rw [gf_s ha, gf_s hb, gf_s hc]; exact hd
theorem cstep {m b : Nat} (hm : 200 ≤ m) (hb5 : b < 5) {B X : List V4_} (o : okp_ B X) {i j k : Nat} {x y z : V4_} (hij : i < j) (hjk : j < k) (ha : (B ++ X)[i]? = some x) (hb : (B ++ X)[j]? = some y) (hc : (B ++ X)[k]? = some z) {u : xm_Y} {L : List V4_} (sh : sh_ u (B ++ X)) (h2 : u.1 136 2 = nI B.length) (ps : ps_ u b L L.length) (gc : GC_ B X L) : ∃ (u' : xm_Y) (L' : List V4_), Option.bind (fn_X9_meet m (nI (4 * i)) (nI (4 * j)) (nI (4 * k)) u) (fun q6 => if q6.1 = 0 then some q6.2 else Option.bind (fn_X9_isInside m q6.2) fun q10 => if q10.1 = 0 then some q10.2 else Option.bind (fn_X9_shrink m q10.2) fun q12 => Option.bind (fn_X6_add m b q12.2) fun q13 => some q13.2) = some u' ∧ fr6_ b u u' ∧ ps_ u' b L' L'.length ∧ GC_ B X L' ∧ (∀ Q, Q ∈ L → Q ∈ L') ∧ (d3_ x y z ≠ 0 → ins_ (mt_ x y z) B = true → sk_ (mt_ x y z) ∈ L') := by
  have la := o.1 x (List.mem_of_getElem? ha)
  have lb := o.1 y (List.mem_of_getElem? hb)
  have lc := o.1 z (List.mem_of_getElem? hc)
  obtain ⟨u1, a1, a2, a3⟩ := ev_meet (m := m) sh ha hb hc la lb lc
  rw [a1]
  simp only [Option.bind_some]
  by_cases hd : d3_ x y z = 0
  · rw [if_pos hd, if_pos rfl]
    exact ⟨u1, L, rfl, po_fr a2, ps_po hb5 ps a2, gc, fun _ h => h, fun h => absurd hd h⟩
  · rw [if_neg hd, if_neg (by decide)]
    have p1 := a3 hd
    have nz := mtne hd
    have bm := mt_b la lb lc
    rw [ev_inside (by omega) (sh_po sh a2) (by rw [a2.1]; exact h2) p1 bm o.1]
    simp only [Option.bind_some]
    by_cases hi : ins_ (mt_ x y z) B = true
    · rw [if_pos hi, if_neg (by decide)]
      obtain ⟨u2, s1, s2, s3⟩ := ev_shrink hm p1 bm nz
      rw [s1]
      simp only [Option.bind_some]
      obtain ⟨g1, g2⟩ := sk_gc o hij hjk ha hb hc hd hi
      have l60 := GC_60 o gc
      obtain ⟨u3, t1, t2, t3⟩ := ev_add hm hb5 (ps_po hb5 (ps_po hb5 ps a2) s2) (by omega) s3 g2 (fun P hP => (gc.2 P hP).2)
      rw [t1]
      refine ⟨u3, adl_ L (sk_ (mt_ x y z)), rfl, ((po_fr a2).tr (po_fr s2)).tr t2, ?_, ⟨adl_n gc.1, fun Q hQ => ?_⟩, fun Q hQ => adl_m.mpr (Or.inl hQ), fun _ _ => adl_m.mpr (Or.inr rfl)⟩
      · have e : (if sk_ (mt_ x y z) ∈ L then L.length else if 0 < (sk_ (mt_ x y z)).2.2.2 then L.length + 1 else L.length) = (adl_ L (sk_ (mt_ x y z))).length := by
          unfold adl_
          by_cases w : sk_ (mt_ x y z) ∈ L
          · rw [if_pos w, if_pos w]
          · rw [if_neg w, if_neg w, if_pos g1.1]; simp
        rw [e] at t3; exact t3
      · rcases adl_m.mp hQ with h | h
        · exact gc.2 Q h
        · rw [h]; exact ⟨g1, g2⟩
    · rw [if_neg hi, if_pos rfl]
      exact ⟨u1, L, rfl, po_fr a2, ps_po hb5 ps a2, gc, fun _ h => h, fun _ h => absurd h hi⟩
theorem c27_lp {m b : Nat} (hm : 200 ≤ m) (hb5 : b < 5) {B X : List V4_} (o : okp_ B X) {i j : Nat} {x y : V4_} (hij : i < j) (ha : (B ++ X)[i]? = some x) (hb : (B ++ X)[j]? = some y) : ∀ (r k f : Nat) (u : xm_Y) (L : List V4_), k + r = (B ++ X).length → j < k → r + 1 ≤ f → sh_ u (B ++ X) → u.1 136 2 = nI B.length → ps_ u b L L.length → GC_ B X L → ∃ (l : Int32) (u' : xm_Y) (L' : List V4_), lp_X9_findCorners_27 m b (nI i) (nI j) f (nI k) u = some (l, u') ∧ fr6_ b u u' ∧ ps_ u' b L' L'.length ∧ GC_ B X L' ∧ (∀ Q, Q ∈ L → Q ∈ L') ∧ (∀ (k' : Nat) (z : V4_), k ≤ k' → (B ++ X)[k']? = some z → d3_ x y z ≠ 0 → ins_ (mt_ x y z) B = true → sk_ (mt_ x y z) ∈ L')
  | 0, k, f, u, L, hk, hjk, hf, sh, h2, ps, gc => by
    obtain ⟨f', rfl⟩ : ∃ f', f = f' + 1 := ⟨f - 1, by omega⟩
    have l12 := sh.2.1
    refine ⟨nI k, u, L, ?_, fr6_.rf b u, ps, gc, fun _ h => h, fun k' z h1 hz => ?_⟩
    · rw [lp_X9_findCorners_27, sh.1, if_pos ((nIle (by omega) (by omega)).mpr (by omega))]
    · rw [List.getElem?_eq_none (by omega)] at hz; cases hz
  | r + 1, k, f, u, L, hk, hjk, hf, sh, h2, ps, gc => by
    obtain ⟨f', rfl⟩ : ∃ f', f = f' + 1 := ⟨f - 1, by omega⟩
    have l12 := sh.2.1
    have hc : (B ++ X)[k]? = some (B ++ X)[k] := List.getElem?_eq_getElem (by omega)
    obtain ⟨u1, L1, a1, a2, a3, a4, a5, a6⟩ := cstep hm hb5 o hij hjk ha hb hc sh h2 ps gc
    obtain ⟨l, u', L', p1, p2, p3, p4, p5, p6⟩ := c27_lp hm hb5 o hij ha hb r (k + 1) f' u1 L1 (by omega) (by omega) (by omega) (sh_fr hb5 sh a2) (by rw [a2.1 136 (by omega)]; exact h2) a3 a4
    refine ⟨l, u', L', ?_, a2.tr p2, p3, p4, fun Q hQ => p5 Q (a5 Q hQ), fun k' z h1 hz hd hi => ?_⟩
    · rw [lp_X9_findCorners_27, sh.1, if_neg (fun q => absurd ((nIle (by omega) (by omega)).mp q) (by omega)), show (4 : Int32) * nI i = nI (4 * i) from nI_mu 4 i, show (4 : Int32) * nI j = nI (4 * j) from nI_mu 4 j, show (4 : Int32) * nI k = nI (4 * k) from nI_mu 4 k]
      rw [show ∀ {α β γ : Type} (o : Option α) (f : α → Option β) (g : β → Option γ), (o.bind fun q => (f q).bind g) = (o.bind f).bind g from fun o f g => by cases o <;> rfl, a1]
      simp only [Option.bind_some, xm_let]
      rw [← nI_succ, p1]
    · by_cases e : k' = k
      · subst e
        rw [hc] at hz
        cases hz
        exact p5 _ (a6 hd hi)
      · exact p6 k' z (by omega) hz hd hi
theorem c14_lp {m b : Nat} (hm : 200 ≤ m) (hb5 : b < 5) {B X : List V4_} (o : okp_ B X) {i : Nat} {x : V4_} (ha : (B ++ X)[i]? = some x) : ∀ (r j f : Nat) (u : xm_Y) (L : List V4_), j + r = (B ++ X).length → i < j → r + 1 ≤ f → sh_ u (B ++ X) → u.1 136 2 = nI B.length → ps_ u b L L.length → GC_ B X L → ∃ (l : Int32) (u' : xm_Y) (L' : List V4_), lp_X9_findCorners_14 m b (nI i) f (nI j) u = some (l, u') ∧ fr6_ b u u' ∧ ps_ u' b L' L'.length ∧ GC_ B X L' ∧ (∀ Q, Q ∈ L → Q ∈ L') ∧ (∀ (j' k' : Nat) (y z : V4_), j ≤ j' → j' < k' → (B ++ X)[j']? = some y → (B ++ X)[k']? = some z → d3_ x y z ≠ 0 → ins_ (mt_ x y z) B = true → sk_ (mt_ x y z) ∈ L')
  | 0, j, f, u, L, hk, hjk, hf, sh, h2, ps, gc => by
    obtain ⟨f', rfl⟩ : ∃ f', f = f' + 1 := ⟨f - 1, by omega⟩
    have l12 := sh.2.1
    refine ⟨nI j, u, L, ?_, fr6_.rf b u, ps, gc, fun _ h => h, fun j' k' y z h1 h3 hy => ?_⟩
    · rw [lp_X9_findCorners_14, sh.1, if_pos ((nIle (by omega) (by omega)).mpr (by omega))]
    · rw [List.getElem?_eq_none (by omega)] at hy; cases hy
  | r + 1, j, f, u, L, hk, hjk, hf, sh, h2, ps, gc => by
    obtain ⟨f', rfl⟩ : ∃ f', f = f' + 1 := ⟨f - 1, by omega⟩
    have l12 := sh.2.1
    have hb : (B ++ X)[j]? = some (B ++ X)[j] := List.getElem?_eq_getElem (by omega)
    obtain ⟨l1, u1, L1, a1, a2, a3, a4, a5, a6⟩ := c27_lp hm hb5 o hjk ha hb r (j + 1) m u L (by omega) (by omega) (by omega) sh h2 ps gc
    obtain ⟨l, u', L', p1, p2, p3, p4, p5, p6⟩ := c14_lp hm hb5 o ha r (j + 1) f' u1 L1 (by omega) (by omega) (by omega) (sh_fr hb5 sh a2) (by rw [a2.1 136 (by omega)]; exact h2) a3 a4
    refine ⟨l, u', L', ?_, a2.tr p2, p3, p4, fun Q hQ => p5 Q (a5 Q hQ), fun j' k' y z h1 h3 hy hz hd hi => ?_⟩
    · rw [lp_X9_findCorners_14, sh.1, if_neg (fun q => absurd ((nIle (by omega) (by omega)).mp q) (by omega))]
      simp only [xm_let]
      rw [← nI_succ, a1]
      simp only [Option.bind_some]
      rw [p1]
    · by_cases e : j' = j
      · subst e
        rw [hb] at hy
        cases hy
        exact p5 _ (a6 k' z (by omega) hz hd hi)
      · exact p6 j' k' y z (by omega) h3 hy hz hd hi
theorem c2_lp {m b : Nat} (hm : 200 ≤ m) (hb5 : b < 5) {B X : List V4_} (o : okp_ B X) : ∀ (r i f : Nat) (u : xm_Y) (L : List V4_), i + r = (B ++ X).length → r + 1 ≤ f → sh_ u (B ++ X) → u.1 136 2 = nI B.length → ps_ u b L L.length → GC_ B X L → ∃ (l : Int32) (u' : xm_Y) (L' : List V4_), lp_X9_findCorners_2 m b f (nI i) u = some (l, u') ∧ fr6_ b u u' ∧ ps_ u' b L' L'.length ∧ GC_ B X L' ∧ (∀ Q, Q ∈ L → Q ∈ L') ∧ (∀ (i' j' k' : Nat) (x y z : V4_), i ≤ i' → i' < j' → j' < k' → (B ++ X)[i']? = some x → (B ++ X)[j']? = some y → (B ++ X)[k']? = some z → d3_ x y z ≠ 0 → ins_ (mt_ x y z) B = true → sk_ (mt_ x y z) ∈ L')
  | 0, i, f, u, L, hk, hf, sh, h2, ps, gc => by
    obtain ⟨f', rfl⟩ : ∃ f', f = f' + 1 := ⟨f - 1, by omega⟩
    have l12 := sh.2.1
    refine ⟨nI i, u, L, ?_, fr6_.rf b u, ps, gc, fun _ h => h, fun i' j' k' x y z h1 h3 h4 hx => ?_⟩
    · rw [lp_X9_findCorners_2, sh.1, if_pos ((nIle (by omega) (by omega)).mpr (by omega))]
    · rw [List.getElem?_eq_none (by omega)] at hx; cases hx
  | r + 1, i, f, u, L, hk, hf, sh, h2, ps, gc => by
    obtain ⟨f', rfl⟩ : ∃ f', f = f' + 1 := ⟨f - 1, by omega⟩
    have l12 := sh.2.1
    have ha : (B ++ X)[i]? = some (B ++ X)[i] := List.getElem?_eq_getElem (by omega)
    obtain ⟨l1, u1, L1, a1, a2, a3, a4, a5, a6⟩ := c14_lp hm hb5 o ha r (i + 1) m u L (by omega) (by omega) (by omega) sh h2 ps gc
    obtain ⟨l, u', L', p1, p2, p3, p4, p5, p6⟩ := c2_lp hm hb5 o r (i + 1) f' u1 L1 (by omega) (by omega) (sh_fr hb5 sh a2) (by rw [a2.1 136 (by omega)]; exact h2) a3 a4
    refine ⟨l, u', L', ?_, a2.tr p2, p3, p4, fun Q hQ => p5 Q (a5 Q hQ), fun i' j' k' x y z h1 h3 h4 hx hy hz hd hi => ?_⟩
    · rw [lp_X9_findCorners_2, sh.1, if_neg (fun q => absurd ((nIle (by omega) (by omega)).mp q) (by omega))]
      simp only [xm_let]
      rw [← nI_succ, a1]
      simp only [Option.bind_some]
      rw [p1]
    · by_cases e : i' = i
      · subst e
        rw [ha] at hx
        cases hx
        exact p5 _ (a6 j' k' y z (by omega) h4 hy hz hd hi)
      · exact p6 i' j' k' x y z (by omega) h3 h4 hx hy hz hd hi
