/-! the class's makeAll, firstFault, judge -/
theorem fill_lp (m p pn : Nat) (hpn : pn < 2 ^ 31) (v : Int32) : ∀ (r k f : Nat) (u : xm_Y), k + r = pn → r + 1 ≤ f → ∃ (l : Int32) (u' : xm_Y), lp_J7_fill_53178_5 m p pn v (nI pn) f (nI k) u = some (l, u') ∧ u'.2 = u.2 ∧ (∀ q, q ≠ p → u'.1 q = u.1 q) ∧ (∀ j, j < k → u'.1 p j = u.1 p j) ∧ (∀ j, k ≤ j → j < pn → u'.1 p j = v)
  | 0, k, f, u, hk, hf => by
    obtain ⟨f', rfl⟩ : ∃ f', f = f' + 1 := ⟨f - 1, by omega⟩
    obtain rfl : k = pn := by omega
    exact ⟨nI k, u, by rw [lp_J7_fill_53178_5, if_pos ((nIle hpn hpn).mpr (by omega))], rfl, fun _ _ => rfl, fun _ _ => rfl, fun j h1 h2 => by omega⟩
  | r + 1, k, f, u, hk, hf => by
    obtain ⟨f', rfl⟩ : ∃ f', f = f' + 1 := ⟨f - 1, by omega⟩
    obtain ⟨l, u', e, a1, a2, a3, a4⟩ := fill_lp m p pn hpn v r (k + 1) f' (w_I u p k v) (by omega) (by omega)
    refine ⟨l, u', ?_, a1, fun q hq => (a2 q hq).trans (rI_nc hq), fun j hj => (a3 j (by omega)).trans (rI_ne (by omega)), fun j h1 h2 => ?_⟩
    · rw [lp_J7_fill_53178_5, if_neg (fun q => absurd ((nIle hpn (by omega)).mp q) (by omega)), ck_t (nI_xi (by omega) hpn), nI_cl (by omega)]
      simp only [xm_let]
      rw [← nI_succ, e]
    · by_cases q : j = k
      · subst q
        rw [a3 j (by omega), rI_eq]
      · exact a4 j (by omega) h2
theorem ev_fill {m : Nat} (p pn : Nat) (hpn : pn < 2 ^ 31) (hm : pn + 1 ≤ m) (v : Int32) (u : xm_Y) : ∃ u', fn_J7_fill_53178 m p pn v u = some ((), u') ∧ u'.2 = u.2 ∧ (∀ q, q ≠ p → u'.1 q = u.1 q) ∧ (∀ j, j < pn → u'.1 p j = v) := by
  obtain ⟨l, u', e, a1, a2, a3, a4⟩ := fill_lp m p pn hpn v pn 0 m u (by omega) (by omega)
  refine ⟨u', ?_, a1, a2, fun j hj => a4 j (by omega) hj⟩
  rw [fn_J7_fill_53178]
  simp only [xm_let]
  rw [show lp_J7_fill_53178_5 m p pn v (Int32.ofNat pn) m (0 : Int32) u = _ from e]
  rfl
theorem sd_lp {m : Nat} (hm : 2100 ≤ m) {c : xm_Y} {n : Nat} (hn : c.1 146 1 = nI n) (hn40 : n ≤ 40) : ∀ (xs : List It_) (k f : Nat) (u : xm_Y) (L : List It_), k + xs.length = n → xs.length + 1 ≤ f → ef_ c u → kc2_ u L → L.length ≤ k → (∀ x, x ∈ xs → iok_ x) → (∀ (i : Nat) (x : It_), xs[i]? = some x → c.2 147 (k + i) = pi_ x) → ∃ (l : Int32) (u' : xm_Y), lp_X3_makeAll_15 m f (nI k) u = some (l, u') ∧ ef_ c u' ∧ kc2_ u' (L ++ rs_ L xs)
  | [], k, f, u, L, hk, hf, ef, hL, hl, hx, hc => by
    obtain ⟨f', rfl⟩ : ∃ f', f = f' + 1 := ⟨f - 1, by omega⟩
    have hk : k = n := hk
    subst hk
    refine ⟨nI k, u, ?_, ef, ?_⟩
    · rw [lp_X3_makeAll_15, ef.2.1 1 (by decide), hn, if_pos ((nIle (by omega) (by omega)).mpr (by omega))]
    · show kc2_ u (L ++ [])
      rw [List.append_nil]; exact hL
  | x :: xs, k, f, u, L, hk, hf, ef, hL, hl, hx, hc => by
    obtain ⟨f', rfl⟩ : ∃ f', f = f' + 1 := ⟨f - 1, by omega⟩
    have hk : k + (xs.length + 1) = n := hk
    have hf : xs.length + 1 + 1 ≤ f' + 1 := hf
    obtain ⟨u1, a1, a2, a3⟩ := ev_keepc hm hL (hx x (by simp))
    have c0 : u.2 147 k = pi_ x := by rw [ef.2.2 147 (by decide)]; exact hc 0 x rfl
    have st : ∃ L1, kp_ L x = some L1 ∧ L1.length ≤ k + 1 ∧ L1 ++ rs_ L1 xs = L ++ rs_ L (x :: xs) := by
      show ∃ L1, kp_ L x = some L1 ∧ L1.length ≤ k + 1 ∧ L1 ++ rs_ L1 xs = L ++ (if x ∈ L then rs_ L xs else x :: rs_ (L ++ [x]) xs)
      unfold kp_
      by_cases q : x ∈ L
      · rw [if_pos q, if_pos q]; exact ⟨L, rfl, by omega, rfl⟩
      · rw [if_neg q, if_neg q, if_pos (by omega)]
        exact ⟨L ++ [x], rfl, by simp; omega, by simp⟩
    obtain ⟨L1, k1, k2, k3⟩ := st
    obtain ⟨l, u', p1, p2, p3⟩ := sd_lp hm hn hn40 xs (k + 1) f' u1 L1 (by omega) (by omega) (ef.tr a2) (a3 L1 k1) k2 (fun y hy => hx y (by simp [hy])) (fun i y hy => by
      have := hc (i + 1) y (by simpa using hy)
      rw [show k + 1 + i = k + (i + 1) by omega]; exact this)
    refine ⟨l, u', ?_, p2, by rw [← k3]; exact p3⟩
    rw [lp_X3_makeAll_15, ef.2.1 1 (by decide), hn, if_neg (fun q => absurd ((nIle (by omega) (by omega)).mp q) (by omega)), ck_t (nI_xi (by omega) (by omega)), nI_cl (by omega), c0, a1]
    simp only [Option.bind_some, xm_let]
    rw [← nI_succ, p1]
theorem row_lp {m : Nat} (hm : 2100 ≤ m) {S0 : Nat} (hS : S0 ≤ 1000) {a : It_} {A : Nat} : ∀ (xs : List It_) (k f : Nat) (u : xm_Y) (L : List It_), k + xs.length = S0 → xs.length + 1 ≤ f → kc2_ u L → L[A]? = some a → (∀ (i : Nat) (x : It_), xs[i]? = some x → L[k + i]? = some x) → ∃ (l : Int32) (u' : xm_Y), lp_X3_makeAll_64 m (nI S0) (nI A) f (nI k) u = some (match rw2_ a xs L with | none => .inl (0, u') | some _ => .inr (l, u')) ∧ ef_ u u' ∧ (∀ L', rw2_ a xs L = some L' → kc2_ u' L')
  | [], k, f, u, L, hk, hf, hL, ha, hc => by
    obtain ⟨f', rfl⟩ : ∃ f', f = f' + 1 := ⟨f - 1, by omega⟩
    have hk : k = S0 := hk
    subst hk
    refine ⟨nI k, u, ?_, ef_.rf u, fun L' h => by cases h; exact hL⟩
    rw [lp_X3_makeAll_64, if_pos ((nIle (by omega) (by omega)).mpr (by omega))]
    rfl
  | x :: xs, k, f, u, L, hk, hf, hL, ha, hc => by
    obtain ⟨f', rfl⟩ : ∃ f', f = f' + 1 := ⟨f - 1, by omega⟩
    have hk : k + (xs.length + 1) = S0 := hk
    have hf : xs.length + 1 + 1 ≤ f' + 1 := hf
    obtain ⟨g1, g2, g3, g4, g5⟩ := id hL
    have Al : A < L.length := by rw [List.getElem?_eq_some_iff] at ha; exact ha.1
    have aok : iok_ a := g3 a (List.mem_of_getElem? ha)
    have hx0 : L[k]? = some x := hc 0 x rfl
    have xok : iok_ x := g3 x (List.mem_of_getElem? hx0)
    have c1 := g4 A a ha
    have c2 := g4 k x hx0
    rw [lp_X3_makeAll_64, if_neg (fun q => absurd ((nIle (by omega) (by omega)).mp q) (by omega))]
    have iA : xm_in (nI A) 1000 := nI_xi (by omega) (by omega)
    have ik : xm_in (nI k) 1000 := nI_xi (by omega) (by omega)
    simp only [ck_t iA, ck_t ik, nI_cl (show A < 2 ^ 31 by omega), nI_cl (show k < 2 ^ 31 by omega), fn_X3_toOf, fn_X3_fromOf, Option.bind_some, c1, c2, xm_let]
    show ∃ l u', (if to_ (pi_ a) = fr_ (pi_ x) then _ else _) = _ ∧ _
    rw [pi_to aok, pi_fr xok, ← nI_succ]
    have stp : rw2_ a (x :: xs) L = (if a.2.1 = x.1 then (match kp_ L (pr_ a x) with | none => none | some L' => rw2_ a xs L') else rw2_ a xs L) := rfl
    rw [stp]
    by_cases q : a.2.1 = x.1
    · rw [if_pos (by rw [q]), ev_tgc (by omega) aok xok]
      simp only [Option.bind_some, if_pos q]
      obtain ⟨u1, a1, a2, a3⟩ := ev_keepc hm hL (pr_ok aok xok)
      rw [a1]
      simp only [Option.bind_some]
      cases e : kp_ L (pr_ a x) with
      | none =>
        refine ⟨0, u1, ?_, a2, fun L' h => by cases h⟩
        rfl
      | some L1 =>
        obtain ⟨s1, s2, s3, s4, s5⟩ := kp_sub e
        obtain ⟨l, u', p1, p2, p3⟩ := row_lp hm hS xs (k + 1) f' u1 L1 (by omega) (by omega) (a3 L1 e) (s5 A a ha) (fun i y hy => by
          have := hc (i + 1) y (by simpa using hy)
          rw [show k + 1 + i = k + (i + 1) by omega]; exact s5 _ y this)
        refine ⟨l, u', ?_, a2.tr p2, p3⟩
        rw [show (some L1).isSome = true from rfl, if_pos rfl, if_neg (by decide), p1]
    · rw [if_neg (fun z => q (nIinj (Nat.lt_trans aok.2.1 (by decide)) (Nat.lt_trans xok.1 (by decide)) z))]
      simp only [if_neg q]
      exact row_lp hm hS xs (k + 1) f' u L (by omega) (by omega) hL ha (fun i y hy => by
        have := hc (i + 1) y (by simpa using hy)
        rw [show k + 1 + i = k + (i + 1) by omega]; exact this)
theorem out_lp {m : Nat} (hm : 2100 ≤ m) {S : List It_} (hS : S.length ≤ 1000) : ∀ (r k f : Nat) (u : xm_Y) (L : List It_) (o : Option (List It_)), k + r = 1001 → r + 1 ≤ f → kc2_ u L → (∀ (i : Nat) (x : It_), S[i]? = some x → L[i]? = some x) → ot_ S r k L = some o → ∃ (l : Int32) (u' : xm_Y), lp_X3_makeAll_47 m (nI S.length) f (nI k) u = some (match o with | none => .inl (0, u') | some _ => .inr (l, u')) ∧ ef_ u u' ∧ (∀ L', o = some L' → kc2_ u' L')
  | 0, k, f, u, L, o, hk, hf, hL, hc, ho => by cases ho
  | r + 1, k, f, u, L, o, hk, hf, hL, hc, ho => by
    obtain ⟨f', rfl⟩ : ∃ f', f = f' + 1 := ⟨f - 1, by omega⟩
    have ho : (match L[k]? with | none => some (some L) | some a => match rw2_ a S L with | none => some none | some L' => ot_ S r (k + 1) L') = some o := ho
    cases e : L[k]? with
    | none =>
      rw [e] at ho
      have ho : some (some L) = some o := ho
      cases ho
      have kl : L.length ≤ k := by rw [List.getElem?_eq_none_iff] at e; exact e
      refine ⟨nI k, u, ?_, ef_.rf u, fun L' h => by cases h; exact hL⟩
      rw [lp_X3_makeAll_47, hL.1]
      by_cases z : 1000 ≤ k
      · rw [if_pos (show (1000 : Int32) ≤ nI k from (nIle (a := 1000) (by omega) (by omega)).mpr z)]
      · have := hL.2.1
        rw [if_neg (show ¬ (1000 : Int32) ≤ nI k from fun q => z ((nIle (a := 1000) (by omega) (by omega)).mp q)), if_pos ((nIle (by omega) (by omega)).mpr kl)]
    | some a =>
      rw [e] at ho
      have ho : (match rw2_ a S L with | none => some none | some L' => ot_ S r (k + 1) L') = some o := ho
      have kl : k < L.length := by rw [List.getElem?_eq_some_iff] at e; exact e.1
      have := hL.2.1
      obtain ⟨l, u1, p1, p2, p3⟩ := row_lp (m := m) hm hS (a := a) (A := k) S 0 m u L (by omega) (by omega) hL e (fun i x hx => by rw [Nat.zero_add]; exact hc i x hx)
      rw [lp_X3_makeAll_47, hL.1, if_neg (show ¬ (1000 : Int32) ≤ nI k from fun q => absurd ((nIle (a := 1000) (by omega) (by omega)).mp q) (by omega)), if_neg (fun q => absurd ((nIle (by omega) (by omega)).mp q) (by omega)), show lp_X3_makeAll_64 m (nI S.length) (nI k) m (0 : Int32) u = _ from p1]
      cases e2 : rw2_ a S L with
      | none =>
        rw [e2] at ho
        have ho : some none = some o := ho
        cases ho
        exact ⟨0, u1, rfl, p2, fun L' h => by cases h⟩
      | some L1 =>
        rw [e2] at ho
        have ho : ot_ S r (k + 1) L1 = some o := ho
        obtain ⟨s1, s2, s3⟩ := rw2_sub e2
        obtain ⟨l2, u', t1, t2, t3⟩ := out_lp hm hS r (k + 1) f' u1 L1 o (by omega) (by omega) (p3 L1 e2) (fun i x hx => s3 i x (hc i x hx)) ho
        refine ⟨l2, u', ?_, p2.tr t2, t3⟩
        simp only [Option.bind_some, Sum.elim, xm_let]
        rw [← nI_succ, t1]
/-- the first fault -/
def bn_ (x : It_) : Option It_ → Bool
  | none => true
  | some y => ah_ x y
def bs_ : Option It_ → List It_ → Option It_
  | b, [] => b
  | b, x :: xs => bs_ (if (ft_ x && bn_ x b) = true then some x else b) xs
def ix_ (l : Int32) (b : Option It_) (L : List It_) : Prop := match b with
  | none => l = -1
  | some y => ∃ j : Nat, l = nI j ∧ L[j]? = some y
theorem ff_lp {m : Nat} (hm : 20 ≤ m) {u : xm_Y} {L : List It_} (h : kc2_ u L) : ∀ (xs : List It_) (k f : Nat) (l : Int32) (b : Option It_), k + xs.length = L.length → xs.length + 1 ≤ f → (∀ (i : Nat) (x : It_), xs[i]? = some x → L[k + i]? = some x) → ix_ l b L → ∃ l' l2, lp_X3_firstFault_4 m f l (nI k) u = some (l', l2, u) ∧ ix_ l' (bs_ b xs) L
  | [], k, f, l, b, hk, hf, hc, hi => by
    obtain ⟨f', rfl⟩ : ∃ f', f = f' + 1 := ⟨f - 1, by omega⟩
    have hk : k = L.length := hk
    subst hk
    have := h.2.1
    exact ⟨l, nI L.length, by rw [lp_X3_firstFault_4, h.1, if_pos ((nIle (by omega) (by omega)).mpr (by omega))], hi⟩
  | x :: xs, k, f, l, b, hk, hf, hc, hi => by
    obtain ⟨f', rfl⟩ : ∃ f', f = f' + 1 := ⟨f - 1, by omega⟩
    have hk : k + (xs.length + 1) = L.length := hk
    have hf : xs.length + 1 + 1 ≤ f' + 1 := hf
    obtain ⟨g1, g2, g3, g4, g5⟩ := id h
    have hx0 : L[k]? = some x := hc 0 x rfl
    have xok : iok_ x := g3 x (List.mem_of_getElem? hx0)
    have c2 := g4 k x hx0
    have hc' : ∀ (i : Nat) (y : It_), xs[i]? = some y → L[k + 1 + i]? = some y := fun i y hy => by
      have := hc (i + 1) y (by simpa using hy)
      rw [show k + 1 + i = k + (i + 1) by omega]; exact this
    have ik : xm_in (nI k) 1000 := nI_xi (by omega) (by omega)
    rw [lp_X3_firstFault_4, g1, if_neg (fun q => absurd ((nIle (by omega) (by omega)).mp q) (by omega))]
    simp only [ck_t ik, nI_cl (show k < 2 ^ 31 by omega), c2, xm_let]
    rw [ev_isFault hm xok]
    simp only [Option.bind_some, c2]
    rw [← nI_succ]
    have stp : bs_ b (x :: xs) = bs_ (if (ft_ x && bn_ x b) = true then some x else b) xs := rfl
    rw [stp]
    by_cases q : ft_ x = true
    · rw [if_pos q, if_neg (by decide), q, Bool.true_and]
      cases b with
      | none =>
        have hi : l = -1 := hi
        subst hi
        rw [if_pos (by decide), show bn_ x none = true from rfl, if_pos rfl]
        simp only [Option.bind_some]
        exact ff_lp hm h xs (k + 1) f' (nI k) (some x) (by omega) (by omega) hc' ⟨k, rfl, hx0⟩
      | some y =>
        obtain ⟨j, rfl, j2⟩ := hi
        have jl : j < L.length := by rw [List.getElem?_eq_some_iff] at j2; exact j2.1
        have yok : iok_ y := g3 y (List.mem_of_getElem? j2)
        rw [if_neg (show ¬ nI j < 0 from fun z => absurd ((nIlt (b := 0) (by omega) (by omega)).mp z) (by omega)), ck_t (nI_xi (by omega) (by omega)), nI_cl (by omega), g4 j y j2, ev_isAhead hm xok yok, show bn_ x (some y) = ah_ x y from rfl]
        simp only [Option.bind_some]
        by_cases z : ah_ x y = true
        · rw [if_pos z, if_neg (by decide), if_pos z]
          simp only [Option.bind_some]
          exact ff_lp hm h xs (k + 1) f' (nI k) (some x) (by omega) (by omega) hc' ⟨k, rfl, hx0⟩
        · rw [if_neg z, if_pos rfl, if_neg z]
          simp only [Option.bind_some]
          exact ff_lp hm h xs (k + 1) f' (nI j) (some y) (by omega) (by omega) hc' ⟨j, rfl, j2⟩
    · rw [if_neg q, if_pos rfl, Bool.eq_false_iff.mpr q, Bool.false_and, if_neg (by decide)]
      simp only [Option.bind_some]
      exact ff_lp hm h xs (k + 1) f' l b (by omega) (by omega) hc' hi
