/-! the reference's sides -/
def sq_ (u : xm_Y) (L : List V4_) : Prop := u.1 150 11 = nI L.length ∧ L.length ≤ 12 ∧ ∀ (k : Nat) (p : V4_), L[k]? = some p → u.2 159 (4 * k) = Int64.ofInt p.1 ∧ u.2 159 (4 * k + 1) = Int64.ofInt p.2.1 ∧ u.2 159 (4 * k + 2) = Int64.ofInt p.2.2.1 ∧ u.2 159 (4 * k + 3) = Int64.ofInt (-p.2.2.2)
def sf_ (c u : xm_Y) : Prop := (∀ q, q ≠ 150 → u.1 q = c.1 q) ∧ (∀ e, e ≠ 11 → e ≠ 17 → u.1 150 e = c.1 150 e) ∧ (∀ q, q ≠ 159 → u.2 q = c.2 q)
theorem sf_.rf (c : xm_Y) : sf_ c c := ⟨fun _ _ => rfl, fun _ _ _ => rfl, fun _ _ => rfl⟩
theorem sf_.tr {a b c : xm_Y} (h : sf_ a b) (g : sf_ b c) : sf_ a c := ⟨fun q hq => (g.1 q hq).trans (h.1 q hq), fun e h1 h2 => (g.2.1 e h1 h2).trans (h.2.1 e h1 h2), fun q hq => (g.2.2 q hq).trans (h.2.2 q hq)⟩
theorem ev_addSide {m : Nat} {u : xm_Y} {L : List V4_} (h : sq_ u L) (hl : L.length < 12) (p : V4_) : ∃ u', fn_X12_addSide m (Int64.ofInt p.1) (Int64.ofInt p.2.1) (Int64.ofInt p.2.2.1) (Int64.ofInt (-p.2.2.2)) u = some ((), u') ∧ sf_ u u' ∧ sq_ u' (L ++ [p]) := by
  obtain ⟨h1, h2, h3⟩ := h
  have e0 : (4 : Int32) * nI L.length = nI (4 * L.length) := nI_mu 4 _
  have e1 : nI (4 * L.length) + 1 = nI (4 * L.length + 1) := nI_ad _ 1
  have e2 : nI (4 * L.length) + 2 = nI (4 * L.length + 2) := nI_ad _ 2
  have e3 : nI (4 * L.length) + 3 = nI (4 * L.length + 3) := nI_ad _ 3
  have i0 : xm_in (nI (4 * L.length)) 48 := nI_xi (by omega) (by omega)
  have i1 : xm_in (nI (4 * L.length + 1)) 48 := nI_xi (by omega) (by omega)
  have i2 : xm_in (nI (4 * L.length + 2)) 48 := nI_xi (by omega) (by omega)
  have i3 : xm_in (nI (4 * L.length + 3)) 48 := nI_xi (by omega) (by omega)
  refine ⟨w_I (w_J (w_J (w_J (w_J u 159 (4 * L.length) (Int64.ofInt p.1)) 159 (4 * L.length + 1) (Int64.ofInt p.2.1)) 159 (4 * L.length + 2) (Int64.ofInt p.2.2.1)) 159 (4 * L.length + 3) (Int64.ofInt (-p.2.2.2))) 150 11 (nI (L.length + 1)), ?_, ⟨fun q hq => rI_nc hq, fun e a b => rI_ne (by omega), fun q hq => ?_⟩, rI_eq.trans (by simp), by simp; omega, fun k x hx => ?_⟩
  · rw [fn_X12_addSide, h1]
    have g : ∀ v : xm_Y, v.1 = u.1 → v.1 150 11 = nI L.length := fun v hv => by rw [hv]; exact h1
    simp only [xm_let, g (w_J u 159 _ _) rfl, g (w_J (w_J u 159 _ _) 159 _ _) rfl, g (w_J (w_J (w_J u 159 _ _) 159 _ _) 159 _ _) rfl, g (w_J (w_J (w_J (w_J u 159 _ _) 159 _ _) 159 _ _) 159 _ _) rfl, e0, e1, e2, e3, ck_t i0, ck_t i1, ck_t i2, ck_t i3, nI_cl (show 4 * L.length < 2 ^ 31 by omega), nI_cl (show 4 * L.length + 1 < 2 ^ 31 by omega), nI_cl (show 4 * L.length + 2 < 2 ^ 31 by omega), nI_cl (show 4 * L.length + 3 < 2 ^ 31 by omega)]
    rw [nI_succ]
  · show (w_J (w_J (w_J (w_J u 159 _ _) 159 _ _) 159 _ _) 159 _ _).2 q = u.2 q
    rw [rJ_nc hq, rJ_nc hq, rJ_nc hq, rJ_nc hq]
  · show (w_J (w_J (w_J (w_J u 159 _ _) 159 _ _) 159 _ _) 159 _ _).2 159 (4 * k) = _ ∧ (w_J (w_J (w_J (w_J u 159 _ _) 159 _ _) 159 _ _) 159 _ _).2 159 (4 * k + 1) = _ ∧ (w_J (w_J (w_J (w_J u 159 _ _) 159 _ _) 159 _ _) 159 _ _).2 159 (4 * k + 2) = _ ∧ (w_J (w_J (w_J (w_J u 159 _ _) 159 _ _) 159 _ _) 159 _ _).2 159 (4 * k + 3) = _
    by_cases e : k = L.length
    · subst e
      have : x = p := by simpa using hx.symm
      subst this
      refine ⟨?_, ?_, ?_, ?_⟩
      · rw [rJ_ne (by omega), rJ_ne (by omega), rJ_ne (by omega), rJ_eq]
      · rw [rJ_ne (by omega), rJ_ne (by omega), rJ_eq]
      · rw [rJ_ne (by omega), rJ_eq]
      · rw [rJ_eq]
    · have kl : k < L.length := by
        rw [List.getElem?_eq_some_iff] at hx
        have := hx.1
        simp at this
        omega
      rw [List.getElem?_append_left kl] at hx
      obtain ⟨a1, a2, a3, a4⟩ := h3 k x hx
      refine ⟨?_, ?_, ?_, ?_⟩
      · rw [rJ_ne (by omega), rJ_ne (by omega), rJ_ne (by omega), rJ_ne (by omega)]; exact a1
      · rw [rJ_ne (by omega), rJ_ne (by omega), rJ_ne (by omega), rJ_ne (by omega)]; exact a2
      · rw [rJ_ne (by omega), rJ_ne (by omega), rJ_ne (by omega), rJ_ne (by omega)]; exact a3
      · rw [rJ_ne (by omega), rJ_ne (by omega), rJ_ne (by omega), rJ_ne (by omega)]; exact a4
def gpd_ (d : xm_Y) (b g : Nat) : V4_ := (wr_ d 152 ((6 * b + g) * 4) 0, wr_ d 152 ((6 * b + g) * 4) 1, wr_ d 152 ((6 * b + g) * 4) 2, kr_ d 152 ((6 * b + g) * 4))
def gpsd_ (d : xm_Y) (b : Nat) : Nat → List V4_
  | 0 => []
  | k + 1 => gpsd_ d b k ++ [gpd_ d b k]
theorem gpsd_l (d : xm_Y) (b : Nat) : ∀ k, (gpsd_ d b k).length = k
  | 0 => rfl
  | k + 1 => by unfold gpsd_; rw [List.length_append, gpsd_l d b k]; rfl
theorem lay1_lp {m b G : Nat} {c : xm_Y} (hb : b < 5) (hG : c.1 151 b = nI G) (hG6 : G ≤ 6) (hk : ∀ g, g < G → nb_ 1000 (gpd_ c b g).2.2.2) : ∀ (r k f : Nat) (u : xm_Y), k + r = G → r + 1 ≤ f → sf_ c u → sq_ u (gpsd_ c b k) → ∃ (l : Int32) (u' : xm_Y), lp_X12_laySides_7 m (nI b) f (nI k) u = some (l, u') ∧ sf_ c u' ∧ sq_ u' (gpsd_ c b G)
  | 0, k, f, u, hk', hf, sx, sh => by
    obtain ⟨f', rfl⟩ : ∃ f', f = f' + 1 := ⟨f - 1, by omega⟩
    obtain rfl : k = G := by omega
    exact ⟨nI k, u, by rw [lp_X12_laySides_7, ck_t (nI_xi hb (by omega)), nI_cl (by omega), sx.1 151 (by decide), hG, if_pos ((nIle (by omega) (by omega)).mpr (by omega))], sx, sh⟩
  | r + 1, k, f, u, hk', hf, sx, sh => by
    obtain ⟨f', rfl⟩ : ∃ f', f = f' + 1 := ⟨f - 1, by omega⟩
    obtain ⟨u1, a1, a2, a3⟩ := ev_addSide (m := m) sh (by rw [gpsd_l]; omega) (gpd_ c b k)
    obtain ⟨l, u', p1, p2, p3⟩ := lay1_lp (m := m) hb hG hG6 hk r (k + 1) f' u1 (by omega) (by omega) (sx.tr a2) a3
    refine ⟨l, u', ?_, p2, p3⟩
    have hA : ((6 : Int32) * nI b + nI k) * 4 = nI ((6 * b + k) * 4) := by
      rw [show (6 : Int32) = nI 6 from rfl, show (4 : Int32) = nI 4 from rfl, nI_mu, nI_ad, nI_mu]
    have e1 : nI ((6 * b + k) * 4) + 1 = nI ((6 * b + k) * 4 + 1) := nI_ad _ 1
    have e2 : nI ((6 * b + k) * 4) + 2 = nI ((6 * b + k) * 4 + 2) := nI_ad _ 2
    have e3 : nI ((6 * b + k) * 4) + 3 = nI ((6 * b + k) * 4 + 3) := nI_ad _ 3
    have neg : Int32.toInt64 (-(c.1 152 ((6 * b + k) * 4 + 3))) = Int64.ofInt (-(gpd_ c b k).2.2.2) := i32n (A := 1000) (hk k (by omega)) (by decide)
    rw [lp_X12_laySides_7, ck_t (nI_xi hb (by omega)), nI_cl (by omega), sx.1 151 (by decide), hG, if_neg (fun q => absurd ((nIle (by omega) (by omega)).mp q) (by omega))]
    simp only [xm_let]
    rw [hA, e1, e2, e3, ck_t (nI_xi (by omega) (by omega)), ck_t (nI_xi (by omega) (by omega)), ck_t (nI_xi (by omega) (by omega)), ck_t (nI_xi (by omega) (by omega)), nI_cl (show (6 * b + k) * 4 < 2 ^ 31 by omega), nI_cl (show (6 * b + k) * 4 + 1 < 2 ^ 31 by omega), nI_cl (show (6 * b + k) * 4 + 2 < 2 ^ 31 by omega), nI_cl (show (6 * b + k) * 4 + 3 < 2 ^ 31 by omega), sx.1 152 (by decide), neg]
    rw [show fn_X12_addSide m (Int32.toInt64 (c.1 152 ((6 * b + k) * 4))) (Int32.toInt64 (c.1 152 ((6 * b + k) * 4 + 1))) (Int32.toInt64 (c.1 152 ((6 * b + k) * 4 + 2))) (Int64.ofInt (-(gpd_ c b k).2.2.2)) u = some ((), u1) from a1]
    simp only [Option.bind_some]
    rw [← nI_succ, p1]
/-- ends, as the reference lays them: one after the other -/
def ep_ (E : E_) (k : Nat) : List V4_ := match E k with
  | none => []
  | some v => [if k % 2 = 0 then un_ (k / 2) 1 (-v) else un_ (k / 2) (-1) v]
def eps_ (E : E_) : Nat → List V4_
  | 0 => []
  | k + 1 => eps_ E k ++ ep_ E k
theorem eps_bpl (E : E_) : ∀ n, eps_ E (2 * n) = bpl_ E n
  | 0 => rfl
  | n + 1 => by
    show (eps_ E (2 * n) ++ ep_ E (2 * n)) ++ ep_ E (2 * n + 1) = bpl_ E n ++ (lop_ n (E (2 * n)) ++ hip_ n (E (2 * n + 1)))
    rw [eps_bpl E n, List.append_assoc]
    congr 1
    unfold ep_
    rw [show (2 * n + 1) % 2 = 1 by omega, show (2 * n + 1) / 2 = n by omega, show 2 * n % 2 = 0 by omega, show 2 * n / 2 = n by omega]
    cases E (2 * n) <;> cases E (2 * n + 1) <;> rfl
theorem eps_l (E : E_) : ∀ k, (eps_ E k).length ≤ k
  | 0 => Nat.le_refl _
  | k + 1 => by
    have := eps_l E k
    unfold eps_
    rw [List.length_append]
    have : (ep_ E k).length ≤ 1 := by unfold ep_; split <;> simp
    omega
def bz_ (u : xm_Y) (n : Nat) (E : E_) : Prop := ∀ k, k < 2 * n → match E k with
  | none => u.1 156 k = 1
  | some v => u.1 156 k = 0 ∧ u.2 155 k = Int64.ofInt v
theorem lay2_lp {m n : Nat} {c : xm_Y} {E : E_} {A : List V4_} (hA : A.length ≤ 6) (hn : c.1 150 0 = nI n) (hn3 : n ≤ 3) (hE : bz_ c n E) : ∀ (r k f : Nat) (u : xm_Y), k + r = 2 * n → r + 1 ≤ f → sf_ c u → sq_ u (A ++ eps_ E k) → ∃ (l : Int32) (u' : xm_Y), lp_X12_laySides_73 m f (nI k) u = some (l, u') ∧ sf_ c u' ∧ sq_ u' (A ++ eps_ E (2 * n))
  | 0, k, f, u, hk, hf, sx, sh => by
    obtain ⟨f', rfl⟩ : ∃ f', f = f' + 1 := ⟨f - 1, by omega⟩
    obtain rfl : k = 2 * n := by omega
    exact ⟨nI (2 * n), u, by rw [lp_X12_laySides_73, sx.2.1 0 (by decide) (by decide), hn, show (2 : Int32) * nI n = nI (2 * n) from nI_mu 2 n, if_pos ((nIle (by omega) (by omega)).mpr (by omega))], sx, sh⟩
  | r + 1, k, f, u, hk, hf, sx, sh => by
    obtain ⟨f', rfl⟩ : ∃ f', f = f' + 1 := ⟨f - 1, by omega⟩
    have k6 : k < 6 := by omega
    have hk2 := hE k (by omega)
    obtain ⟨hd, hr⟩ := half6 k6
    have el := eps_l E k
    rw [lp_X12_laySides_73, sx.2.1 0 (by decide) (by decide), hn, show (2 : Int32) * nI n = nI (2 * n) from nI_mu 2 n, if_neg (fun q => absurd ((nIle (by omega) (by omega)).mp q) (by omega)), hd, show nI k - nI (k / 2) * 2 = nI (k % 2) by rw [← hr, hd]]
    simp only [ck_t (nI_xi k6 (by omega)), nI_cl (show k < 2 ^ 31 by omega), ck_t (show ¬ (2 : Int32) = 0 by decide), xm_let]
    rw [sx.1 156 (by decide), sx.2.2 155 (by decide)]
    cases e : E k with
    | none =>
      rw [e] at hk2
      have hk2 : c.1 156 k = 1 := hk2
      rw [if_neg (show ¬ c.1 156 k = 0 by rw [hk2]; decide)]
      simp only [Option.bind_some]
      rw [← nI_succ]
      refine lay2_lp hA hn hn3 hE r (k + 1) f' u (by omega) (by omega) sx ?_
      show sq_ u (A ++ (eps_ E k ++ ep_ E k))
      have : ep_ E k = [] := by unfold ep_; rw [e]
      rw [this, List.append_nil]; exact sh
    | some v =>
      rw [e] at hk2
      have hk2 : c.1 156 k = 0 ∧ c.2 155 k = Int64.ofInt v := hk2
      rw [if_pos hk2.1, hk2.2]
      obtain ⟨p, hp⟩ : ∃ p, p = (if k % 2 = 0 then un_ (k / 2) 1 (-v) else un_ (k / 2) (-1) v) := ⟨_, rfl⟩
      obtain ⟨u1, a1, a2, a3⟩ := ev_addSide (m := m) sh (by rw [List.length_append]; omega) p
      have call : (Option.bind (if nI (k % 2) = 0 then some (1 : Int64) else some (-1)) fun q11 => Option.bind (if nI (k / 2) = 0 then some q11 else some (0 : Int64)) fun q14 => Option.bind (if nI (k / 2) = 1 then some q11 else some (0 : Int64)) fun q17 => Option.bind (if nI (k / 2) = 2 then some q11 else some (0 : Int64)) fun q20 => Option.bind (fn_X12_addSide m q14 q17 q20 (q11 * Int64.ofInt v) u) fun q23 => some q23.2) = some u1 := by
        have cs : ∀ q11 : Int64, ∀ s : Int, q11 = Int64.ofInt s → p = un_ (k / 2) s (-(s * v)) → (Option.bind (if nI (k / 2) = 0 then some q11 else some (0 : Int64)) fun q14 => Option.bind (if nI (k / 2) = 1 then some q11 else some (0 : Int64)) fun q17 => Option.bind (if nI (k / 2) = 2 then some q11 else some (0 : Int64)) fun q20 => Option.bind (fn_X12_addSide m q14 q17 q20 (q11 * Int64.ofInt v) u) fun q23 => some q23.2) = some u1 := by
          intro q11 s hq hps
          rw [hq, om]
          rw [hps] at a1
          have e4 : -(un_ (k / 2) s (-(s * v))).2.2.2 = s * v := by unfold un_; simp
          rw [e4] at a1
          have : k / 2 = 0 ∨ k / 2 = 1 ∨ k / 2 = 2 := by omega
          rcases this with h | h | h
          · rw [h] at a1 ⊢
            show Option.bind (fn_X12_addSide m (Int64.ofInt s) (Int64.ofInt 0) (Int64.ofInt 0) (Int64.ofInt (s * v)) u) _ = _
            rw [show fn_X12_addSide m (Int64.ofInt s) (Int64.ofInt 0) (Int64.ofInt 0) (Int64.ofInt (s * v)) u = _ from a1]; rfl
          · rw [h] at a1 ⊢
            show Option.bind (fn_X12_addSide m (Int64.ofInt 0) (Int64.ofInt s) (Int64.ofInt 0) (Int64.ofInt (s * v)) u) _ = _
            rw [show fn_X12_addSide m (Int64.ofInt 0) (Int64.ofInt s) (Int64.ofInt 0) (Int64.ofInt (s * v)) u = _ from a1]; rfl
          · rw [h] at a1 ⊢
            show Option.bind (fn_X12_addSide m (Int64.ofInt 0) (Int64.ofInt 0) (Int64.ofInt s) (Int64.ofInt (s * v)) u) _ = _
            rw [show fn_X12_addSide m (Int64.ofInt 0) (Int64.ofInt 0) (Int64.ofInt s) (Int64.ofInt (s * v)) u = _ from a1]; rfl
        have : k % 2 = 0 ∨ k % 2 = 1 := by omega
        rcases this with h | h
        · rw [h]
          rw [h, if_pos rfl] at hp
          exact cs 1 1 rfl (by rw [hp]; congr 1; omega)
        · rw [h]
          rw [h, if_neg (by decide)] at hp
          exact cs (-1) (-1) rfl (by rw [hp]; congr 1; omega)
      rw [call]
      simp only [Option.bind_some]
      rw [← nI_succ]
      refine lay2_lp hA hn hn3 hE r (k + 1) f' u1 (by omega) (by omega) (sx.tr a2) ?_
      show sq_ u1 (A ++ (eps_ E k ++ ep_ E k))
      have : ep_ E k = [p] := by unfold ep_; rw [e, hp]
      rw [this, ← List.append_assoc]; exact a3
