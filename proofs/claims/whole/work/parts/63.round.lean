/-! the reference's GOING ROUND -/
def by_ (u : xm_Y) (fl vl : Nat) (E : E_) : Prop := ∀ k, k < 6 → match E k with
  | none => u.1 fl k = 1
  | some v => u.1 fl k = 0 ∧ u.2 vl k = Int64.ofInt v
def va_ (u : xm_Y) : Option Int → Prop
  | none => u.1 150 48 = 1
  | some a => u.1 150 48 = 0 ∧ u.2 150 49 = Int64.ofInt a
def rf_ (u u' : xm_Y) : Prop := (∀ q, q ≠ 150 → u'.1 q = u.1 q) ∧ (∀ e, e ≠ 48 → u'.1 150 e = u.1 150 e) ∧ (∀ q, q ≠ 150 → u'.2 q = u.2 q)
theorem rf_.rf (u : xm_Y) : rf_ u u := ⟨fun _ _ => rfl, fun _ _ => rfl, fun _ _ => rfl⟩
theorem rf_.tr {a b c : xm_Y} (h : rf_ a b) (g : rf_ b c) : rf_ a c := ⟨fun q hq => (g.1 q hq).trans (h.1 q hq), fun e he => (g.2.1 e he).trans (h.2.1 e he), fun q hq => (g.2.2 q hq).trans (h.2.2 q hq)⟩
def wr_ (u : xm_Y) (W A : Nat) : Nat → Int := fun i => (u.1 W (A + i)).toInt
def kr_ (u : xm_Y) (W A : Nat) : Int := (u.1 W (A + 3)).toInt
def fo_ (w : Nat → Int) (E : E_) (s : Nat) : Nat → Nat → Option Int → Option Int
  | 0, _, o => o
  | r + 1, i, o => fo_ w E s r (i + 1) (fs_ (w i) E i s o)
theorem fs_0 {E : E_} {i s : Nat} {o : Option Int} : fs_ 0 E i s o = o := by
  cases o with
  | none => rfl
  | some a =>
    simp [fs_]
theorem fo_3 {w : Nat → Int} {E : E_} {s n : Nat} {k0 : Int} (hn1 : 1 ≤ n) (hn : n ≤ 3) (h : ∀ i, n ≤ i → i < 3 → w i = 0) : fo_ w E s n 0 (some k0) = fa_ w k0 E s := by
  rcases lt3n hn1 hn with rfl | rfl | rfl
  · show fs_ (w 0) E 0 s (some k0) = fs_ (w 2) E 2 s (fs_ (w 1) E 1 s (fs_ (w 0) E 0 s (some k0)))
    rw [h 1 (by omega) (by omega), h 2 (by omega) (by omega), fs_0, fs_0]
  · show fs_ (w 1) E 1 s (fs_ (w 0) E 0 s (some k0)) = fs_ (w 2) E 2 s (fs_ (w 1) E 1 s (fs_ (w 0) E 0 s (some k0)))
    rw [h 2 (by omega) (by omega), fs_0]
  · rfl
theorem reach1 (m W wn A i s f n : Nat) (u : xm_Y) (E : E_) (acc : Option Int) (hW : W ≠ 150) (hn3 : n ≤ 3) (hi : i < n) (hs : s < 2) (hA : A + 3 < wn) (hwn : wn < 2 ^ 31) (hn : u.1 150 0 = nI n) (hE : by_ u 170 169 E) (hv : va_ u acc) : ∃ u', lp_X12_reach_18 m W wn (nI A) (nI s) (f + 1) (nI i) u = lp_X12_reach_18 m W wn (nI A) (nI s) f (nI (i + 1)) u' ∧ va_ u' (fs_ (wr_ u W A i) E i s acc) ∧ rf_ u u' := by
  have ix : nI A + nI i = nI (A + i) := nI_ad A i
  have hw : (u.1 W (A + i)).toInt = wr_ u W A i := rfl
  rw [lp_X12_reach_18, hn, if_neg (fun q => absurd ((nIle (by omega) (by omega)).mp q) (by omega)), ix, ck_t (nI_xi (by omega) hwn), nI_cl (by omega)]
  simp only [xm_let]
  by_cases h : u.1 W (A + i) = 0
  · rw [if_pos h]
    refine ⟨u, by rw [nI_succ]; rfl, ?_, rf_.rf u⟩
    rw [show wr_ u W A i = 0 from z32.mp h, fs_0]
    exact hv
  · rw [if_neg h]
    have hw0 : ¬ wr_ u W A i = 0 := fun q => h (z32.mpr q)
    have sg : ((if u.1 W (A + i) ≤ 0 then some ((1 : Int32) - nI s) else some (nI s)) : Option Int32) = some (nI (if 0 < wr_ u W A i then s else 1 - s)) := by
      by_cases q : 0 < wr_ u W A i
      · rw [if_neg (fun z => (le032.mp z) q), if_pos q]
      · rw [if_pos (le032.mpr q), if_neg q, show (1 : Int32) = nI 1 from rfl, nI_sb (by omega) (by omega)]
    rw [sg]
    simp only [Option.bind_some]
    have hk : 2 * i + (if 0 < wr_ u W A i then s else 1 - s) < 6 := by split <;> omega
    generalize hkk : 2 * i + (if 0 < wr_ u W A i then s else 1 - s) = k at hk
    have hin : xm_in (nI k) 6 := nI_xi hk (by omega)
    rw [show (2 : Int32) = nI 2 from rfl, nI_mu, nI_ad, hkk, nI_succ]
    simp only [ck_t hin, nI_cl (show k < 2 ^ 31 by omega)]
    have hEk := hE k hk
    have rfw : ∀ (a : Int32) (b : Int64), rf_ u (w_J (w_I u 150 48 a) 150 49 b) := fun a b => ⟨fun q hq => rI_nc hq, fun e he => (show (w_I u 150 48 a).1 150 e = u.1 150 e from rI_ne (by omega)), fun q hq => rJ_nc hq⟩
    have h48 : ∀ (a : Int32) (b : Int64), (w_J (w_I u 150 48 a) 150 49 b).1 150 48 = a := fun a b => (show (w_I u 150 48 a).1 150 48 = a from rI_eq)
    have h49 : ∀ (a : Int32) (b : Int64), (w_J (w_I u 150 48 a) 150 49 b).2 150 49 = b := fun a b => rJ_eq
    have h170 : ∀ (a : Int32), (w_I u 150 48 a).1 170 k = u.1 170 k := fun a => rI_ne (by omega)
    cases hEq : E k with
    | none =>
      rw [hEq] at hEk
      have k1 : u.1 170 k = 1 := hEk
      have e1 : (if u.1 150 48 = 0 then (if u.1 170 k = 0 then some (0 : Int32) else some 1) else some (1 : Int32)) = some 1 := by
        rw [k1]; split <;> rfl
      rw [e1]
      simp only [Option.bind_some]
      rw [ck_t (by decide), h170, k1, if_neg (by decide)]
      simp only [Option.bind_some]
      refine ⟨_, rfl, ?_, rfw _ _⟩
      have : fs_ (wr_ u W A i) E i s acc = none := by
        cases acc with
        | none => rfl
        | some a =>
          show (if wr_ u W A i = 0 then some a else match E (2 * i + (if 0 < wr_ u W A i then s else 1 - s)) with | none => none | some e => some (a + wr_ u W A i * e)) = none
          rw [if_neg hw0, hkk, hEq]
      rw [this]
      exact h48 _ _
    | some e =>
      rw [hEq] at hEk
      have k1 : u.1 170 k = 0 := hEk.1
      have k2 : u.2 169 k = Int64.ofInt e := hEk.2
      have k3 : ∀ a : Int32, (w_I u 150 48 a).2 169 k = Int64.ofInt e := fun _ => k2
      cases acc with
      | none =>
        have v1 : u.1 150 48 = 1 := hv
        rw [v1, if_neg (by decide)]
        simp only [Option.bind_some]
        rw [ck_t (by decide), h170, k1, if_pos rfl]
        simp only [Option.bind_some]
        exact ⟨_, rfl, h48 _ _, rfw _ _⟩
      | some a =>
        have v1 : u.1 150 48 = 0 := hv.1
        have v2 : u.2 150 49 = Int64.ofInt a := hv.2
        rw [v1, k1, if_pos rfl, if_pos rfl]
        simp only [Option.bind_some]
        rw [ck_t (by decide), h170, k1, if_pos rfl]
        simp only [Option.bind_some]
        refine ⟨_, rfl, ?_, rfw _ _⟩
        have : fs_ (wr_ u W A i) E i s (some a) = some (a + wr_ u W A i * e) := by
          show (if wr_ u W A i = 0 then some a else match E (2 * i + (if 0 < wr_ u W A i then s else 1 - s)) with | none => none | some e => some (a + wr_ u W A i * e)) = _
          rw [if_neg hw0, hkk, hEq]
        rw [this]
        refine ⟨h48 _ _, (h49 _ _).trans ?_⟩
        rw [k3]
        show u.2 150 49 + Int64.ofInt (wr_ u W A i) * Int64.ofInt e = _
        rw [v2, ofac]
theorem by_rf {u u' : xm_Y} {fl vl : Nat} {E : E_} (h : rf_ u u') (h1 : fl ≠ 150) (h2 : vl ≠ 150) (hE : by_ u fl vl E) : by_ u' fl vl E := by
  intro k hk
  have := hE k hk
  rw [h.1 fl h1, h.2.2 vl h2]
  exact this
theorem reach_lp (m W wn A s n : Nat) (E : E_) (hW : W ≠ 150) (hn3 : n ≤ 3) (hs : s < 2) (hA : A + 3 < wn) (hwn : wn < 2 ^ 31) : ∀ (r i f : Nat) (u : xm_Y) (acc : Option Int), i + r = n → r + 1 ≤ f → u.1 150 0 = nI n → by_ u 170 169 E → va_ u acc → ∃ (l : Int32) (u' : xm_Y), lp_X12_reach_18 m W wn (nI A) (nI s) f (nI i) u = some (l, u') ∧ va_ u' (fo_ (wr_ u W A) E s r i acc) ∧ rf_ u u'
  | 0, i, f, u, acc, hi, hf, hn, hE, hv => by
    obtain ⟨f', rfl⟩ : ∃ f', f = f' + 1 := ⟨f - 1, by omega⟩
    refine ⟨nI i, u, ?_, hv, rf_.rf u⟩
    rw [lp_X12_reach_18, hn, if_pos ((nIle (by omega) (by omega)).mpr (by omega))]
  | r + 1, i, f, u, acc, hi, hf, hn, hE, hv => by
    obtain ⟨f', rfl⟩ : ∃ f', f = f' + 1 := ⟨f - 1, by omega⟩
    obtain ⟨u1, a1, a2, a3⟩ := reach1 m W wn A i s f' n u E acc hW hn3 (by omega) hs hA hwn hn hE hv
    obtain ⟨l, u2, b1, b2, b3⟩ := reach_lp m W wn A s n E hW hn3 hs hA hwn r (i + 1) f' u1 _ (by omega) (by omega) ((a3.2.1 0 (by decide)).trans hn) (by_rf a3 (by decide) (by decide) hE) a2
    refine ⟨l, u2, a1.trans b1, ?_, a3.tr b3⟩
    have e : wr_ u1 W A = wr_ u W A := by
      unfold wr_
      rw [a3.1 W hW]
    rw [e] at b2
    exact b2
theorem ev_reach {m : Nat} (hm : 10 ≤ m) (W wn A s n : Nat) (u : xm_Y) (E : E_) (hW : W ≠ 150) (hn1 : 1 ≤ n) (hn3 : n ≤ 3) (hs : s < 2) (hA : A + 3 < wn) (hwn : wn < 2 ^ 31) (hn : u.1 150 0 = nI n) (hE : by_ u 170 169 E) (hz : ∀ i, n ≤ i → i < 3 → wr_ u W A i = 0) : ∃ u', fn_X12_reach m W wn (nI A) (nI s) u = some ((), u') ∧ va_ u' (fa_ (wr_ u W A) (kr_ u W A) E s) ∧ rf_ u u' := by
  have rfw : ∀ (a : Int32) (b : Int64), rf_ u (w_J (w_I u 150 48 a) 150 49 b) := fun a b => ⟨fun q hq => rI_nc hq, fun e he => (show (w_I u 150 48 a).1 150 e = u.1 150 e from rI_ne (by omega)), fun q hq => rJ_nc hq⟩
  have r0 := rfw 0 (Int32.toInt64 (u.1 W (A + 3)))
  obtain ⟨l, u2, b1, b2, b3⟩ := reach_lp m W wn A s n E hW hn3 hs hA hwn n 0 m (w_J (w_I u 150 48 0) 150 49 (Int32.toInt64 (u.1 W (A + 3)))) (some (kr_ u W A)) (by omega) (by omega) ((r0.2.1 0 (by decide)).trans hn) (by_rf r0 (by decide) (by decide) hE) ⟨(show (w_I u 150 48 0).1 150 48 = 0 from rI_eq), rJ_eq⟩
  refine ⟨u2, ?_, ?_, r0.tr b3⟩
  · rw [fn_X12_reach]
    simp only [xm_let]
    rw [show nI A + (3 : Int32) = nI (A + 3) from nI_ad A 3, ck_t (nI_xi hA hwn), nI_cl (by omega)]
    have e : (w_I u 150 48 0).1 W (A + 3) = u.1 W (A + 3) := rI_ne (by omega)
    rw [e, show lp_X12_reach_18 m W wn (nI A) (nI s) m (0 : Int32) _ = _ from b1]
    rfl
  · have e : wr_ (w_J (w_I u 150 48 0) 150 49 (Int32.toInt64 (u.1 W (A + 3)))) W A = wr_ u W A := by
      unfold wr_
      rw [r0.1 W hW]
    rw [e, fo_3 hn1 hn3 hz] at b2
    exact b2
