/-! is it empty -/
def e17_ (c u : xm_Y) : Prop := (∀ q, q ≠ 150 → u.1 q = c.1 q) ∧ (∀ e, e ≠ 17 → u.1 150 e = c.1 150 e) ∧ u.2 = c.2
theorem e17_.rf (c : xm_Y) : e17_ c c := ⟨fun _ _ => rfl, fun _ _ => rfl, rfl⟩
theorem e17_.tr {a b c : xm_Y} (h : e17_ a b) (g : e17_ b c) : e17_ a c := ⟨fun q hq => (g.1 q hq).trans (h.1 q hq), fun e he => (g.2.1 e he).trans (h.2.1 e he), g.2.2.trans h.2.2⟩
theorem e17_.w (c : xm_Y) (v : Int32) : e17_ c (w_I c 150 17 v) := ⟨fun q hq => rI_nc hq, fun e he => rI_ne (by omega), rfl⟩
theorem sq_e {c u : xm_Y} {L : List V4_} (h : sq_ c L) (e : e17_ c u) : sq_ u L := by
  obtain ⟨h1, h2, h3⟩ := h
  exact ⟨(e.2.1 11 (by decide)).trans h1, h2, fun k p hp => by rw [e.2.2]; exact h3 k p hp⟩
def fl17_ (L : List V4_) (u : xm_Y) : Prop := (u.1 150 17 = 0 ∨ u.1 150 17 = 1) ∧ (u.1 150 17 = 1 → Emp_ L)
theorem e4_lp {m : Nat} {L : List V4_} (hb : ∀ p, p ∈ L → bl_ p) {i j k : Nat} {a b c : V4_} (ha : L[i]? = some a) (hb' : L[j]? = some b) (hc : L[k]? = some c) : ∀ (r l f : Nat) (u : xm_Y), l + r = L.length → r + 1 ≤ f → sq_ u L → fl17_ L u → ∃ (x : Int32) (u' : xm_Y), lp_X12_laySides_281 m (nI i) (nI j) (nI k) f (nI l) u = some (x, u') ∧ e17_ u u' ∧ fl17_ L u' ∧ (u.1 150 17 = 1 → u'.1 150 17 = 1) ∧ (∀ (l' : Nat) (d : V4_), l ≤ l' → L[l']? = some d → ct4_ a b c d → u'.1 150 17 = 1)
  | 0, l, f, u, hl, hf, sq, fl => by
    obtain ⟨f', rfl⟩ : ∃ f', f = f' + 1 := ⟨f - 1, by omega⟩
    have l12 := sq.2.1
    refine ⟨nI l, u, by rw [lp_X12_laySides_281, sq.1, if_pos ((nIle (by omega) (by omega)).mpr (by omega))], e17_.rf u, fl, fun h => h, fun l' d h1 hd => ?_⟩
    rw [List.getElem?_eq_none (by omega)] at hd; cases hd
  | r + 1, l, f, u, hl, hf, sq, fl => by
    obtain ⟨f', rfl⟩ : ∃ f', f = f' + 1 := ⟨f - 1, by omega⟩
    have l12 := sq.2.1
    rw [lp_X12_laySides_281, sq.1, if_neg (fun q => absurd ((nIle (by omega) (by omega)).mp q) (by omega))]
    by_cases z : u.1 150 17 = 0
    · have hd : L[l]? = some L[l] := List.getElem?_eq_getElem (by omega)
      obtain ⟨rr, r1, r2, r3, r4⟩ := ev_four (m := m) sq ha hb' hc hd (hb _ (List.mem_of_getElem? ha)) (hb _ (List.mem_of_getElem? hb')) (hb _ (List.mem_of_getElem? hc)) (hb _ (List.mem_of_getElem? hd))
      rw [if_pos z, r1]
      simp only [Option.bind_some, ck_t r2, xm_let]
      have fe := e17_.w u rr
      have fv : (w_I u 150 17 rr).1 150 17 = rr := rI_eq
      obtain ⟨x, u', p1, p2, p3, p4, p5⟩ := e4_lp (m := m) hb ha hb' hc r (l + 1) f' (w_I u 150 17 rr) (by omega) (by omega) (sq_e sq fe) ⟨by rw [fv]; exact r2, by rw [fv]; exact r3⟩
      refine ⟨x, u', by rw [← nI_succ]; exact p1, fe.tr p2, p3, fun w => absurd (z.symm.trans w) (by decide), fun l' d h1 hd' ct => ?_⟩
      by_cases e : l' = l
      · subst e
        rw [hd] at hd'
        cases hd'
        exact p4 (by rw [fv]; exact r4 ct)
      · exact p5 l' d (by omega) hd' ct
    · rw [if_neg z]
      have o := fl.1.resolve_left z
      exact ⟨nI l, u, rfl, e17_.rf u, fl, fun h => h, fun _ _ _ _ _ => o⟩
theorem e3_lp {m : Nat} (hm : 20 ≤ m) {L : List V4_} (hb : ∀ p, p ∈ L → bl_ p) {i j : Nat} {a b : V4_} (ha : L[i]? = some a) (hb' : L[j]? = some b) : ∀ (r k f : Nat) (u : xm_Y), k + r = L.length → r + 1 ≤ f → sq_ u L → fl17_ L u → ∃ (x : Int32) (u' : xm_Y), lp_X12_laySides_247 m (nI i) (nI j) f (nI k) u = some (x, u') ∧ e17_ u u' ∧ fl17_ L u' ∧ (u.1 150 17 = 1 → u'.1 150 17 = 1) ∧ (∀ (k' : Nat) (c : V4_), k ≤ k' → L[k']? = some c → ct3_ a b c → u'.1 150 17 = 1) ∧ (∀ (k' l' : Nat) (c d : V4_), k ≤ k' → k' < l' → L[k']? = some c → L[l']? = some d → ct4_ a b c d → u'.1 150 17 = 1)
  | 0, k, f, u, hk, hf, sq, fl => by
    obtain ⟨f', rfl⟩ : ∃ f', f = f' + 1 := ⟨f - 1, by omega⟩
    have l12 := sq.2.1
    refine ⟨nI k, u, by rw [lp_X12_laySides_247, sq.1, if_pos ((nIle (by omega) (by omega)).mpr (by omega))], e17_.rf u, fl, fun h => h, fun k' c h1 hc => ?_, fun k' l' c d h1 _ hc => ?_⟩
    · rw [List.getElem?_eq_none (by omega)] at hc; cases hc
    · rw [List.getElem?_eq_none (by omega)] at hc; cases hc
  | r + 1, k, f, u, hk, hf, sq, fl => by
    obtain ⟨f', rfl⟩ : ∃ f', f = f' + 1 := ⟨f - 1, by omega⟩
    have l12 := sq.2.1
    rw [lp_X12_laySides_247, sq.1, if_neg (fun q => absurd ((nIle (by omega) (by omega)).mp q) (by omega))]
    by_cases z : u.1 150 17 = 0
    · have hc : L[k]? = some L[k] := List.getElem?_eq_getElem (by omega)
      obtain ⟨rr, r1, r2, r3, r4⟩ := ev_three (m := m) (by omega) sq ha hb' hc (hb _ (List.mem_of_getElem? ha)) (hb _ (List.mem_of_getElem? hb')) (hb _ (List.mem_of_getElem? hc))
      rw [if_pos z, r1]
      simp only [Option.bind_some, ck_t r2, xm_let]
      have fe := e17_.w u rr
      have fv : (w_I u 150 17 rr).1 150 17 = rr := rI_eq
      obtain ⟨x1, u1, a1, a2, a3, a4, a5⟩ := e4_lp (m := m) hb ha hb' hc r (k + 1) m (w_I u 150 17 rr) (by omega) (by omega) (sq_e sq fe) ⟨by rw [fv]; exact r2, by rw [fv]; exact r3⟩
      obtain ⟨x, u', p1, p2, p3, p4, p5, p6⟩ := e3_lp hm hb ha hb' r (k + 1) f' u1 (by omega) (by omega) (sq_e (sq_e sq fe) a2) a3
      refine ⟨x, u', ?_, (fe.tr a2).tr p2, p3, fun w => absurd (z.symm.trans w) (by decide), fun k' c h1 hc' ct => ?_, fun k' l' c d h1 h2 hc' hd ct => ?_⟩
      · rw [← nI_succ, a1]
        simp only [Option.bind_some]
        exact p1
      · by_cases e : k' = k
        · subst e
          rw [hc] at hc'
          cases hc'
          exact p4 (a4 (by rw [fv]; exact r4 ct))
        · exact p5 k' c (by omega) hc' ct
      · by_cases e : k' = k
        · subst e
          rw [hc] at hc'
          cases hc'
          exact p4 (a5 l' d (by omega) hd ct)
        · exact p6 k' l' c d (by omega) h2 hc' hd ct
    · rw [if_neg z]
      have o := fl.1.resolve_left z
      exact ⟨nI k, u, rfl, e17_.rf u, fl, fun h => h, fun _ _ _ _ _ => o, fun _ _ _ _ _ _ _ _ _ => o⟩
theorem e2_lp {m : Nat} (hm : 20 ≤ m) {L : List V4_} (hb : ∀ p, p ∈ L → bl_ p) {i : Nat} {a : V4_} (ha : L[i]? = some a) : ∀ (r j f : Nat) (u : xm_Y), j + r = L.length → r + 1 ≤ f → sq_ u L → fl17_ L u → ∃ (x : Int32) (u' : xm_Y), lp_X12_laySides_217 m (nI i) f (nI j) u = some (x, u') ∧ e17_ u u' ∧ fl17_ L u' ∧ (u.1 150 17 = 1 → u'.1 150 17 = 1) ∧ (∀ (j' : Nat) (b : V4_), j ≤ j' → L[j']? = some b → ct2_ a b → u'.1 150 17 = 1) ∧ (∀ (j' k' : Nat) (b c : V4_), j ≤ j' → j' < k' → L[j']? = some b → L[k']? = some c → ct3_ a b c → u'.1 150 17 = 1) ∧ (∀ (j' k' l' : Nat) (b c d : V4_), j ≤ j' → j' < k' → k' < l' → L[j']? = some b → L[k']? = some c → L[l']? = some d → ct4_ a b c d → u'.1 150 17 = 1)
  | 0, j, f, u, hj, hf, sq, fl => by
    obtain ⟨f', rfl⟩ : ∃ f', f = f' + 1 := ⟨f - 1, by omega⟩
    have l12 := sq.2.1
    refine ⟨nI j, u, by rw [lp_X12_laySides_217, sq.1, if_pos ((nIle (by omega) (by omega)).mpr (by omega))], e17_.rf u, fl, fun h => h, fun j' b h1 hb => ?_, fun j' k' b c h1 _ hb => ?_, fun j' k' l' b c d h1 _ _ hb => ?_⟩
    all_goals (rw [List.getElem?_eq_none (by omega)] at hb; cases hb)
  | r + 1, j, f, u, hj, hf, sq, fl => by
    obtain ⟨f', rfl⟩ : ∃ f', f = f' + 1 := ⟨f - 1, by omega⟩
    have l12 := sq.2.1
    rw [lp_X12_laySides_217, sq.1, if_neg (fun q => absurd ((nIle (by omega) (by omega)).mp q) (by omega))]
    by_cases z : u.1 150 17 = 0
    · have hb' : L[j]? = some L[j] := List.getElem?_eq_getElem (by omega)
      obtain ⟨rr, r1, r2, r3, r4⟩ := ev_two (m := m) (by omega) sq ha hb' (hb _ (List.mem_of_getElem? ha)) (hb _ (List.mem_of_getElem? hb'))
      rw [if_pos z, r1]
      simp only [Option.bind_some, ck_t r2, xm_let]
      have fe := e17_.w u rr
      have fv : (w_I u 150 17 rr).1 150 17 = rr := rI_eq
      obtain ⟨x1, u1, a1, a2, a3, a4, a5, a6⟩ := e3_lp (m := m) hm hb ha hb' r (j + 1) m (w_I u 150 17 rr) (by omega) (by omega) (sq_e sq fe) ⟨by rw [fv]; exact r2, by rw [fv]; exact r3⟩
      obtain ⟨x, u', p1, p2, p3, p4, p5, p6, p7⟩ := e2_lp hm hb ha r (j + 1) f' u1 (by omega) (by omega) (sq_e (sq_e sq fe) a2) a3
      refine ⟨x, u', ?_, (fe.tr a2).tr p2, p3, fun w => absurd (z.symm.trans w) (by decide), fun j' b h1 hb2 ct => ?_, fun j' k' b c h1 h2 hb2 hc ct => ?_, fun j' k' l' b c d h1 h2 h3 hb2 hc hd ct => ?_⟩
      · rw [← nI_succ, a1]
        simp only [Option.bind_some]
        exact p1
      · by_cases e : j' = j
        · subst e
          rw [hb'] at hb2
          cases hb2
          exact p4 (a4 (by rw [fv]; exact r4 ct))
        · exact p5 j' b (by omega) hb2 ct
      · by_cases e : j' = j
        · subst e
          rw [hb'] at hb2
          cases hb2
          exact p4 (a5 k' c (by omega) hc ct)
        · exact p6 j' k' b c (by omega) h2 hb2 hc ct
      · by_cases e : j' = j
        · subst e
          rw [hb'] at hb2
          cases hb2
          exact p4 (a6 k' l' c d (by omega) h3 hc hd ct)
        · exact p7 j' k' l' b c d (by omega) h2 h3 hb2 hc hd ct
    · rw [if_neg z]
      have o := fl.1.resolve_left z
      exact ⟨nI j, u, rfl, e17_.rf u, fl, fun h => h, fun _ _ _ _ _ => o, fun _ _ _ _ _ _ _ _ _ => o, fun _ _ _ _ _ _ _ _ _ _ _ _ _ => o⟩
theorem e1_lp {m : Nat} (hm : 20 ≤ m) {L : List V4_} (hb : ∀ p, p ∈ L → bl_ p) : ∀ (r i f : Nat) (u : xm_Y), i + r = L.length → r + 1 ≤ f → sq_ u L → fl17_ L u → ∃ (x : Int32) (u' : xm_Y), lp_X12_laySides_166 m f (nI i) u = some (x, u') ∧ e17_ u u' ∧ fl17_ L u' ∧ (u.1 150 17 = 1 → u'.1 150 17 = 1) ∧ (∀ (i' : Nat) (a : V4_), i ≤ i' → L[i']? = some a → z3_ a → a.2.2.2 < 0 → u'.1 150 17 = 1) ∧ (∀ (i' j' : Nat) (a b : V4_), i ≤ i' → i' < j' → L[i']? = some a → L[j']? = some b → ct2_ a b → u'.1 150 17 = 1) ∧ (∀ (i' j' k' : Nat) (a b c : V4_), i ≤ i' → i' < j' → j' < k' → L[i']? = some a → L[j']? = some b → L[k']? = some c → ct3_ a b c → u'.1 150 17 = 1) ∧ (∀ (i' j' k' l' : Nat) (a b c d : V4_), i ≤ i' → i' < j' → j' < k' → k' < l' → L[i']? = some a → L[j']? = some b → L[k']? = some c → L[l']? = some d → ct4_ a b c d → u'.1 150 17 = 1)
  | 0, i, f, u, hi, hf, sq, fl => by
    obtain ⟨f', rfl⟩ : ∃ f', f = f' + 1 := ⟨f - 1, by omega⟩
    have l12 := sq.2.1
    refine ⟨nI i, u, by rw [lp_X12_laySides_166, sq.1, if_pos ((nIle (by omega) (by omega)).mpr (by omega))], e17_.rf u, fl, fun h => h, fun i' a h1 ha => ?_, fun i' j' a b h1 _ ha => ?_, fun i' j' k' a b c h1 _ _ ha => ?_, fun i' j' k' l' a b c d h1 _ _ _ ha => ?_⟩
    all_goals (rw [List.getElem?_eq_none (by omega)] at ha; cases ha)
  | r + 1, i, f, u, hi, hf, sq, fl => by
    obtain ⟨f', rfl⟩ : ∃ f', f = f' + 1 := ⟨f - 1, by omega⟩
    have l12 := sq.2.1
    rw [lp_X12_laySides_166, sq.1, if_neg (fun q => absurd ((nIle (by omega) (by omega)).mp q) (by omega))]
    by_cases z : u.1 150 17 = 0
    · have ha : L[i]? = some L[i] := List.getElem?_eq_getElem (by omega)
      have la := hb _ (List.mem_of_getElem? ha)
      obtain ⟨rz, z1, z2, z3⟩ := ev_isZero (m := m) sq ha la
      obtain ⟨-, -, -, s4⟩ := sq.2.2 i _ ha
      have flag : ∃ rr : Int32, (if rz = 0 then some (0 : Int32) else xm_chk (xm_in ((4 : Int32) * nI i + 3) 48) (if u.2 159 (Int32.toNatClampNeg ((4 : Int32) * nI i + 3)) ≤ 0 then some (0 : Int32) else some 1)) = some rr ∧ (rr = 0 ∨ rr = 1) ∧ (rr = 1 → Emp_ L) ∧ (z3_ L[i] → (L[i]).2.2.2 < 0 → rr = 1) := by
        by_cases q : z3_ L[i]
        · have e3 : (4 : Int32) * nI i + 3 = nI (4 * i + 3) := by rw [show (4 : Int32) = nI 4 from rfl, nI_mu]; exact nI_ad _ 3
          rw [if_neg (fun w => z3.mp w q), e3, ck_t (nI_xi (by omega) (by omega)), nI_cl (by omega), s4]
          have nb : nb_ 1000000000000000000 (-(L[i]).2.2.2) := nb_w (nb_n la.2.2.2) (by decide)
          by_cases p : (L[i]).2.2.2 < 0
          · rw [if_neg (show ¬ Int64.ofInt (-(L[i]).2.2.2) ≤ 0 from fun w => absurd ((i64le (b := 0) nb (by unfold nb_; omega)).mp w) (by omega))]
            refine ⟨1, rfl, Or.inr rfl, fun _ => ?_, fun _ _ => rfl⟩
            refine empty2 (List.mem_of_getElem? ha) (List.mem_of_getElem? ha) (α := 1) (β := 0) (by omega) (by omega) ?_ ?_ ?_ (by omega)
            · rw [q.1]; omega
            · rw [q.2.1]; omega
            · rw [q.2.2]; omega
          · rw [if_pos (show Int64.ofInt (-(L[i]).2.2.2) ≤ 0 from (i64le (b := 0) nb (by unfold nb_; omega)).mpr (by omega))]
            exact ⟨0, rfl, Or.inl rfl, fun w => absurd w (by decide), fun _ w => absurd w p⟩
        · rw [if_pos (z3.mpr q)]
          exact ⟨0, rfl, Or.inl rfl, fun w => absurd w (by decide), fun w => absurd w q⟩
      obtain ⟨rr, r1, r2, r3, r4⟩ := flag
      rw [if_pos z, z1]
      simp only [Option.bind_some]
      rw [r1]
      simp only [Option.bind_some, ck_t r2, xm_let]
      have fe := e17_.w u rr
      have fv : (w_I u 150 17 rr).1 150 17 = rr := rI_eq
      obtain ⟨x1, u1, a1, a2, a3, a4, a5, a6, a7⟩ := e2_lp (m := m) hm hb ha r (i + 1) m (w_I u 150 17 rr) (by omega) (by omega) (sq_e sq fe) ⟨by rw [fv]; exact r2, by rw [fv]; exact r3⟩
      obtain ⟨x, u', p1, p2, p3, p4, p5, p6, p7, p8⟩ := e1_lp hm hb r (i + 1) f' u1 (by omega) (by omega) (sq_e (sq_e sq fe) a2) a3
      refine ⟨x, u', ?_, (fe.tr a2).tr p2, p3, fun w => absurd (z.symm.trans w) (by decide), fun i' a h1 ha2 q1 q2 => ?_, fun i' j' a b h1 h2 ha2 hb2 ct => ?_, fun i' j' k' a b c h1 h2 h3 ha2 hb2 hc ct => ?_, fun i' j' k' l' a b c d h1 h2 h3 h4 ha2 hb2 hc hd ct => ?_⟩
      · rw [← nI_succ, a1]
        simp only [Option.bind_some]
        exact p1
      · by_cases e : i' = i
        · subst e
          rw [ha] at ha2
          cases ha2
          exact p4 (a4 (by rw [fv]; exact r4 q1 q2))
        · exact p5 i' a (by omega) ha2 q1 q2
      · by_cases e : i' = i
        · subst e
          rw [ha] at ha2
          cases ha2
          exact p4 (a5 j' b (by omega) hb2 ct)
        · exact p6 i' j' a b (by omega) h2 ha2 hb2 ct
      · by_cases e : i' = i
        · subst e
          rw [ha] at ha2
          cases ha2
          exact p4 (a6 j' k' b c (by omega) h3 hb2 hc ct)
        · exact p7 i' j' k' a b c (by omega) h2 h3 ha2 hb2 hc ct
      · by_cases e : i' = i
        · subst e
          rw [ha] at ha2
          cases ha2
          exact p4 (a7 j' k' l' b c d (by omega) h3 h4 hb2 hc hd ct)
        · exact p8 i' j' k' l' a b c d (by omega) h2 h3 h4 ha2 hb2 hc hd ct
    · rw [if_neg z]
      have o := fl.1.resolve_left z
      exact ⟨nI i, u, rfl, e17_.rf u, fl, fun h => h, fun _ _ _ _ _ _ => o, fun _ _ _ _ _ _ _ _ _ => o, fun _ _ _ _ _ _ _ _ _ _ _ _ _ => o, fun _ _ _ _ _ _ _ _ _ _ _ _ _ _ _ _ _ => o⟩
/-- the sides of a body -/
def SS_ (d : xm_Y) (b G n : Nat) (E : E_) : List V4_ := gpsd_ d b G ++ bpl_ E n
def db_ (d : xm_Y) (b G : Nat) : Prop := d.1 151 b = nI G ∧ G ≤ 6 ∧ ∀ g, g < G → rl_ (gpd_ d b g)
theorem gpsd_mem {c : xm_Y} {b : Nat} {p : V4_} : ∀ {G : Nat}, p ∈ gpsd_ c b G → ∃ g, g < G ∧ p = gpd_ c b g
  | 0, h => by simp [gpsd_] at h
  | G + 1, h => by
    unfold gpsd_ at h
    rw [List.mem_append, List.mem_singleton] at h
    rcases h with h | h
    · obtain ⟨g, g1, g2⟩ := gpsd_mem h
      exact ⟨g, by omega, g2⟩
    · exact ⟨G, by omega, h⟩
theorem SS_b {d : xm_Y} {b G n : Nat} {E : E_} (h : db_ d b G) (hn : n ≤ 3) (hb : ∀ k, k < 2 * n → bd_ 1000000000 (E k)) : ∀ p, p ∈ SS_ d b G n E → bl_ p := by
  intro p hp
  unfold SS_ at hp
  rw [List.mem_append] at hp
  rcases hp with hp | hp
  · obtain ⟨g, g1, rfl⟩ := gpsd_mem hp
    obtain ⟨x1, x2, x3, x4⟩ := h.2.2 g g1
    exact ⟨x1, x2, x3, nb_w x4 (by decide)⟩
  · obtain ⟨i, v, i1, ⟨e, rfl⟩ | ⟨e, rfl⟩⟩ := bpl_mem hp
    · have := hb (2 * i) (by omega) v e
      exact un_b (Or.inl rfl) (by unfold nb_; omega)
    · have := hb (2 * i + 1) (by omega) v e
      exact un_b (Or.inr rfl) (by unfold nb_; omega)
theorem ev_lays {m b G n : Nat} (hm : 50 ≤ m) {d : xm_Y} {E : E_} (hb5 : b < 5) (hn : d.1 150 0 = nI n) (hn3 : n ≤ 3) (db : db_ d b G) (hE : bz_ d n E) (hbd : ∀ k, k < 2 * n → bd_ 1000000000 (E k)) : ∃ u', fn_X12_laySides m (nI b) d = some ((), u') ∧ sf_ d u' ∧ sq_ u' (SS_ d b G n E) ∧ ((u'.1 150 17 = 0 ∧ ¬ Emp_ (SS_ d b G n E)) ∨ (u'.1 150 17 = 1 ∧ Emp_ (SS_ d b G n E))) := by
  have s0 : sf_ d (w_I d 150 11 0) := ⟨fun q hq => rI_nc hq, fun e h1 _ => rI_ne (by omega), fun _ _ => rfl⟩
  obtain ⟨l1, u1, a1, a2, a3⟩ := lay1_lp (m := m) hb5 db.1 db.2.1 (fun g hg => (db.2.2 g hg).2.2.2) G 0 m (w_I d 150 11 0) (by omega) (by have := db.2.1; omega) s0 ⟨rI_eq, by simp [gpsd_], fun k p hp => by simp [gpsd_] at hp⟩
  obtain ⟨l2, u2, b1, b2, b3⟩ := lay2_lp (m := m) (A := gpsd_ d b G) (by rw [gpsd_l]; exact db.2.1) hn hn3 hE (2 * n) 0 m u1 (by omega) (by omega) a2 (by show sq_ u1 (gpsd_ d b G ++ []); rw [List.append_nil]; exact a3)
  rw [eps_bpl] at b3
  have e0 := e17_.w u2 0
  have sb := SS_b (E := E) (n := n) db hn3 hbd
  have l12 := b3.2.1
  obtain ⟨l3, u3, c1, c2, c3, c4, c5, c6, c7, c8⟩ := e1_lp (m := m) (L := SS_ d b G n E) (by omega) sb (SS_ d b G n E).length 0 m (w_I u2 150 17 0) (by omega) (by unfold SS_; omega) (sq_e b3 e0) ⟨Or.inl rI_eq, fun w => absurd (rI_eq.symm.trans w) (by decide)⟩
  have sfe : ∀ {x y : xm_Y}, e17_ x y → sf_ x y := fun {x y} h => ⟨h.1, fun e _ h2 => h.2.1 e h2, fun q _ => by rw [h.2.2]⟩
  refine ⟨u3, ?_, b2.tr ((sfe e0).tr (sfe c2)), sq_e (sq_e b3 e0) c2, ?_⟩
  · rw [fn_X12_laySides]
    simp only [xm_let]
    rw [show lp_X12_laySides_7 m (nI b) m (0 : Int32) (w_I d 150 11 0) = _ from a1]
    simp only [Option.bind_some]
    rw [show lp_X12_laySides_73 m m (0 : Int32) u1 = _ from b1]
    simp only [Option.bind_some]
    rw [show lp_X12_laySides_166 m m (0 : Int32) (w_I u2 150 17 0) = _ from c1]
    rfl
  · rcases c3.1 with z | z
    · refine Or.inl ⟨z, fun em => ?_⟩
      have gs : ∀ i, i < (SS_ d b G n E).length → (SS_ d b G n E)[i]? = some (gf_ (SS_ d b G n E) i) := fun i hi => by
        have : (SS_ d b G n E)[i]? = some (SS_ d b G n E)[i] := List.getElem?_eq_getElem hi
        rw [this, gf_s this]
      have no : u3.1 150 17 = 1 → False := fun w => absurd (z.symm.trans w) (by decide)
      rcases nonein_ (n := (SS_ d b G n E).length) (g := gf_ (SS_ d b G n E)) (fun q hq => em q (fun g hg => by
        obtain ⟨i, hi⟩ := List.getElem?_of_mem hg
        have := hq i (lt_of hi)
        rw [gf_s hi] at this; exact this)) with ⟨i, i1, i2, i3, i4, i5⟩ | ⟨i, j, α, β, h1, h2, h3, h4, h5, h6, h7, h8, h9⟩ | ⟨i, j, k, α, β, γ, h1, h2, h3, h4, h5, h6, h7, h8, h9, h10, h11⟩ | ⟨i, j, k, l, α, β, γ, δ, h1, h2, h3, h4, h5, h6, h7, h8, h9, h10, h11, h12, h13⟩
      · exact no (c5 i _ (by omega) (gs i i1) ⟨i2, i3, i4⟩ i5)
      · exact no (c6 i j _ _ (by omega) h1 (gs i (by omega)) (gs j h2) ⟨α, β, h3, h4, h5, h6, h7, h8, h9⟩)
      · exact no (c7 i j k _ _ _ (by omega) h1 h2 (gs i (by omega)) (gs j (by omega)) (gs k h3) ⟨α, β, γ, h4, h5, h6, h7, h8, h9, h10, h11⟩)
      · exact no (c8 i j k l _ _ _ _ (by omega) h1 h2 h3 (gs i (by omega)) (gs j (by omega)) (gs k (by omega)) (gs l h4) ⟨α, β, γ, δ, h5, h6, h7, h8, h9, h10, h11, h12, h13⟩)
    · exact Or.inr ⟨z, c3.2 z⟩
