/-! MADE, in pure words -/
def kp_ (L : List It_) (x : It_) : Option (List It_) := if x ∈ L then some L else if L.length < 1000 then some (L ++ [x]) else none
def rs_ : List It_ → List It_ → List It_
  | _, [] => []
  | A, x :: xs => if x ∈ A then rs_ A xs else x :: rs_ (A ++ [x]) xs
def rw2_ (a : It_) : List It_ → List It_ → Option (List It_)
  | [], L => some L
  | y :: ys, L => if a.2.1 = y.1 then (match kp_ L (pr_ a y) with | none => none | some L' => rw2_ a ys L') else rw2_ a ys L
def ot_ (S : List It_) : Nat → Nat → List It_ → Option (Option (List It_))
  | 0, _, _ => none
  | f + 1, k, L => match L[k]? with
    | none => some (some L)
    | some a => match rw2_ a S L with
      | none => some none
      | some L' => ot_ S f (k + 1) L'
theorem kp_sub {L L' : List It_} {x : It_} (h : kp_ L x = some L') : (∀ y, y ∈ L → y ∈ L') ∧ x ∈ L' ∧ (∀ y, y ∈ L' → y ∈ L ∨ y = x) ∧ (L.length ≤ 1000 → L'.length ≤ 1000) ∧ (∀ (j : Nat) (y : It_), L[j]? = some y → L'[j]? = some y) := by
  unfold kp_ at h
  by_cases q : x ∈ L
  · rw [if_pos q] at h
    cases h
    exact ⟨fun y hy => hy, q, fun y hy => Or.inl hy, fun z => z, fun j y hy => hy⟩
  · rw [if_neg q] at h
    by_cases z : L.length < 1000
    · rw [if_pos z] at h
      cases h
      refine ⟨fun y hy => by simp [hy], by simp, fun y hy => by simpa using hy, fun _ => by simp; omega, fun j y hy => ?_⟩
      have hj : j < L.length := by
        rw [List.getElem?_eq_some_iff] at hy
        exact hy.1
      rw [List.getElem?_append_left hj]
      exact hy
    · rw [if_neg z] at h; cases h
theorem rw2_sub {a : It_} : ∀ {S L L' : List It_}, rw2_ a S L = some L' → (∀ y, y ∈ L → y ∈ L') ∧ (L.length ≤ 1000 → L'.length ≤ 1000) ∧ (∀ (j : Nat) (y : It_), L[j]? = some y → L'[j]? = some y)
  | [], L, L', h => by
    cases h
    exact ⟨fun y hy => hy, fun z => z, fun j y hy => hy⟩
  | y :: ys, L, L', h => by
    unfold rw2_ at h
    by_cases q : a.2.1 = y.1
    · rw [if_pos q] at h
      cases e : kp_ L (pr_ a y) with
      | none => rw [e] at h; cases h
      | some L1 =>
        rw [e] at h
        obtain ⟨a1, a2, a3, a4, a5⟩ := kp_sub e
        obtain ⟨b1, b2, b3⟩ := rw2_sub h
        exact ⟨fun z hz => b1 z (a1 z hz), fun z => b2 (a4 z), fun j z hz => b3 j z (a5 j z hz)⟩
    · rw [if_neg q] at h
      exact rw2_sub h
theorem rw2_rs {a : It_} : ∀ (xs A L : List It_), (∀ y, y ∈ A → a.2.1 = y.1 → pr_ a y ∈ L) → rw2_ a xs L = rw2_ a (rs_ A xs) L
  | [], A, L, h => rfl
  | x :: xs, A, L, h => by
    have e : rs_ A (x :: xs) = if x ∈ A then rs_ A xs else x :: rs_ (A ++ [x]) xs := rfl
    rw [e]
    by_cases q : x ∈ A
    · rw [if_pos q, ← rw2_rs xs A L h]
      show (if a.2.1 = x.1 then (match kp_ L (pr_ a x) with | none => none | some L' => rw2_ a xs L') else rw2_ a xs L) = _
      by_cases z : a.2.1 = x.1
      · rw [if_pos z]
        have : kp_ L (pr_ a x) = some L := by unfold kp_; rw [if_pos (h x q z)]
        rw [this]
      · rw [if_neg z]
    · rw [if_neg q]
      show (if a.2.1 = x.1 then (match kp_ L (pr_ a x) with | none => none | some L' => rw2_ a xs L') else rw2_ a xs L) = (if a.2.1 = x.1 then (match kp_ L (pr_ a x) with | none => none | some L' => rw2_ a (rs_ (A ++ [x]) xs) L') else rw2_ a (rs_ (A ++ [x]) xs) L)
      by_cases z : a.2.1 = x.1
      · rw [if_pos z, if_pos z]
        cases k : kp_ L (pr_ a x) with
        | none => rfl
        | some L1 =>
          obtain ⟨a1, a2, a3, a4, a5⟩ := kp_sub k
          show rw2_ a xs L1 = rw2_ a (rs_ (A ++ [x]) xs) L1
          refine rw2_rs xs (A ++ [x]) L1 (fun y hy hz => ?_)
          rw [List.mem_append, List.mem_singleton] at hy
          rcases hy with hy | rfl
          · exact a1 _ (h y hy hz)
          · exact a2
      · rw [if_neg z, if_neg z]
        refine rw2_rs xs (A ++ [x]) L (fun y hy hz => ?_)
        rw [List.mem_append, List.mem_singleton] at hy
        rcases hy with hy | rfl
        · exact h y hy hz
        · exact absurd hz z
theorem ot_rs (C : List It_) : ∀ (f k : Nat) (L : List It_), ot_ C f k L = ot_ (rs_ [] C) f k L
  | 0, k, L => rfl
  | f + 1, k, L => by
    show (match L[k]? with | none => some (some L) | some a => match rw2_ a C L with | none => some none | some L' => ot_ C f (k + 1) L') = (match L[k]? with | none => some (some L) | some a => match rw2_ a (rs_ [] C) L with | none => some none | some L' => ot_ (rs_ [] C) f (k + 1) L')
    cases L[k]? with
    | none => rfl
    | some a =>
      show (match rw2_ a C L with | none => some none | some L' => ot_ C f (k + 1) L') = (match rw2_ a (rs_ [] C) L with | none => some none | some L' => ot_ (rs_ [] C) f (k + 1) L')
      rw [rw2_rs C [] L (fun y hy => absurd hy (by simp))]
      cases rw2_ a (rs_ [] C) L with
      | none => rfl
      | some L' => exact ot_rs C f (k + 1) L'
theorem ot_end {S : List It_} : ∀ (f k : Nat) (L : List It_), k + f = 1001 → k ≤ 1000 → L.length ≤ 1000 → ∃ o, ot_ S f k L = some o
  | 0, k, L, h1, h2, h3 => by omega
  | f + 1, k, L, h1, h2, h3 => by
    unfold ot_
    cases e : L[k]? with
    | none => exact ⟨_, rfl⟩
    | some a =>
      have hk : k < L.length := by
        rw [List.getElem?_eq_some_iff] at e
        exact e.1
      cases e2 : rw2_ a S L with
      | none => exact ⟨none, by show (match rw2_ a S L with | none => some none | some L' => ot_ S f (k + 1) L') = _; rw [e2]⟩
      | some L' =>
        show ∃ o, (match rw2_ a S L with | none => some none | some L' => ot_ S f (k + 1) L') = _
        rw [e2]
        exact ot_end f (k + 1) L' (by omega) (by omega) ((rw2_sub e2).2.1 h3)
/-! the class's table -/
def hs_ (p : Int64) : Int32 := Int64.toInt32 ((Int64.toUInt64 (p * (-7046029254386353131 : Int64)) >>> (Int64.toUInt64 (Int32.toInt64 (53 : Int32)) &&& Int64.toUInt64 63)).toInt64)
theorem hs_b (p : Int64) : ∃ h : Nat, h < 2048 ∧ hs_ p = nI h := by
  have bits : ∀ j, 11 ≤ j → (hs_ p).toBitVec.getLsbD j = false := by
    intro j hj
    by_cases h : j < 32
    · unfold hs_
      rw [ush_ _ 53 53 (by decide) (by omega) j h]
      exact BitVec.getLsbD_of_ge _ _ (by omega)
    · exact BitVec.getLsbD_of_ge _ _ (by omega)
  have lt : (hs_ p).toBitVec.toNat < 2 ^ 11 := by
    apply Nat.lt_pow_two_of_testBit
    intro j hj
    have := bits j hj
    rw [BitVec.getLsbD] at this
    exact this
  refine ⟨(hs_ p).toBitVec.toNat, by omega, Int32.toInt_inj.mp ?_⟩
  rw [nI_toInt (by omega)]
  exact BitVec.toInt_eq_toNat_of_lt (by omega)
def hn_ (p : Int64) : Nat := (hs_ p).toNatClampNeg
theorem hn_b (p : Int64) : hn_ p < 2048 ∧ hs_ p = nI (hn_ p) := by
  obtain ⟨h, h1, h2⟩ := hs_b p
  unfold hn_
  rw [h2, nI_cl (by omega)]
  exact ⟨h1, rfl⟩
theorem kn_next {a : Nat} (h : a < 2048) : (nI a + 1) &&& (2047 : Int32) = nI ((a + 1) % 2048) := by
  rw [← nI_succ]
  exact an32 (k := 11) (by omega) (by decide)
def kc2_ (u : xm_Y) (L : List It_) : Prop := u.1 146 3 = nI L.length ∧ L.length ≤ 1000 ∧ (∀ x, x ∈ L → iok_ x) ∧ (∀ (j : Nat) (x : It_), L[j]? = some x → u.2 148 j = pi_ x) ∧ (∃ tb : Nat → Nat, (∀ h, h < 2048 → u.1 149 h = nI (tb h)) ∧ ht_ 2048 hn_ (fun j => u.2 148 j) tb L.length)
def ef_ (c u : xm_Y) : Prop := (∀ q, q ≠ 146 → q ≠ 149 → u.1 q = c.1 q) ∧ (∀ e, e ≠ 3 → u.1 146 e = c.1 146 e) ∧ (∀ q, q ≠ 148 → u.2 q = c.2 q)
theorem ef_.rf (c : xm_Y) : ef_ c c := ⟨fun _ _ _ => rfl, fun _ _ => rfl, fun _ _ => rfl⟩
theorem ef_.tr {a b c : xm_Y} (h : ef_ a b) (g : ef_ b c) : ef_ a c := ⟨fun q h1 h2 => (g.1 q h1 h2).trans (h.1 q h1 h2), fun e he => (g.2.1 e he).trans (h.2.1 e he), fun q hq => (g.2.2 q hq).trans (h.2.2 q hq)⟩
theorem kpc_lp (m : Nat) (p : Int64) (u : xm_Y) (k : Nat) (hk : k ≤ 1000) (tb : Nat → Nat) (hb : ∀ h, h < 2048 → tb h ≤ k) (ht : ∀ h, h < 2048 → u.1 149 h = nI (tb h)) (h0 s : Nat) (hs : s ≤ k) : ∀ (r t f : Nat), t + r = s → r + 1 ≤ f → (∀ s', t ≤ s' → s' < s → tb ((h0 + s') % 2048) ≠ 0 ∧ u.2 148 (tb ((h0 + s') % 2048) - 1) ≠ p) → (tb ((h0 + s) % 2048) = 0 → lp_X3_keep_13 m p u f (nI ((h0 + t) % 2048)) (nI t) = some (.inr (nI ((h0 + s) % 2048), nI s))) ∧ (tb ((h0 + s) % 2048) ≠ 0 → u.2 148 (tb ((h0 + s) % 2048) - 1) = p → lp_X3_keep_13 m p u f (nI ((h0 + t) % 2048)) (nI t) = some (.inl (1, u))) := by
  have nx : ∀ t, (nI ((h0 + t) % 2048) + 1) &&& (2047 : Int32) = nI ((h0 + (t + 1)) % 2048) := by
    intro t
    rw [kn_next (Nat.mod_lt _ (by decide))]
    congr 1
    omega
  intro r
  induction r with
  | zero =>
    intro t f ht' hf hp
    obtain ⟨f', rfl⟩ : ∃ f', f = f' + 1 := ⟨f - 1, by omega⟩
    obtain rfl : t = s := by omega
    have hl : (h0 + t) % 2048 < 2048 := Nat.mod_lt _ (by decide)
    have hbt := hb _ hl
    rw [lp_X3_keep_13, if_neg (show ¬ (2048 : Int32) ≤ nI t from fun q => absurd ((nIle (a := 2048) (by omega) (by omega)).mp q) (by omega)), ck_t (nI_xi hl (by decide)), nI_cl (by omega), ht _ hl]
    constructor
    · intro z
      rw [z, if_pos (by decide)]
    · intro z e
      obtain ⟨j, hj⟩ : ∃ j, tb ((h0 + t) % 2048) = j + 1 := ⟨tb ((h0 + t) % 2048) - 1, by omega⟩
      rw [hj] at e ⊢
      rw [if_neg (show ¬ nI (j + 1) = 0 from fun q => absurd (nIinj (b := 0) (by omega) (by omega) q) (by omega)), ck_t (nI_xi hl (by decide)), nI_pd, ck_t (nI_xi (by omega) (by decide)), nI_cl (by omega), if_pos (show u.2 148 j = p from e)]
  | succ r ih =>
    intro t f ht' hf hp
    obtain ⟨f', rfl⟩ : ∃ f', f = f' + 1 := ⟨f - 1, by omega⟩
    have hl : (h0 + t) % 2048 < 2048 := Nat.mod_lt _ (by decide)
    have hbt := hb _ hl
    obtain ⟨z, e⟩ := hp t (by omega) (by omega)
    have ih' := ih (t + 1) f' (by omega) (by omega) (fun s' q1 q2 => hp s' (by omega) q2)
    obtain ⟨j, hj⟩ : ∃ j, tb ((h0 + t) % 2048) = j + 1 := ⟨tb ((h0 + t) % 2048) - 1, by omega⟩
    rw [hj] at e
    rw [lp_X3_keep_13, if_neg (show ¬ (2048 : Int32) ≤ nI t from fun q => absurd ((nIle (a := 2048) (by omega) (by omega)).mp q) (by omega)), ck_t (nI_xi hl (by decide)), nI_cl (by omega), ht _ hl, hj, if_neg (show ¬ nI (j + 1) = 0 from fun q => absurd (nIinj (b := 0) (by omega) (by omega) q) (by omega)), ck_t (nI_xi hl (by decide)), nI_pd, ck_t (nI_xi (by omega) (by decide)), nI_cl (by omega), if_neg (show ¬ u.2 148 j = p from e)]
    simp only [xm_let]
    rw [nx, ← nI_succ]
    exact ih'
theorem ev_keepc {m : Nat} (hm : 2100 ≤ m) {u : xm_Y} {L : List It_} {x : It_} (h : kc2_ u L) (hx : iok_ x) : ∃ u', fn_X3_keep m (pi_ x) u = some (if (kp_ L x).isSome = true then 1 else 0, u') ∧ ef_ u u' ∧ (∀ L', kp_ L x = some L' → kc2_ u' L') := by
  obtain ⟨h1, h2, h3, h4, tb, h5, h6⟩ := id h
  obtain ⟨s, s1, s2, s3⟩ := ht_find h6 (by omega) (pi_ x)
  obtain ⟨b1, b2⟩ := hn_b (pi_ x)
  have lp := kpc_lp m (pi_ x) u L.length h2 tb h6.1 h5 (hn_ (pi_ x)) s s1 s 0 m (by omega) (by omega) (fun s' _ q => s2 s' q)
  rw [Nat.add_zero, Nat.mod_eq_of_lt b1] at lp
  rw [fn_X3_keep]
  simp only [xm_let]
  show ∃ u', Option.bind (lp_X3_keep_13 m (pi_ x) u m (hs_ (pi_ x)) (0 : Int32)) _ = _ ∧ _
  rw [b2]
  have mem : x ∈ L ↔ ∃ j, j < L.length ∧ u.2 148 j = pi_ x := by
    constructor
    · intro q
      obtain ⟨j, hj⟩ := List.getElem?_of_mem q
      have jl : j < L.length := by
        rw [List.getElem?_eq_some_iff] at hj
        exact hj.1
      exact ⟨j, jl, h4 j x hj⟩
    · rintro ⟨j, j1, j2⟩
      have hj : L[j]? = some L[j] := List.getElem?_eq_getElem j1
      have := h4 j _ hj
      rw [j2] at this
      rw [pi_in hx (h3 _ (List.getElem_mem j1)) this]
      exact List.getElem_mem j1
  rcases s3 with ⟨q1, q2⟩ | ⟨q1, q2⟩
  · have nm : ¬ x ∈ L := fun z => by
      obtain ⟨j, j1, j2⟩ := mem.mp z
      exact q2 j j1 j2
    rw [show lp_X3_keep_13 m (pi_ x) u m (nI (hn_ (pi_ x))) (0 : Int32) = _ from lp.1 q1]
    simp only [Option.bind_some, Sum.elim]
    rw [h1]
    have kpe : kp_ L x = if L.length < 1000 then some (L ++ [x]) else none := by unfold kp_; rw [if_neg nm]
    by_cases z : L.length < 1000
    · rw [if_pos (show nI L.length < 1000 from (nIlt (b := 1000) (by omega) (by omega)).mpr z), ck_t (nI_xi z (by omega)), nI_cl (by omega), ck_t (nI_xi (Nat.mod_lt _ (by decide)) (by decide)), nI_cl (by have := Nat.mod_lt (hn_ (pi_ x) + s) (show 0 < 2048 by decide); omega)]
      have e146 : (w_J u 148 L.length (pi_ x)).1 146 3 = nI L.length := h1
      rw [e146, ← nI_succ]
      have e146' : (w_I (w_J u 148 L.length (pi_ x)) 146 3 (nI (L.length + 1))).1 146 3 = nI (L.length + 1) := rI_eq
      rw [e146']
      rw [kpe, if_pos z]
      refine ⟨_, rfl, ⟨fun q z1 z2 => ?_, fun e he => ?_, fun q hq => ?_⟩, fun L' hL' => ?_⟩
      · rw [rI_nc z2, rI_nc z1]; rfl
      · rw [rI_ne (by omega), rI_ne (by omega)]; rfl
      · show (w_J u 148 L.length (pi_ x)).2 q = _
        rw [rJ_nc hq]
      · cases hL'
        have hlen : (L ++ [x]).length = L.length + 1 := by simp
        refine ⟨?_, by omega, fun y hy => ?_, fun j y hy => ?_, fun h => if h = (hn_ (pi_ x) + s) % 2048 then L.length + 1 else tb h, fun hh hlt => ?_, ?_⟩
        · rw [rI_ne (by omega), hlen]; exact e146'
        · rw [List.mem_append, List.mem_singleton] at hy
          rcases hy with hy | rfl
          · exact h3 y hy
          · exact hx
        · show (w_J u 148 L.length (pi_ x)).2 148 j = pi_ y
          by_cases jl : j = L.length
          · subst jl
            rw [rJ_eq]
            have : y = x := by simpa using hy.symm
            rw [this]
          · rw [rJ_ne (by omega)]
            have jlt : j < L.length := by
              rw [List.getElem?_eq_some_iff] at hy
              have := hy.1
              rw [hlen] at this
              omega
            rw [List.getElem?_append_left jlt] at hy
            exact h4 j y hy
        · by_cases e : hh = (hn_ (pi_ x) + s) % 2048
          · subst e
            rw [rI_eq]
            show _ = nI (if (hn_ (pi_ x) + s) % 2048 = (hn_ (pi_ x) + s) % 2048 then L.length + 1 else tb ((hn_ (pi_ x) + s) % 2048))
            rw [if_pos rfl]
          · rw [rI_ne (by omega)]
            show _ = nI (if hh = (hn_ (pi_ x) + s) % 2048 then L.length + 1 else tb hh)
            rw [if_neg e]
            show (w_I (w_J u 148 L.length (pi_ x)) 146 3 (nI (L.length + 1))).1 149 hh = _
            rw [rI_ne (by omega)]
            exact h5 hh hlt
        · rw [hlen]
          refine ht_put h6 (show s < 2048 by omega) (pi_ x) q1 (fun s' hs' => (s2 s' hs').1) (fun j hj => ?_) ?_ (fun hh hlt => rfl)
          · show (w_J u 148 L.length (pi_ x)).2 148 j = _
            rw [rJ_ne (by omega)]
          · show (w_J u 148 L.length (pi_ x)).2 148 L.length = _
            rw [rJ_eq]
    · rw [if_neg (show ¬ nI L.length < 1000 from fun y => z ((nIlt (b := 1000) (by omega) (by omega)).mp y)), kpe, if_neg z]
      exact ⟨u, rfl, ef_.rf u, fun L' hL' => by cases hL'⟩
  · have im : x ∈ L := by
      refine mem.mpr ⟨tb ((hn_ (pi_ x) + s) % 2048) - 1, ?_, q2⟩
      have := h6.1 ((hn_ (pi_ x) + s) % 2048) (Nat.mod_lt _ (by decide))
      omega
    rw [show lp_X3_keep_13 m (pi_ x) u m (nI (hn_ (pi_ x))) (0 : Int32) = _ from lp.2 q1 q2]
    have kpe : kp_ L x = some L := by unfold kp_; rw [if_pos im]
    rw [kpe]
    exact ⟨u, rfl, ef_.rf u, fun L' hL' => by cases hL'; exact h⟩
