theorem gps_c2 {c c' : xm_Y} {b : Nat} (h : ∀ k, 9 + 24 * b ≤ k → k < 21 + 24 * b → c'.1 k = c.1 k) : ∀ G, G ≤ 6 → gps_ c' b G = gps_ c b G
  | 0, _ => rfl
  | G + 1, hG => by
    unfold gps_
    rw [gps_c2 h G (by omega)]
    unfold gp_ wc_ kc_
    rw [h _ (by omega) (by omega), h _ (by omega) (by omega)]
theorem PL_c {c c' : xm_Y} {b : Nat} (h0 : c'.1 (3 + 24 * b) = c.1 (3 + 24 * b)) (h6 : c'.1 (6 + 24 * b) = c.1 (6 + 24 * b)) (hg : ∀ k, 9 + 24 * b ≤ k → k < 21 + 24 * b → c'.1 k = c.1 k) (h7 : c'.2 (7 + 24 * b) = c.2 (7 + 24 * b)) (h128 : c'.2 128 = c.2 128) (h : PL_ c b) : PL_ c' b := by
  obtain ⟨hb, G, E, C, D, h1, h2, h3, h4, h5, h6'⟩ := h
  refine ⟨hb, G, E, C, D, by rw [h0]; exact h1, h2, fun k hk => by rw [h128]; exact h3 k hk, h4, ?_, ?_⟩
  · obtain ⟨p1, p2, p3, p4⟩ := h5
    exact ⟨by rw [h6]; exact p1, by rw [h6]; exact p2, p3, fun k P hP => by rw [h7]; exact p4 k P hP⟩
  · have : BB_ c' b G E = BB_ c b G E := by unfold BB_; rw [gps_c2 hg G h2]
    rw [this]; exact h6'
def shf_ (b : Nat) (c u : xm_Y) : Prop := (∀ q, q ≠ 136 → q ≠ 6 + 24 * b → u.1 q = c.1 q) ∧ (∀ q, q ≠ 137 → q ≠ 138 → q ≠ 7 + 24 * b → u.2 q = c.2 q)
theorem gps_mem {c : xm_Y} {b : Nat} {p : V4_} : ∀ {G : Nat}, p ∈ gps_ c b G → ∃ g, g < G ∧ p = gp_ c b g
  | 0, h => by simp [gps_] at h
  | G + 1, h => by
    unfold gps_ at h
    rw [List.mem_append, List.mem_singleton] at h
    rcases h with h | h
    · obtain ⟨g, g1, g2⟩ := gps_mem h
      exact ⟨g, by omega, g2⟩
    · exact ⟨G, by omega, h⟩
theorem bpl_mem {E : E_} {p : V4_} : ∀ {k : Nat}, p ∈ bpl_ E k → ∃ i v, i < k ∧ ((E (2 * i) = some v ∧ p = un_ i 1 (-v)) ∨ (E (2 * i + 1) = some v ∧ p = un_ i (-1) v))
  | 0, h => by simp [bpl_] at h
  | k + 1, h => by
    unfold bpl_ at h
    rw [List.mem_append, List.mem_append] at h
    rcases h with h | h | h
    · obtain ⟨i, v, i1, i2⟩ := bpl_mem h
      exact ⟨i, v, by omega, i2⟩
    · cases e : E (2 * k) with
      | none => rw [e] at h; simp [lop_] at h
      | some v =>
        rw [e] at h
        simp [lop_] at h
        exact ⟨k, v, by omega, Or.inl ⟨e, h⟩⟩
    · cases e : E (2 * k + 1) with
      | none => rw [e] at h; simp [hip_] at h
      | some v =>
        rw [e] at h
        simp [hip_] at h
        exact ⟨k, v, by omega, Or.inr ⟨e, h⟩⟩
theorem bpl_in {E : E_} {i : Nat} {v : Int} : ∀ {k : Nat}, i < k → (E (2 * i) = some v → un_ i 1 (-v) ∈ bpl_ E k) ∧ (E (2 * i + 1) = some v → un_ i (-1) v ∈ bpl_ E k)
  | 0, h => by omega
  | k + 1, h => by
    unfold bpl_
    by_cases e : i = k
    · subst e
      refine ⟨fun q => ?_, fun q => ?_⟩
      · rw [List.mem_append, List.mem_append, q]
        exact Or.inr (Or.inl (by simp [lop_]))
      · rw [List.mem_append, List.mem_append, q]
        exact Or.inr (Or.inr (by simp [hip_]))
    · obtain ⟨a, b⟩ := bpl_in (E := E) (i := i) (v := v) (k := k) (by omega)
      exact ⟨fun q => List.mem_append.mpr (Or.inl (a q)), fun q => List.mem_append.mpr (Or.inl (b q))⟩
theorem xpl_mem {E : E_} {p : V4_} : ∀ {k : Nat}, p ∈ xpl_ E k → ∃ i, i < k ∧ p = un_ i 1 0
  | 0, h => by simp [xpl_] at h
  | k + 1, h => by
    unfold xpl_ at h
    rw [List.mem_append] at h
    rcases h with h | h
    · obtain ⟨i, i1, i2⟩ := xpl_mem h
      exact ⟨i, by omega, i2⟩
    · cases e : E (2 * k) <;> cases e2 : E (2 * k + 1) <;> rw [e, e2] at h <;> simp [xp_] at h
      exact ⟨k, by omega, h⟩
theorem xpl_in {E : E_} {i : Nat} : ∀ {k : Nat}, i < k → E (2 * i) = none → E (2 * i + 1) = none → un_ i 1 0 ∈ xpl_ E k
  | 0, h, _, _ => by omega
  | k + 1, h, h1, h2 => by
    unfold xpl_
    rw [List.mem_append]
    by_cases e : i = k
    · subst e
      rw [h1, h2]
      exact Or.inr (by simp [xp_])
    · exact Or.inl (xpl_in (k := k) (by omega) h1 h2)
theorem un_b {i : Nat} {s k : Int} (hs : s = 1 ∨ s = -1) (hk : nb_ 1000000000 k) : bl_ (un_ i s k) := by
  refine ⟨?_, ?_, ?_, hk⟩ <;> (unfold un_ nb_; rcases hs with rfl | rfl <;> (simp only; split <;> decide))
/-- a body's guards keep their bounds -/
def cb_ (c : xm_Y) (b G : Nat) : Prop := c.1 (3 + 24 * b) 4 = nI G ∧ G ≤ 6 ∧ ∀ g, g < G → bl_ (gp_ c b g)
theorem okp_B {c : xm_Y} {b G : Nat} {E : E_} (h : cb_ c b G) (hb : ∀ k, k < 6 → bd_ 1000000000 (E k)) : okp_ (BB_ c b G E) (xpl_ E 3) := by
  refine ⟨fun p hp => ?_, ?_, (bx_l E 3).2⟩
  · unfold BB_ at hp
    rw [List.mem_append, List.mem_append] at hp
    rcases hp with (hp | hp) | hp
    · obtain ⟨g, g1, rfl⟩ := gps_mem hp
      exact h.2.2 g g1
    · obtain ⟨i, v, i1, ⟨e, rfl⟩ | ⟨e, rfl⟩⟩ := bpl_mem hp
      · have := hb (2 * i) (by omega) v e
        exact un_b (Or.inl rfl) (by unfold nb_; omega)
      · have := hb (2 * i + 1) (by omega) v e
        exact un_b (Or.inr rfl) (by unfold nb_; omega)
    · obtain ⟨i, i1, rfl⟩ := xpl_mem hp
      exact un_b (Or.inl rfl) (by unfold nb_; decide)
  · have := (bx_l E 3).1
    have := h.2.1
    unfold BB_
    rw [List.length_append, gps_l]
    omega
theorem ax_B (c : xm_Y) (b G : Nat) (E : E_) : ax_ (BB_ c b G E ++ xpl_ E 3) := by
  have one : ∀ i, i < 3 → ∃ s k, (s = 1 ∨ s = -1) ∧ un_ i s k ∈ BB_ c b G E ++ xpl_ E 3 := by
    intro i hi
    cases e : E (2 * i) with
    | some v => exact ⟨1, -v, Or.inl rfl, List.mem_append.mpr (Or.inl (List.mem_append.mpr (Or.inr ((bpl_in hi).1 e))))⟩
    | none =>
      cases e2 : E (2 * i + 1) with
      | some v => exact ⟨-1, v, Or.inr rfl, List.mem_append.mpr (Or.inl (List.mem_append.mpr (Or.inr ((bpl_in hi).2 e2))))⟩
      | none => exact ⟨1, 0, Or.inl rfl, List.mem_append.mpr (Or.inr (xpl_in hi e e2))⟩
  obtain ⟨s0, k0, a0, b0⟩ := one 0 (by omega)
  obtain ⟨s1, k1, a1, b1⟩ := one 1 (by omega)
  obtain ⟨s2, k2, a2, b2⟩ := one 2 (by omega)
  exact ⟨⟨_, b0, a0, rfl, rfl⟩, ⟨_, b1, rfl, a1, rfl⟩, ⟨_, b2, rfl, rfl, a2⟩⟩
theorem ev_shape {m b G : Nat} (hm : 300 ≤ m) (hb5 : b < 5) {c : xm_Y} {E : E_} (cb : cb_ c b G) (hE : bx_ c 128 E) (hbd : ∀ k, k < 6 → bd_ 1000000000 (E k)) : ∃ u', fn_X9_shape m b c = some ((), u') ∧ shf_ b c u' ∧ u'.1 (6 + 24 * b) 3 = 1 ∧ PL_ u' b := by
  obtain ⟨u1, a1, a2, a3, a4⟩ := ev_gather (m := m) (by omega) hb5 cb.1 cb.2.1 hE hbd
  have ok := okp_B cb hbd
  -- the place is emptied
  have fr2 : fr6_ b u1 (w_I (w_I u1 (6 + 24 * b) 1 0) (6 + 24 * b) 2 0) := ⟨fun q hq => (rI_nc hq).trans (rI_nc hq), fun e e1 e2 => (rI_ne (by omega)).trans (rI_ne (by omega)), fun _ _ _ => rfl⟩
  have ps0 : ps_ (w_I (w_I u1 (6 + 24 * b) 1 0) (6 + 24 * b) 2 0) b [] ([] : List V4_).length := ⟨(rI_ne (by omega)).trans rI_eq, rI_eq, by simp, fun k P hP => by simp at hP⟩
  have l12 := a3.2.1
  obtain ⟨l3, u3, C, c1, c2, c3, c4, c5, c6⟩ := c2_lp (m := m) (by omega) hb5 ok (BB_ c b G E ++ xpl_ E 3).length 0 m (w_I (w_I u1 (6 + 24 * b) 1 0) (6 + 24 * b) 2 0) [] (by omega) (by omega) (sh_fr hb5 a3 fr2) (by rw [fr2.1 136 (by omega)]; exact a4) ps0 ⟨by simp, fun Q hQ => by simp at hQ⟩
  have e6 : fn_X6_empty m b u1 = some ((), w_I (w_I u1 (6 + 24 * b) 1 0) (6 + 24 * b) 2 0) := rfl
  have hc3 : fn_X9_findCorners m b (w_I (w_I u1 (6 + 24 * b) 1 0) (6 + 24 * b) 2 0) = some ((), u3) := by
    rw [fn_X9_findCorners, show lp_X9_findCorners_2 m b m (0 : Int32) _ = _ from c1]; rfl
  have sfr : ∀ {v : xm_Y}, fr6_ b u1 v → shf_ b c v := fun {v} h => ⟨fun q h1 h2 => (h.1 q h2).trans (a2.1 q h1), fun q h1 h2 h3 => (h.2.2 q h3 h2).trans (a2.2 q h1 h2)⟩
  have fin : ∀ (v : xm_Y) (D : List V4_), fr6_ b u1 v → ps_ v b (C ++ D) C.length → GD_ (BB_ c b G E) (xpl_ E 3) D → (C ≠ [] → ∀ (i j : Nat) (x y : V4_) (s : Int), i < j → (s = 1 ∨ s = -1) → (BB_ c b G E ++ xpl_ E 3)[i]? = some x → (BB_ c b G E ++ xpl_ E 3)[j]? = some y → cx_ x y ≠ z4_ → ins_ (fo4_ s x y) (BB_ c b G E) = true → sk_ (fo4_ s x y) ∈ D) → (C = [] → D = []) → shf_ b c (w_I v (6 + 24 * b) 3 1) ∧ (w_I v (6 + 24 * b) 3 1).1 (6 + 24 * b) 3 = 1 ∧ PL_ (w_I v (6 + 24 * b) 3 1) b := by
    intro v D fv pv gD hD hCD
    have sv := sfr fv
    have sw : shf_ b c (w_I v (6 + 24 * b) 3 1) := ⟨fun q h1 h2 => (rI_nc h2).trans (sv.1 q h1 h2), fun q h1 h2 h3 => sv.2 q h1 h2 h3⟩
    refine ⟨sw, rI_eq, hb5, G, E, C, D, by rw [sw.1 _ (by omega) (by omega)]; exact cb.1, cb.2.1, fun k hk => by rw [sw.2 128 (by omega) (by omega) (by omega)]; exact hE k hk, hbd, ?_, ?_⟩
    · obtain ⟨p1, p2, p3, p4⟩ := pv
      exact ⟨(rI_ne (by omega)).trans p1, (rI_ne (by omega)).trans p2, p3, p4⟩
    · have eB : BB_ (w_I v (6 + 24 * b) 3 1) b G E = BB_ c b G E := by
        unfold BB_
        rw [gps_c2 (fun k h1 h2 => sw.1 k (by omega) (by omega)) G cb.2.1]
      rw [eB]
      exact PS_ok (ax_B c b G E) c4 gD (fun i j k x y z h1 h2 hx hy hz hd hi => c6 i j k x y z (by omega) h1 h2 hx hy hz hd hi) hD hCD
  by_cases hC : C = []
  · have ie : fn_X6_isEmpty m b u3 = some (1, u3) := by
      have z : u3.1 (6 + 24 * b) 2 = 0 := by rw [c3.2.1, hC]; rfl
      rw [fn_X6_isEmpty, if_pos z]; rfl
    refine ⟨w_I u3 (6 + 24 * b) 3 1, ?_, fin u3 [] (fr2.tr c2) (by rw [List.append_nil]; exact c3) ⟨by simp, fun Q hQ => by simp at hQ⟩ (fun h => absurd hC h) (fun _ => rfl)⟩
    rw [fn_X9_shape, a1]
    simp only [Option.bind_some]
    rw [e6]
    simp only [Option.bind_some]
    rw [hc3]
    simp only [Option.bind_some]
    rw [ie]
    rfl
  · have cl := GC_60 ok c4
    have cp : 0 < C.length := by
      cases C with
      | nil => exact absurd rfl hC
      | cons _ _ => simp
    have ie : fn_X6_isEmpty m b u3 = some (0, u3) := by
      rw [fn_X6_isEmpty, c3.2.1, if_neg (show ¬ nI C.length = 0 from fun q => absurd (nIinj (b := 0) (by omega) (by omega) q) (by omega))]; rfl
    obtain ⟨l4, u4, D, d1, d2, d3, d4, d5, d6⟩ := d2_lp (m := m) (by omega) hb5 ok c4 (BB_ c b G E ++ xpl_ E 3).length 0 m u3 [] (by omega) (by omega) (sh_fr hb5 (sh_fr hb5 a3 fr2) c2) (by rw [c2.1 136 (by omega), fr2.1 136 (by omega)]; exact a4) (by rw [List.append_nil]; exact c3) ⟨by simp, fun Q hQ => by simp at hQ⟩
    refine ⟨w_I u4 (6 + 24 * b) 3 1, ?_, fin u4 D ((fr2.tr c2).tr d2) d3 d4 (fun _ i j x y s h1 hs hx hy hc hi => d6 i j x y s (by omega) h1 hs hx hy hc hi) (fun h => absurd h hC)⟩
    rw [fn_X9_shape, a1]
    simp only [Option.bind_some]
    rw [e6]
    simp only [Option.bind_some]
    rw [hc3]
    simp only [Option.bind_some]
    rw [ie]
    simp only [Option.bind_some]
    rw [if_pos trivial, fn_X9_findDirections, show lp_X9_findDirections_2 m b m (0 : Int32) u3 = _ from d1]
    rfl
/-- learning: frames -/
def lf_ (c u : xm_Y) : Prop := (∀ q, q ≠ 136 → (∀ b, b < 5 → q ≠ 6 + 24 * b) → u.1 q = c.1 q) ∧ (∀ q, q ≠ 137 → q ≠ 138 → (∀ b, b < 5 → q ≠ 7 + 24 * b) → u.2 q = c.2 q)
theorem lf_.rf (c : xm_Y) : lf_ c c := ⟨fun _ _ _ => rfl, fun _ _ _ _ => rfl⟩
theorem shf_lf {b : Nat} (hb : b < 5) {x y z : xm_Y} (h : lf_ x y) (g : shf_ b y z) : lf_ x z := ⟨fun q h1 h2 => (g.1 q h1 (h2 b hb)).trans (h.1 q h1 h2), fun q h1 h2 h3 => (g.2 q h1 h2 (h3 b hb)).trans (h.2 q h1 h2 h3)⟩
theorem learn_lp {m nb : Nat} {gc : Nat → Nat} {E : E_} (hm : 300 ≤ m) {c : xm_Y} (hnb : c.1 1 2 = nI nb) (h5 : nb ≤ 5) (cb : ∀ b, b < nb → cb_ c b (gc b)) (hE : bx_ c 128 E) (hbd : ∀ k, k < 6 → bd_ 1000000000 (E k)) : ∀ (r b f : Nat) (u : xm_Y), b + r = nb → r + 1 ≤ f → lf_ c u → (∀ b', b' < b → u.1 (6 + 24 * b') 3 = 1 ∧ PL_ u b') → (∀ b', b ≤ b' → b' < 5 → u.1 (6 + 24 * b') 3 = 0 ∨ (u.1 (6 + 24 * b') 3 = 1 ∧ b' < nb ∧ PL_ u b')) → ∃ (l : Int32) (u' : xm_Y), lp_X11_learnPlaces_2 m f (nI b) u = some (l, u') ∧ lf_ c u' ∧ (∀ b', b' < nb → u'.1 (6 + 24 * b') 3 = 1 ∧ PL_ u' b') ∧ (∀ b', nb ≤ b' → b' < 5 → u'.1 (6 + 24 * b') 3 = 0 ∨ (u'.1 (6 + 24 * b') 3 = 1 ∧ b' < nb ∧ PL_ u' b'))
  | 0, b, f, u, hb, hf, fr, h1, h2 => by
    obtain ⟨f', rfl⟩ : ∃ f', f = f' + 1 := ⟨f - 1, by omega⟩
    obtain rfl : b = nb := by omega
    exact ⟨nI b, u, by rw [lp_X11_learnPlaces_2, fr.1 1 (by omega) (fun b _ => by omega), hnb, if_pos ((nIle (by omega) (by omega)).mpr (by omega))], fr, h1, h2⟩
  | r + 1, b, f, u, hb, hf, fr, h1, h2 => by
    obtain ⟨f', rfl⟩ : ∃ f', f = f' + 1 := ⟨f - 1, by omega⟩
    have b5 : b < 5 := by omega
    rw [lp_X11_learnPlaces_2, fr.1 1 (by omega) (fun b _ => by omega), hnb, if_neg (fun q => absurd ((nIle (by omega) (by omega)).mp q) (by omega)), ck_t (nI_xi (by omega) (by omega)), nI_cl (by omega)]
    rcases h2 b (by omega) b5 with z | ⟨z, -, pl⟩
    · have cbu : cb_ u b (gc b) := by
        obtain ⟨x1, x2, x3⟩ := cb b (by omega)
        refine ⟨by rw [fr.1 _ (by omega) (fun b' _ => by omega)]; exact x1, x2, fun g hg => ?_⟩
        have e : gp_ u b g = gp_ c b g := by
          unfold gp_ wc_ kc_
          rw [fr.1 (9 + 24 * b + 2 * g + 1) (by omega) (fun b' _ => by omega), fr.1 (9 + 24 * b + 2 * g) (by omega) (fun b' _ => by omega)]
        rw [e]; exact x3 g hg
      obtain ⟨u1, s1, s2, s3, s4⟩ := ev_shape hm b5 cbu (fun k hk => by rw [fr.2 128 (by omega) (by omega) (fun b' _ => by omega)]; exact hE k hk) hbd
      have keep : ∀ b', b' < 5 → b' ≠ b → PL_ u b' → PL_ u1 b' := fun b' h5' hne h => PL_c (s2.1 _ (by omega) (by omega)) (s2.1 _ (by omega) (by omega)) (fun k k1 k2 => s2.1 k (by omega) (by omega)) (s2.2 _ (by omega) (by omega) (by omega)) (s2.2 128 (by omega) (by omega) (by omega)) h
      obtain ⟨l, u', p1, p2, p3, p4⟩ := learn_lp hm hnb h5 cb hE hbd r (b + 1) f' u1 (by omega) (by omega) (shf_lf b5 fr s2) (fun b' hb' => by
        by_cases e : b' = b
        · rw [e]; exact ⟨s3, s4⟩
        · obtain ⟨y1, y2⟩ := h1 b' (by omega)
          exact ⟨by rw [s2.1 _ (by omega) (by omega)]; exact y1, keep b' (by omega) e y2⟩) (fun b' h1' h5' => by
        rw [s2.1 (6 + 24 * b') (by omega) (by omega)]
        rcases h2 b' (by omega) h5' with y | ⟨y1, y2, y3⟩
        · exact Or.inl y
        · exact Or.inr ⟨y1, y2, keep b' h5' (by omega) y3⟩)
      refine ⟨l, u', ?_, p2, p3, p4⟩
      rw [if_pos z, s1]
      simp only [Option.bind_some, xm_let]
      rw [← nI_succ, p1]
    · obtain ⟨l, u', p1, p2, p3, p4⟩ := learn_lp hm hnb h5 cb hE hbd r (b + 1) f' u (by omega) (by omega) fr (fun b' hb' => by
        by_cases e : b' = b
        · rw [e]; exact ⟨z, pl⟩
        · exact h1 b' (by omega)) (fun b' h1' h5' => h2 b' (by omega) h5')
      refine ⟨l, u', ?_, p2, p3, p4⟩
      rw [if_neg (by rw [z]; decide)]
      simp only [Option.bind_some, xm_let]
      rw [← nI_succ, p1]
