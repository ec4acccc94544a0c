/-! the walks of ring, the class's and the reference's -/
theorem nI_sb {a b : Nat} (h : b ≤ a) (ha : a < 2 ^ 31) : nI a - nI b = nI (a - b) := by
  apply Int32.toInt_inj.mp
  have h1 := nI_u ha
  have h2 := nI_u (show b < 2 ^ 31 by omega)
  rw [sb32 (by omega) (by omega), h1, h2, nI_u (by omega)]
  omega
theorem nIinj {a b : Nat} (ha : a < 2 ^ 31) (hb : b < 2 ^ 31) (h : nI a = nI b) : a = b := by
  have := congrArg Int32.toInt h
  rw [nI_u ha, nI_u hb] at this
  omega
theorem ring_lp {m N n nb : Nat} {gc : Nat → Nat} {d : xm_Y} {X : T_} (hm : 100000 ≤ m) (hN : N ≤ 10000) (hn3 : n ≤ 3) (hn0 : d.1 150 0 = nI n) (h5 : nb ≤ 5) (hn : d.1 150 1 = nI nb) (hG : ∀ b, b < nb → d.1 151 b = nI (gc b) ∧ gc b ≤ 6) : ∀ (r k f : Nat) (u : xm_Y) (tb : Nat → Nat), k + r = N + 1 → r + 1 ≤ f → 1 ≤ k → (∀ q, q ≠ 166 → u.1 q = d.1 q) → (∀ q, q ≠ 165 → q ≠ 167 → q ≠ 168 → u.2 q = d.2 q) → ht_ 32768 hh_ (rk_ u) tb k → tr_ u tb → (∀ j, j < k → ob_ (sd_ d n nb gc) X j = some (rk_ u j)) → (∀ i j, i < j → j < k → ob_ (sd_ d n nb gc) X i ≠ ob_ (sd_ d n nb gc) X j) → gt_ u 167 = rk_ u (k - 1) → ∃ (z : Int32) (u' : xm_Y) (lead : Option Nat), (lp_X12_ring_72 m (nI N) f (nI k) u).bind (Sum.elim (fun r => some r) (fun q => some ((0 : Int32), q.2))) = some (z, u') ∧ (∀ q, q ≠ 166 → q ≠ 150 → u'.1 q = d.1 q) ∧ (∀ q, q ≠ 165 → q ≠ 167 → q ≠ 168 → u'.2 q = d.2 q) ∧ (∀ e, e ≠ 26 → u'.1 150 e = d.1 150 e) ∧ (u'.1 150 26 = match lead with | none => d.1 150 26 | some μ => nI μ) ∧ rr_ (sd_ d n nb gc) X N z lead
  | 0, k, f, u, tb, hk, hf, k1, f1, f2, ht, htr, hob, hd, hg => by
    obtain ⟨f', rfl⟩ : ∃ f', f = f' + 1 := ⟨f - 1, by omega⟩
    refine ⟨0, u, none, ?_, fun q q1 q2 => f1 q q1, f2, fun e _ => by rw [f1 150 (by decide)], by rw [f1 150 (by decide)], ?_⟩
    · rw [lp_X12_ring_72, if_pos ((nIlt (by omega) (by omega)).mpr (by omega))]; rfl
    · refine Or.inr (Or.inr (Or.inr ⟨?_, fun i j q1 q2 => hd i j q1 (by omega), rfl, rfl⟩))
      rw [hob N (by omega)]
      exact fun z => by cases z
  | r + 1, k, f, u, tb, hk, hf, k1, f1, f2, ht, htr, hob, hd, hg => by
    obtain ⟨f', rfl⟩ : ∃ f', f = f' + 1 := ⟨f - 1, by omega⟩
    have u150 : u.1 150 = d.1 150 := f1 150 (by decide)
    have u151 : u.1 151 = d.1 151 := f1 151 (by decide)
    obtain ⟨w, sd, e1, e2, e3⟩ := ev_from (m := m) (by omega) 167 n nb gc u (by decide) hn3 (by rw [u150]; exact hn0) h5 (by rw [u150]; exact hn) (fun b hb => by rw [u151]; exact hG b hb)
    have sdu : sd_ u n nb gc (gt_ u 167) = sd_ d n nb gc (gt_ u 167) := by
      unfold sd_ hd_ md2_ ov_ of_
      rw [f1 152 (by decide), f1 153 (by decide)]
    rw [sdu] at sd e3
    have obk : ob_ (sd_ d n nb gc) X (k - 1) = some (gt_ u 167) := by rw [hg]; exact hob (k - 1) (by omega)
    have w1 : ∀ q, q ≠ 166 → w.1 q = d.1 q := fun q hq => (congrFun e1 q).trans (f1 q hq)
    have w2 : ∀ q, q ≠ 165 → q ≠ 167 → q ≠ 168 → w.2 q = d.2 q := fun q q1 q2 q3 => (e2 q q3 q2).trans (f2 q q1 q2 q3)
    rw [lp_X12_ring_72, if_neg (fun q => absurd ((nIlt (by omega) (by omega)).mp q) (by omega)), sd]
    simp only [Option.bind_some, xm_let]
    cases hs : sd_ d n nb gc (gt_ u 167) with
    | none =>
      refine ⟨0, w, none, ?_, fun q q1 q2 => w1 q q1, w2, fun e _ => by rw [w1 150 (by decide)], by rw [w1 150 (by decide)], Or.inr (Or.inl ⟨k - 1, _, by omega, obk, hs, rfl, rfl⟩)⟩
      rfl
    | some o =>
      cases o with
      | none =>
        refine ⟨-4, w, none, ?_, fun q q1 q2 => w1 q q1, w2, fun e _ => by rw [w1 150 (by decide)], by rw [w1 150 (by decide)], Or.inr (Or.inr (Or.inl ⟨k - 1, _, by omega, obk, hs, rfl, rfl⟩))⟩
        rfl
      | some t =>
        rw [hs] at e3
        have e3' : gt_ w 167 = t := e3
        have rkw : ∀ j, rk_ w j = rk_ u j := fun j => by
          unfold rk_
          rw [e2 165 (by decide) (by decide)]
        have obk1 : ob_ (sd_ d n nb gc) X k = some t := by
          rw [show k = k - 1 + 1 by omega]
          show nx_ _ (ob_ _ X (k - 1)) = _
          rw [obk]
          show (match sd_ d n nb gc (gt_ u 167) with | some (some t) => some t | _ => none) = some t
          rw [hs]
        have htw : ht_ 32768 hh_ (rk_ w) tb k := by
          rw [show rk_ w = rk_ u from funext rkw]; exact ht
        have htrw : tr_ w tb := fun h hh => by rw [e1]; exact htr h hh
        rcases keep_ev hm w k (by omega) tb htw htrw with ⟨j, j1, j2, j3⟩ | ⟨nf, w', tb', q1, q2, q3, q4, q5, q6, q7⟩
        · rw [j3]
          have hjn : ¬ nI j < 0 := fun q => absurd ((nIlt (b := 0) (by omega) (by omega)).mp q) (by omega)
          refine ⟨nI (k - j), w_I w 150 26 (nI j), some j, ?_, fun q q1 q2 => (rI_nc q2).trans (w1 q q1), w2, fun e he => by rw [rI_ne (by omega), w1 150 (by decide)], rI_eq, ?_⟩
          · show Option.bind (if nI j < 0 then _ else _) _ = _
            rw [if_neg hjn, nI_sb (by omega) (by omega)]; rfl
          · refine Or.inl ⟨j, k - j, by omega, by omega, ?_, ?_, fun i i' a b => hd i i' a (by omega), rfl, rfl⟩
            · rw [show j + (k - j) = k by omega, obk1, hob j j1, ← rkw, j2, e3']
            · rw [hob j j1]; exact fun z => by cases z
        · rw [q1]
          have rkk : rk_ w' k = t := by rw [q5, e3']
          obtain ⟨z, u', lead, p1, p2, p3, p4, p5, p6⟩ := ring_lp hm hN hn3 hn0 h5 hn hG (X := X) r (k + 1) f' w' tb' (by omega) (by omega) (by omega) (fun q hq => (q6 q hq).trans (w1 q hq)) (fun q a b c => (q7 q a).trans (w2 q a b c)) q2 q3 (fun j hj => by
            by_cases hjk : j = k
            · rw [hjk, obk1, rkk]
            · rw [hob j (by omega), q4 j (by omega), rkw]) (fun i j a b => by
            by_cases hjk : j = k
            · rw [hjk, obk1, hob i (by omega), ← rkw]
              intro z
              exact nf i (by omega) ((Option.some.inj z).trans e3'.symm)
            · exact hd i j a (by omega)) (by rw [show k + 1 - 1 = k by omega, rkk, gt_c (q7 167 (by decide)), e3'])
          refine ⟨z, u', lead, ?_, p2, p3, p4, p5, p6⟩
          rw [← p1, nI_succ]
          rfl
theorem zero_tb (m : Nat) : ∀ (r k f : Nat) (u : xm_Y), k + r = 32768 → r + 1 ≤ f → ∃ (l : Int32) (u' : xm_Y), lp_X12_ring_16 m f (nI k) u = some (l, u') ∧ u'.2 = u.2 ∧ (∀ q, q ≠ 166 → u'.1 q = u.1 q) ∧ (∀ h, h < 32768 → u'.1 166 h = if h < k then u.1 166 h else 0)
  | 0, k, f, u, hk, hf => by
    obtain ⟨f', rfl⟩ : ∃ f', f = f' + 1 := ⟨f - 1, by omega⟩
    refine ⟨nI k, u, ?_, rfl, fun _ _ => rfl, fun h hh => by rw [if_pos (by omega)]⟩
    rw [lp_X12_ring_16, if_pos (show (32768 : Int32) ≤ nI k from (nIle (a := 32768) (by omega) (by omega)).mpr (by omega))]
  | r + 1, k, f, u, hk, hf => by
    obtain ⟨f', rfl⟩ : ∃ f', f = f' + 1 := ⟨f - 1, by omega⟩
    obtain ⟨l, u', q1, q2, q3, q4⟩ := zero_tb m r (k + 1) f' (w_I u 166 k 0) (by omega) (by omega)
    refine ⟨l, u', ?_, q2, fun q hq => (q3 q hq).trans (rI_nc hq), fun h hh => ?_⟩
    · rw [lp_X12_ring_16, if_neg (show ¬ (32768 : Int32) ≤ nI k from fun q => absurd ((nIle (a := 32768) (by omega) (by omega)).mp q) (by omega)), ck_t (nI_xi (by omega) (by decide)), nI_cl (by omega)]
      simp only [xm_let]
      rw [← nI_succ, q1]
    · rw [q4 h hh]
      by_cases a : h < k
      · rw [if_pos (by omega), if_pos a, rI_ne (by omega)]
      · rw [if_neg a]
        by_cases b : h = k
        · rw [if_pos (by omega), b, rI_eq]
        · rw [if_neg (by omega)]
theorem ev_ringd {m N n nb : Nat} {gc : Nat → Nat} {d : xm_Y} (hm : 100000 ≤ m) (hN1 : 1 ≤ N) (hN : N ≤ 10000) (hn3 : n ≤ 3) (hn0 : d.1 150 0 = nI n) (h5 : nb ≤ 5) (hn : d.1 150 1 = nI nb) (hG : ∀ b, b < nb → d.1 151 b = nI (gc b) ∧ gc b ≤ 6) : ∃ (z : Int32) (u' : xm_Y) (lead : Option Nat), fn_X12_ring m (nI N) d = some (z, u') ∧ (∀ q, q ≠ 166 → q ≠ 150 → u'.1 q = d.1 q) ∧ (∀ q, q ≠ 165 → q ≠ 167 → q ≠ 168 → u'.2 q = d.2 q) ∧ (∀ e, e ≠ 26 → u'.1 150 e = d.1 150 e) ∧ (u'.1 150 26 = match lead with | none => d.1 150 26 | some μ => nI μ) ∧ rr_ (sd_ d n nb gc) (gt_ d 154) N z lead := by
  obtain ⟨l, u1, a1, a2, a3, a4⟩ := zero_tb m 32768 0 m d (by omega) (by omega)
  have e37 : lp_X12_ring_37 m m (0 : Int32) u1 = some (3, pt_ u1 167 (gt_ d 154)) := by
    obtain ⟨f, rfl⟩ := Nat.exists_eq_add_of_le' (show 4 ≤ m by omega)
    have : lp_X12_ring_37 (f + 4) (f + 4) (0 : Int32) u1 = some (3, pt_ u1 167 (gt_ u1 154)) := rfl
    rw [this]
    unfold gt_
    rw [a2]
  have tr0 : tr_ (pt_ u1 167 (gt_ d 154)) (fun _ => 0) := fun h hh => by
    show u1.1 166 h = nI 0
    rw [a4 h hh, if_neg (by omega)]; rfl
  have gp := gt_pt u1 167 (gt_ d 154)
  rcases keep_ev hm (pt_ u1 167 (gt_ d 154)) 0 (by omega) (fun _ => 0) (ht_new (fun _ _ => rfl)) tr0 with ⟨j, j1, -, -⟩ | ⟨nf, w', tb', q1, q2, q3, q4, q5, q6, q7⟩
  · omega
  rw [gp] at q5
  have fr : ∀ q, q ≠ 165 → q ≠ 167 → w'.2 q = d.2 q := fun q b c => (q7 q b).trans (((rJ_nc c).trans ((rJ_nc c).trans (rJ_nc c))).trans (by rw [a2]))
  obtain ⟨z, u', lead, p1, p2, p3, p4, p5, p6⟩ := ring_lp (m := m) hm hN hn3 hn0 h5 hn hG (X := gt_ d 154) N 1 m w' tb' (by omega) (by omega) (by omega) (fun q hq => (q6 q hq).trans (a3 q hq)) (fun q b c e => fr q b c) q2 q3 (fun j hj => by
    obtain rfl : j = 0 := by omega
    rw [q5]; rfl) (fun i j a b => absurd b (by omega)) (by
    show gt_ w' 167 = rk_ w' 0
    rw [q5, gt_c (q7 167 (by decide)), gp])
  refine ⟨z, u', lead, ?_, p2, p3, p4, p5, p6⟩
  have c1 : ¬ nI N < 1 := fun q => absurd ((nIlt (b := 1) (by omega) (by omega)).mp q) (by omega)
  have c2 : nI N ≤ 10000 := (nIle (b := 10000) (by omega) (by omega)).mpr hN
  rw [fn_X12_ring, if_neg c1, if_pos c2, show lp_X12_ring_16 m m (0 : Int32) d = some (l, u1) from a1]
  simp only [Option.bind_some]
  rw [e37]
  simp only [Option.bind_some]
  rw [show fn_X12_keep m (0 : Int32) (pt_ u1 167 (gt_ d 154)) = some (-1, w') from q1]
  simp only [Option.bind_some]
  exact p1
