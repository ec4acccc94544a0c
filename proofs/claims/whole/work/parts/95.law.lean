/-! the law's loop -/
theorem hb_PL (c c' : xm_Y) (b : Nat) (h : cl_ c c') (g : PL_ c b) : PL_ c' b := pf_PF.1 c c' b (fun k hk => h k (by omega)) (h 128 (by decide)).2 g
theorem hb_FL (c c' d : xm_Y) (h : cl_ c c') (g : FL_ c d) : FL_ c' d := pf_PF.2 c c' d d (by rw [(h 139 (by decide)).2]) rfl rfl rfl rfl rfl rfl rfl g
theorem hb_FL2 (c d d' : xm_Y) (h : md_ d d') (g : FL_ c d) : FL_ c d' := pf_PF.2 c c d d' rfl (by rw [(h 150 (by decide)).1]) (by rw [(h 150 (by decide)).1]) (h 151 (by decide)).1 (h 152 (by decide)).1 (h 156 (by decide)).1 (h 155 (by decide)).2 (h 162 (by decide)).1 g
theorem lw_b {α : Type} [DecidableEq α] {fc fm : xm_Y → Option (α × xm_Y)} (h : tf_ PL_ FL_ fc fm) {u : xm_Y} (iv : iv_ PL_ FL_ u u) (go : xm_Y → Option ((Int32 × xm_Y) ⊕ (Int32 × xm_Y))) (ih : ∀ u, iv_ PL_ FL_ u u → ∃ q, go u = some (.inr q)) : ∃ q, ((fc u).bind fun q1 => (fm q1.2).bind fun q2 => if q1.1 = q2.1 then go q2.2 else some (.inl ((0 : Int32), q2.2))) = some (.inr q) := by
  obtain ⟨r, u1, u2, a1, a2, a3⟩ := tf_one hb_PL hb_FL hb_FL2 h iv
  obtain ⟨q, hq⟩ := ih u2 a3
  refine ⟨q, ?_⟩
  rw [a1]
  simp only [Option.bind_some]
  rw [a2]
  simp only [Option.bind_some]
  rw [if_pos trivial, hq]
theorem lw_end {L p : Nat} (hL : L ≤ 2560) (hp : p ≤ 2560) (q : ¬ Int32.ofNat L - (5 : Int32) < nI p) : p + 5 ≤ L := by
  by_cases h : 5 ≤ L
  · have e : Int32.ofNat L - (5 : Int32) = nI (L - 5) := nI_sb (a := L) (b := 5) h (by omega)
    rw [e, nIlt (by omega) (by omega)] at q
    omega
  · exfalso
    apply q
    rw [Int32.lt_iff_toInt_lt, nI_u (by omega)]
    have : L = 0 ∨ L = 1 ∨ L = 2 ∨ L = 3 ∨ L = 4 := by omega
    have z : (Int32.ofNat L - (5 : Int32)).toInt < 0 := by rcases this with rfl | rfl | rfl | rfl | rfl <;> decide
    omega
set_option maxHeartbeats 4000000 in
theorem lw_gf {m L : Nat} {xs : Nat → Int32} (hm : 100000 ≤ m) (hL : L ≤ 2560) : ∀ (r p n : Nat) (u : xm_Y), L ≤ p + r → p ≤ L → r + 1 ≤ n → iv_ PL_ FL_ u u → ∃ q, lw_lp m L xs n (nI p) u = some (.inr q)
  | 0, p, n, u, h1, h2, h3, iv => by
    obtain ⟨n', rfl⟩ : ∃ n', n = n' + 1 := ⟨n - 1, by omega⟩
    rw [lw_lp]
    by_cases q : Int32.ofNat L - (5 : Int32) < nI p
    · rw [if_pos q]; exact ⟨_, rfl⟩
    · have := lw_end hL (by omega) q
      omega
  | r + 1, p, n, u, h1, h2, h3, iv => by
    obtain ⟨n', rfl⟩ : ∃ n', n = n' + 1 := ⟨n - 1, by omega⟩
    rw [lw_lp]
    by_cases q : Int32.ofNat L - (5 : Int32) < nI p
    · rw [if_pos q]; exact ⟨_, rfl⟩
    rw [if_neg q]
    have h5 := lw_end hL (by omega) q
    have k0 : xm_in (nI p) L := nI_xi (by omega) (by omega)
    have k1 : xm_in (nI p + (1 : Int32)) L := by rw [show nI p + (1 : Int32) = nI (p + 1) from nI_ad p 1]; exact nI_xi (by omega) (by omega)
    have k2 : xm_in (nI p + (2 : Int32)) L := by rw [show nI p + (2 : Int32) = nI (p + 2) from nI_ad p 2]; exact nI_xi (by omega) (by omega)
    have k3 : xm_in (nI p + (3 : Int32)) L := by rw [show nI p + (3 : Int32) = nI (p + 3) from nI_ad p 3]; exact nI_xi (by omega) (by omega)
    have k4 : xm_in (nI p + (4 : Int32)) L := by rw [show nI p + (4 : Int32) = nI (p + 4) from nI_ad p 4]; exact nI_xi (by omega) (by omega)
    have ih : ∀ u, iv_ PL_ FL_ u u → ∃ q, lw_lp m L xs n' (nI p + (5 : Int32)) u = some (.inr q) := fun u iv => by
      rw [show nI p + (5 : Int32) = nI (p + 5) from nI_ad p 5]
      exact lw_gf hm hL r (p + 5) n' u (by omega) (by omega) (by omega) iv
    rw [ck_t k0]
    by_cases c0 : (xs (Int32.toNatClampNeg (nI p)) &&& (31 : Int32)) = (0 : Int32)
    · rw [if_pos c0]
      simp only [ck_t k1]
      exact lw_b (tf_loop (by omega) _) iv (fun u => lw_lp m L xs n' (nI p + (5 : Int32)) u) ih
    rw [if_neg c0]
    by_cases c1 : (xs (Int32.toNatClampNeg (nI p)) &&& (31 : Int32)) = (1 : Int32)
    · rw [if_pos c1]
      exact lw_b (tf_body (by omega)) iv (fun u => lw_lp m L xs n' (nI p + (5 : Int32)) u) ih
    rw [if_neg c1]
    by_cases c2 : (xs (Int32.toNatClampNeg (nI p)) &&& (31 : Int32)) = (2 : Int32)
    · rw [if_pos c2]
      simp only [ck_t k1, ck_t k2, ck_t k3]
      exact lw_b (tf_guard (by omega) _ _ _) iv (fun u => lw_lp m L xs n' (nI p + (5 : Int32)) u) ih
    rw [if_neg c2]
    by_cases c3 : (xs (Int32.toNatClampNeg (nI p)) &&& (31 : Int32)) = (3 : Int32)
    · rw [if_pos c3]
      simp only [ck_t k1, ck_t k2, ck_t k3, ck_t k4]
      exact lw_b (tf_rule (by omega) _ _ _ _) iv (fun u => lw_lp m L xs n' (nI p + (5 : Int32)) u) ih
    rw [if_neg c3]
    by_cases c4 : (xs (Int32.toNatClampNeg (nI p)) &&& (31 : Int32)) = (4 : Int32)
    · rw [if_pos c4]
      simp only [ck_t k1]
      exact lw_b (tf_many m _) iv (fun u => lw_lp m L xs n' (nI p + (5 : Int32)) u) ih
    rw [if_neg c4]
    by_cases c5 : (xs (Int32.toNatClampNeg (nI p)) &&& (31 : Int32)) = (5 : Int32)
    · rw [if_pos c5]
      simp only [ck_t k1, ck_t k2]
      exact lw_b (tf_set pf_PF _ _) iv (fun u => lw_lp m L xs n' (nI p + (5 : Int32)) u) ih
    rw [if_neg c5]
    by_cases c6 : (xs (Int32.toNatClampNeg (nI p)) &&& (31 : Int32)) = (6 : Int32)
    · rw [if_pos c6]
      simp only [ck_t k1]
      exact lw_b (tf_at m _) iv (fun u => lw_lp m L xs n' (nI p + (5 : Int32)) u) ih
    rw [if_neg c6]
    by_cases c7 : (xs (Int32.toNatClampNeg (nI p)) &&& (31 : Int32)) = (7 : Int32)
    · rw [if_pos c7]
      simp only [ck_t k1]
      exact lw_b (tf_run pf_PF hm _) iv (fun u => lw_lp m L xs n' (nI p + (5 : Int32)) u) ih
    rw [if_neg c7]
    by_cases c8 : (xs (Int32.toNatClampNeg (nI p)) &&& (31 : Int32)) = (8 : Int32)
    · rw [if_pos c8]
      exact lw_b (tf_turn (by omega)) iv (fun u => lw_lp m L xs n' (nI p + (5 : Int32)) u) ih
    rw [if_neg c8]
    by_cases c9 : (xs (Int32.toNatClampNeg (nI p)) &&& (31 : Int32)) = (9 : Int32)
    · rw [if_pos c9]
      simp only [ck_t k1]
      exact lw_b (tf_ring pf_PF hm _) iv (fun u => lw_lp m L xs n' (nI p + (5 : Int32)) u) ih
    rw [if_neg c9]
    by_cases c10 : (xs (Int32.toNatClampNeg (nI p)) &&& (31 : Int32)) = (10 : Int32)
    · rw [if_pos c10]
      exact lw_b (tf_ahead m) iv (fun u => lw_lp m L xs n' (nI p + (5 : Int32)) u) ih
    rw [if_neg c10]
    by_cases c11 : (xs (Int32.toNatClampNeg (nI p)) &&& (31 : Int32)) = (11 : Int32)
    · rw [if_pos c11]
      simp only [ck_t k1, ck_t k2, ck_t k3]
      exact lw_b (tf_ranks pf_PF (by omega) _ _ _) iv (fun u => lw_lp m L xs n' (nI p + (5 : Int32)) u) ih
    rw [if_neg c11]
    by_cases c12 : (xs (Int32.toNatClampNeg (nI p)) &&& (31 : Int32)) = (12 : Int32)
    · rw [if_pos c12]
      simp only [ck_t k1, ck_t k2, ck_t k3, ck_t k4]
      exact lw_b (tf_tells pf_PF (by omega) _ _ _ _) iv (fun u => lw_lp m L xs n' (nI p + (5 : Int32)) u) ih
    rw [if_neg c12]
    by_cases c13 : (xs (Int32.toNatClampNeg (nI p)) &&& (31 : Int32)) = (13 : Int32)
    · rw [if_pos c13]
      simp only [ck_t k1, ck_t k2, ck_t k3]
      exact lw_b (tf_floor pf_PF (by omega) _ _ _) iv (fun u => lw_lp m L xs n' (nI p + (5 : Int32)) u) ih
    rw [if_neg c13]
    by_cases c14 : (xs (Int32.toNatClampNeg (nI p)) &&& (31 : Int32)) = (14 : Int32)
    · rw [if_pos c14]
      simp only [ck_t k1]
      exact lw_b (tf_rank (by omega) _) iv (fun u => lw_lp m L xs n' (nI p + (5 : Int32)) u) ih
    rw [if_neg c14]
    by_cases c15 : (xs (Int32.toNatClampNeg (nI p)) &&& (31 : Int32)) = (15 : Int32)
    · rw [if_pos c15]
      simp only [ck_t k1]
      exact lw_b (tf_rows (by omega) _) iv (fun u => lw_lp m L xs n' (nI p + (5 : Int32)) u) ih
    rw [if_neg c15]
    by_cases c16 : (xs (Int32.toNatClampNeg (nI p)) &&& (31 : Int32)) = (16 : Int32)
    · rw [if_pos c16]
      simp only [ck_t k1, ck_t k2]
      exact lw_b (tf_found _ _) iv (fun u => lw_lp m L xs n' (nI p + (5 : Int32)) u) ih
    rw [if_neg c16]
    by_cases c17 : (xs (Int32.toNatClampNeg (nI p)) &&& (31 : Int32)) = (17 : Int32)
    · rw [if_pos c17]
      simp only [ck_t k1]
      exact lw_b (tf_by m _) iv (fun u => lw_lp m L xs n' (nI p + (5 : Int32)) u) ih
    rw [if_neg c17]
    by_cases c18 : (xs (Int32.toNatClampNeg (nI p)) &&& (31 : Int32)) = (18 : Int32)
    · rw [if_pos c18]
      exact lw_b (tf_bound (by omega)) iv (fun u => lw_lp m L xs n' (nI p + (5 : Int32)) u) ih
    rw [if_neg c18]
    by_cases c19 : (xs (Int32.toNatClampNeg (nI p)) &&& (31 : Int32)) = (19 : Int32)
    · rw [if_pos c19]
      simp only [ck_t k1, ck_t k2, ck_t k3]
      exact lw_b (tf_begin pf_PF _ _ _) iv (fun u => lw_lp m L xs n' (nI p + (5 : Int32)) u) ih
    rw [if_neg c19]
    by_cases c20 : (xs (Int32.toNatClampNeg (nI p)) &&& (31 : Int32)) = (20 : Int32)
    · rw [if_pos c20]
      simp only [ck_t k1]
      exact lw_b (tf_round pf_PF (by omega) _) iv (fun u => lw_lp m L xs n' (nI p + (5 : Int32)) u) ih
    rw [if_neg c20]
    by_cases c21 : (xs (Int32.toNatClampNeg (nI p)) &&& (31 : Int32)) = (21 : Int32)
    · rw [if_pos c21]
      simp only [ck_t k1, ck_t k2]
      exact lw_b (tf_box _ _) iv (fun u => lw_lp m L xs n' (nI p + (5 : Int32)) u) ih
    rw [if_neg c21]
    by_cases c22 : (xs (Int32.toNatClampNeg (nI p)) &&& (31 : Int32)) = (22 : Int32)
    · rw [if_pos c22]
      exact lw_b (tf_open (by omega)) iv (fun u => lw_lp m L xs n' (nI p + (5 : Int32)) u) ih
    rw [if_neg c22]
    by_cases c23 : (xs (Int32.toNatClampNeg (nI p)) &&& (31 : Int32)) = (23 : Int32)
    · rw [if_pos c23]
      simp only [ck_t k1, ck_t k2, ck_t k3]
      exact lw_b (tf_call pf_PF (by omega) _ _ _) iv (fun u => lw_lp m L xs n' (nI p + (5 : Int32)) u) ih
    rw [if_neg c23]
    by_cases c24 : (xs (Int32.toNatClampNeg (nI p)) &&& (31 : Int32)) = (24 : Int32)
    · rw [if_pos c24]
      exact lw_b (tf_clear pf_PF) iv (fun u => lw_lp m L xs n' (nI p + (5 : Int32)) u) ih
    rw [if_neg c24]
    by_cases c25 : (xs (Int32.toNatClampNeg (nI p)) &&& (31 : Int32)) = (25 : Int32)
    · rw [if_pos c25]
      exact lw_b (tf_ending pf_PF (by omega)) iv (fun u => lw_lp m L xs n' (nI p + (5 : Int32)) u) ih
    rw [if_neg c25]
    by_cases c26 : (xs (Int32.toNatClampNeg (nI p)) &&& (31 : Int32)) = (26 : Int32)
    · rw [if_pos c26]
      exact lw_b (tf_made m) iv (fun u => lw_lp m L xs n' (nI p + (5 : Int32)) u) ih
    rw [if_neg c26]
    by_cases c27 : (xs (Int32.toNatClampNeg (nI p)) &&& (31 : Int32)) = (27 : Int32)
    · rw [if_pos c27]
      simp only [ck_t k1]
      exact lw_b (tf_witness m _) iv (fun u => lw_lp m L xs n' (nI p + (5 : Int32)) u) ih
    rw [if_neg c27]
    exact ih u iv
theorem u0_1 : lw_u0.1 1 1 = nI 2 ∧ lw_u0.1 150 0 = nI 2 ∧ lw_u0.1 1 2 = 0 ∧ lw_u0.1 150 1 = 0 := by decide +kernel
theorem u0_3 : ∀ i, i < 3 → lw_u0.2 123 i = 0 ∧ lw_u0.2 154 i = 0 := by decide +kernel
theorem u0_4 : ∀ k, k < 6 → lw_u0.1 158 k = 0 ∧ lw_u0.2 130 k = 0 ∧ lw_u0.2 157 k = 0 := by decide +kernel
theorem u0_5 : ∀ k, k < 6 → lw_u0.1 156 k = 1 ∧ lw_u0.2 128 k = if k < 4 then -3000000000000 else 0 := by decide +kernel
theorem u0_6 : lw_u0.1 124 2 = lw_u0.1 150 26 := by decide +kernel
theorem u0_7 : lw_u0.1 139 2 = 0 ∧ lw_u0.1 150 19 = 0 := by decide +kernel
theorem u0_7b : ∀ b, b < 5 → lw_u0.1 143 b = lw_u0.1 163 b ∧ lw_u0.1 163 b = -1 := by decide +kernel
theorem u0_8 : lw_u0.1 139 6 = 0 ∧ lw_u0.1 150 21 = 0 := by decide +kernel
theorem u0_8b : ∀ b, b < 5 → lw_u0.1 (6 + 24 * b) 3 = 0 := by decide +kernel
theorem u0_9 : lw_u0.1 146 1 = 0 ∧ lw_u0.1 150 36 = 0 := by decide +kernel
theorem u0_10 : lw_u0.1 146 5 = lw_u0.1 150 40 ∧ lw_u0.1 146 6 = lw_u0.1 150 42 ∧ lw_u0.1 146 7 = lw_u0.1 150 43 := by decide +kernel
theorem iv_u0 : iv_ PL_ FL_ lw_u0 lw_u0 := by
  refine ⟨2, 0, fun _ => 0, ⟨u0_1.1, u0_1.2.1, by omega, by omega, u0_1.2.2.1, u0_1.2.2.2, by omega⟩, fun b hb => by omega, fun i hi => ?_, fun k hk => ?_, fun k hk => ?_, u0_6, ⟨⟨0, by omega, u0_7.1, u0_7.2, fun k hk => by omega⟩, fun b hb => ⟨(u0_7b b hb).1, fun _ => (u0_7b b hb).2⟩⟩, ⟨Or.inl u0_8, fun b hb => Or.inl (u0_8b b hb)⟩, ⟨0, by omega, u0_9.1, u0_9.2, fun k hk => by omega⟩, u0_10⟩
  · obtain ⟨a, b⟩ := u0_3 i hi
    rw [a, b]
    exact ⟨rfl, by decide, by decide, fun _ => rfl⟩
  · obtain ⟨a, b, c⟩ := u0_4 k hk
    refine Or.inr ⟨a, b.trans c.symm, ?_, ?_, fun _ => c⟩ <;> rw [c] <;> decide
  · obtain ⟨a, b⟩ := u0_5 k hk
    refine ⟨fun h => Or.inl ⟨a, ?_⟩, fun h => ⟨a, ?_⟩⟩
    · rw [b, if_pos (by omega)]
    · rw [b, if_neg (by omega)]
theorem pu_all (L : Nat) (xs : Nat → Int32) (hL : L ≤ 2560) : ∃ (m0 : Nat) (q : Int32 × xm_Y), lw_lp m0 L xs m0 0 lw_u0 = some (.inr q) := ⟨100000, lw_gf (m := 100000) (xs := xs) (Nat.le_refl _) hL 2560 0 100000 lw_u0 (by omega) (by omega) (by omega) iv_u0⟩
