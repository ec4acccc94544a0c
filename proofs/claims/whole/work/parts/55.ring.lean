/-! the reference's table of points -/
def hh_ (X : Int64 × Int64 × Int64) : Nat := Int32.toNatClampNeg (Int64.toInt32 ((((X.1 * 31 + X.2.1) * 1000003 + X.2.2) ^^^ ((Int64.toUInt64 ((X.1 * 31 + X.2.1) * 1000003 + X.2.2) >>> (Int64.toUInt64 (Int32.toInt64 (29 : Int32)) &&& Int64.toUInt64 63)).toInt64)) &&& (32767 : Int64)))
theorem an64 (x : Int64) : 0 ≤ (x &&& 32767).toInt ∧ (x &&& 32767).toInt ≤ 32767 := by
  have e : (x &&& 32767).toBitVec.toNat = x.toBitVec.toNat &&& 32767 := by
    rw [Int64.toBitVec_and, BitVec.toNat_and]; rfl
  have l : x.toBitVec.toNat &&& 32767 ≤ 32767 := Nat.and_le_right
  have i : (x &&& 32767).toInt = ((x &&& 32767).toBitVec.toNat : Int) := BitVec.toInt_eq_toNat_of_lt (by rw [e]; omega)
  rw [i, e]
  omega
theorem hh_i (x : Int64) : ∃ h : Nat, h < 32768 ∧ Int64.toInt32 (x &&& 32767) = nI h ∧ (Int64.toInt32 (x &&& 32767)).toNatClampNeg = h := by
  have b := an64 x
  have e : (Int64.toInt32 (x &&& 32767)).toInt = (x &&& 32767).toInt := by
    rw [Int64.toInt_toInt32]
    exact bm32 (by omega) (by omega)
  refine ⟨(x &&& 32767).toInt.toNat, by omega, ?_, ?_⟩
  · apply Int32.toInt_inj.mp
    rw [e, nI_u (by omega)]
    omega
  · show (Int64.toInt32 (x &&& 32767)).toInt.toNat = _
    rw [e]
def rk_ (u : xm_Y) (j : Nat) : Int64 × Int64 × Int64 := (u.2 165 (3 * j), u.2 165 (3 * j + 1), u.2 165 (3 * j + 2))
theorem nI_pd (j : Nat) : nI (j + 1) - 1 = nI j := by rw [nI_succ]; exact nI_sp j
theorem keep_next {a : Nat} (h : a < 32768) : (nI a + 1) &&& (32767 : Int32) = nI ((a + 1) % 32768) := by
  rw [← nI_succ]
  exact an32 (k := 15) (by omega) (by decide)
theorem keep_lp (m : Nat) (u : xm_Y) (k : Nat) (hk : k ≤ 10000) (tb : Nat → Nat) (hb : ∀ h, h < 32768 → tb h ≤ k) (ht : ∀ h, h < 32768 → u.1 166 h = nI (tb h)) (h0 s : Nat) : ∀ (r t f : Nat), t + r = s → r + 1 ≤ f → (∀ s', t ≤ s' → s' < s → tb ((h0 + s') % 32768) ≠ 0 ∧ rk_ u (tb ((h0 + s') % 32768) - 1) ≠ gt_ u 167) → (tb ((h0 + s) % 32768) = 0 → lp_X12_keep_33 m u f (nI ((h0 + t) % 32768)) = some (.inr (nI ((h0 + s) % 32768)))) ∧ (tb ((h0 + s) % 32768) ≠ 0 → rk_ u (tb ((h0 + s) % 32768) - 1) = gt_ u 167 → lp_X12_keep_33 m u f (nI ((h0 + t) % 32768)) = some (.inl (nI (tb ((h0 + s) % 32768) - 1), u))) := by
  have nx : ∀ t, (nI ((h0 + t) % 32768) + 1) &&& (32767 : Int32) = nI ((h0 + (t + 1)) % 32768) := by
    intro t
    rw [keep_next (Nat.mod_lt _ (by decide))]
    congr 1
    omega
  intro r
  induction r with
  | zero =>
    intro t f ht' hf hp
    obtain ⟨f', rfl⟩ : ∃ f', f = f' + 1 := ⟨f - 1, by omega⟩
    obtain rfl : t = s := by omega
    have hl : (h0 + t) % 32768 < 32768 := Nat.mod_lt _ (by decide)
    have hbt := hb _ hl
    rw [lp_X12_keep_33, ck_t (nI_xi hl (by decide)), nI_cl (by omega), ht _ hl]
    constructor
    · intro z
      rw [z, if_pos (by decide)]
    · intro z e
      obtain ⟨j, hj⟩ : ∃ j, tb ((h0 + t) % 32768) = j + 1 := ⟨tb ((h0 + t) % 32768) - 1, by omega⟩
      rw [hj] at e ⊢
      have e0 : u.2 165 (3 * j) = u.2 167 0 := congrArg (fun x => x.1) e
      have e1 : u.2 165 (3 * j + 1) = u.2 167 1 := congrArg (fun x => x.2.1) e
      have e2 : u.2 165 (3 * j + 2) = u.2 167 2 := congrArg (fun x => x.2.2) e
      rw [if_neg (by rw [show (0 : Int32) = nI 0 from rfl]; exact fun q => absurd ((nIle (by omega) (by omega)).mp q) (by omega)), ck_t (nI_xi hl (by decide)), nI_pd, show (3 : Int32) * nI j = nI (3 * j) from nI_mu 3 j]
      simp only [xm_let]
      rw [show nI (3 * j) + (1 : Int32) = nI (3 * j + 1) from nI_ad _ 1, show nI (3 * j) + (2 : Int32) = nI (3 * j + 2) from nI_ad _ 2, ck_t (nI_xi (by omega) (by decide)), ck_t (by decide), nI_cl (by omega), if_pos (show u.2 165 (3 * j) = u.2 167 (Int32.toNatClampNeg 0) from e0), ck_t (nI_xi (by omega) (by decide)), ck_t (by decide), nI_cl (by omega), if_pos (show u.2 165 (3 * j + 1) = u.2 167 (Int32.toNatClampNeg 1) from e1), ck_t (nI_xi (by omega) (by decide)), ck_t (by decide), nI_cl (by omega), if_pos (show u.2 165 (3 * j + 2) = u.2 167 (Int32.toNatClampNeg 2) from e2), ck_t (nI_xi hl (by decide))]
      rfl
  | succ r ih =>
    intro t f ht' hf hp
    obtain ⟨f', rfl⟩ : ∃ f', f = f' + 1 := ⟨f - 1, by omega⟩
    have hl : (h0 + t) % 32768 < 32768 := Nat.mod_lt _ (by decide)
    have hbt := hb _ hl
    obtain ⟨z, e⟩ := hp t (by omega) (by omega)
    have ih' := ih (t + 1) f' (by omega) (by omega) (fun s' q1 q2 => hp s' (by omega) q2)
    have one : lp_X12_keep_33 m u (f' + 1) (nI ((h0 + t) % 32768)) = lp_X12_keep_33 m u f' (nI ((h0 + (t + 1)) % 32768)) := by
      rw [lp_X12_keep_33, ck_t (nI_xi hl (by decide)), nI_cl (by omega), ht _ hl]
      obtain ⟨j, hj⟩ : ∃ j, tb ((h0 + t) % 32768) = j + 1 := ⟨tb ((h0 + t) % 32768) - 1, by omega⟩
      rw [hj] at e ⊢
      rw [if_neg (by rw [show (0 : Int32) = nI 0 from rfl]; exact fun q => absurd ((nIle (by omega) (by omega)).mp q) (by omega)), ck_t (nI_xi hl (by decide)), nI_pd, show (3 : Int32) * nI j = nI (3 * j) from nI_mu 3 j]
      simp only [xm_let]
      rw [show nI (3 * j) + (1 : Int32) = nI (3 * j + 1) from nI_ad _ 1, show nI (3 * j) + (2 : Int32) = nI (3 * j + 2) from nI_ad _ 2, ck_t (nI_xi (by omega) (by decide)), ck_t (by decide), nI_cl (by omega), nx t]
      by_cases e0 : u.2 165 (3 * j) = u.2 167 0
      · rw [if_pos (show u.2 165 (3 * j) = u.2 167 (Int32.toNatClampNeg 0) from e0), ck_t (nI_xi (by omega) (by decide)), ck_t (by decide), nI_cl (by omega)]
        by_cases e1 : u.2 165 (3 * j + 1) = u.2 167 1
        · rw [if_pos (show u.2 165 (3 * j + 1) = u.2 167 (Int32.toNatClampNeg 1) from e1), ck_t (nI_xi (by omega) (by decide)), ck_t (by decide), nI_cl (by omega)]
          by_cases e2 : u.2 165 (3 * j + 2) = u.2 167 2
          · exact absurd (show rk_ u (j + 1 - 1) = gt_ u 167 from by
              show (u.2 165 (3 * j), u.2 165 (3 * j + 1), u.2 165 (3 * j + 2)) = (u.2 167 0, u.2 167 1, u.2 167 2)
              rw [e0, e1, e2]) e
          · rw [if_neg (show ¬ u.2 165 (3 * j + 2) = u.2 167 (Int32.toNatClampNeg 2) from e2)]
        · rw [if_neg (show ¬ u.2 165 (3 * j + 1) = u.2 167 (Int32.toNatClampNeg 1) from e1)]
      · rw [if_neg (show ¬ u.2 165 (3 * j) = u.2 167 (Int32.toNatClampNeg 0) from e0)]
    rw [one]
    exact ih'
def tr_ (u : xm_Y) (tb : Nat → Nat) : Prop := ∀ h, h < 32768 → u.1 166 h = nI (tb h)
theorem keep_ev {m : Nat} (hm : 100000 ≤ m) (u : xm_Y) (k : Nat) (hk : k ≤ 10000) (tb : Nat → Nat) (ht : ht_ 32768 hh_ (rk_ u) tb k) (htr : tr_ u tb) : (∃ j, j < k ∧ rk_ u j = gt_ u 167 ∧ fn_X12_keep m (nI k) u = some (nI j, u)) ∨ ((∀ j, j < k → rk_ u j ≠ gt_ u 167) ∧ ∃ (u' : xm_Y) (tb' : Nat → Nat), fn_X12_keep m (nI k) u = some (-1, u') ∧ ht_ 32768 hh_ (rk_ u') tb' (k + 1) ∧ tr_ u' tb' ∧ (∀ j, j < k → rk_ u' j = rk_ u j) ∧ rk_ u' k = gt_ u 167 ∧ (∀ q, q ≠ 166 → u'.1 q = u.1 q) ∧ (∀ q, q ≠ 165 → u'.2 q = u.2 q)) := by
  obtain ⟨h, hlt, he, hc⟩ := hh_i ((((u.2 167 0 * 31 + u.2 167 1) * 1000003 + u.2 167 2) ^^^ ((Int64.toUInt64 ((u.2 167 0 * 31 + u.2 167 1) * 1000003 + u.2 167 2) >>> (Int64.toUInt64 (Int32.toInt64 (29 : Int32)) &&& Int64.toUInt64 63)).toInt64)))
  have hhh : hh_ (gt_ u 167) = h := hc
  have e1 : fn_X12_keep m (nI k) u = ((lp_X12_keep_33 m u m (nI h)).bind (Sum.elim (fun r => some r) (fun q11 => xm_chk (xm_in q11 32768) (xm_let (w_I u 166 (Int32.toNatClampNeg q11) (nI k + (1 : Int32))) fun u12 => ((lp_X12_keep_138 m (nI k) m (0 : Int32) u12).bind fun q16 => some ((-1 : Int32), q16.2)))))) := by
    rw [← he]; rfl
  obtain ⟨s, s1, s2, s3⟩ := ht_find ht (by omega) (gt_ u 167)
  rw [hhh] at s2 s3
  have lp := keep_lp m u k hk tb ht.1 htr h s s 0 m (by omega) (by omega) (fun s' _ q => s2 s' q)
  rw [show (h + 0) % 32768 = h by omega] at lp
  rcases s3 with ⟨z, nf⟩ | ⟨z, fd⟩
  · right
    refine ⟨nf, ?_⟩
    have hsl : (h + s) % 32768 < 32768 := Nat.mod_lt _ (by decide)
    have nk : ∀ i, i < 3 → (3 : Int32) * nI k + nI i = nI (3 * k + i) := by
      intro i _
      rw [show (3 : Int32) = nI 3 from rfl, nI_mu, nI_ad]
    have lp2 : ∀ w : xm_Y, lp_X12_keep_138 m (nI k) m (0 : Int32) w = some (3, w_J (w_J (w_J w 165 (3 * k) (w.2 167 0)) 165 (3 * k + 1) (w.2 167 1)) 165 (3 * k + 2) (w.2 167 2)) := by
      intro w
      obtain ⟨f, rfl⟩ := Nat.exists_eq_add_of_le' (show 4 ≤ m by omega)
      have st : ∀ (M f i : Nat) (w : xm_Y), i < 3 → lp_X12_keep_138 M (nI k) (f + 1) (nI i) w = lp_X12_keep_138 M (nI k) f (nI (i + 1)) (w_J w 165 (3 * k + i) (w.2 167 i)) := by
        intro M f i w hi
        rw [lp_X12_keep_138, if_neg (show ¬ (3 : Int32) ≤ nI i from fun q => absurd ((nIle (a := 3) (by omega) (by omega)).mp q) (by omega)), ck_t (nI_xi hi (by omega)), nk i hi, ck_t (nI_xi (by omega) (by decide)), nI_cl (by omega), nI_cl (by omega)]
        simp only [xm_let]
        rw [nI_succ]
      show lp_X12_keep_138 (f + 4) (nI k) (f + 3 + 1) (nI 0) w = _
      rw [st _ _ 0 _ (by omega), st _ _ 1 _ (by omega), st _ _ 2 _ (by omega)]
      rfl
    refine ⟨w_J (w_J (w_J (w_I u 166 ((h + s) % 32768) (nI (k + 1))) 165 (3 * k) (u.2 167 0)) 165 (3 * k + 1) (u.2 167 1)) 165 (3 * k + 2) (u.2 167 2), fun q => if q = (h + s) % 32768 then k + 1 else tb q, ?_, ?_, ?_, ?_, ?_, ?_, ?_⟩
    · rw [e1, lp.1 z]
      show xm_chk (xm_in (nI ((h + s) % 32768)) 32768) _ = _
      rw [ck_t (nI_xi hsl (by decide)), nI_cl (by omega)]
      simp only [xm_let]
      rw [lp2, ← nI_succ]
      rfl
    · refine ht_put ht (s := s) (by omega) (gt_ u 167) (by rw [hhh]; exact z) (fun s' q => by rw [hhh]; exact (s2 s' q).1) ?_ ?_ (fun q hq => by rw [hhh])
      · intro j hj
        unfold rk_
        rw [rJ_ne (by omega), rJ_ne (by omega), rJ_ne (by omega), rJ_ne (by omega), rJ_ne (by omega), rJ_ne (by omega), rJ_ne (by omega), rJ_ne (by omega), rJ_ne (by omega)]
        rfl
      · unfold rk_
        rw [rJ_ne (by omega), rJ_ne (by omega), rJ_eq, rJ_ne (by omega), rJ_eq, rJ_eq]
        rfl
    · intro q hq
      show (w_I u 166 ((h + s) % 32768) (nI (k + 1))).1 166 q = nI (if q = (h + s) % 32768 then k + 1 else tb q)
      by_cases e : q = (h + s) % 32768
      · rw [if_pos e, e, rI_eq]
      · rw [if_neg e, rI_ne (by omega)]; exact htr q hq
    · intro j hj
      unfold rk_
      rw [rJ_ne (by omega), rJ_ne (by omega), rJ_ne (by omega), rJ_ne (by omega), rJ_ne (by omega), rJ_ne (by omega), rJ_ne (by omega), rJ_ne (by omega), rJ_ne (by omega)]
      rfl
    · unfold rk_
      rw [rJ_ne (by omega), rJ_ne (by omega), rJ_eq, rJ_ne (by omega), rJ_eq, rJ_eq]
      rfl
    · intro q hq
      exact rI_nc hq
    · intro q hq
      exact (rJ_nc hq).trans ((rJ_nc hq).trans (rJ_nc hq))
  · left
    refine ⟨tb ((h + s) % 32768) - 1, ?_, fd, ?_⟩
    · have := ht.1 ((h + s) % 32768) (Nat.mod_lt _ (by decide))
      omega
    · rw [e1, lp.2 z fd]
      rfl
