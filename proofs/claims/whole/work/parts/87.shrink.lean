/-! as short as can be -/
def oN (a : Nat) : Int64 := Int64.ofInt (a : Int)
theorem oN_t {a : Nat} (h : a < 2 ^ 62) : (oN a).toInt = (a : Int) := by
  unfold oN
  rw [Int64.toInt_ofInt]
  exact bm64 (by omega) (by omega)
theorem oN_dv {a b : Nat} (ha : a < 2 ^ 62) (hb : b < 2 ^ 62) : oN a / oN b = oN (a / b) := by
  have hq : a / b ≤ a := Nat.div_le_self a b
  apply Int64.toInt_inj.mp
  rw [Int64.toInt_div, oN_t ha, oN_t hb, oN_t (by omega)]
  rw [show ((a : Int).tdiv (b : Int)) = ((a / b : Nat) : Int) from rfl]
  generalize a / b = z at hq
  exact bm64 (by omega) (by omega)
theorem oN_md {a b : Nat} (ha : a < 2 ^ 62) (hb : b < 2 ^ 62) : oN a - oN a / oN b * oN b = oN (a % b) := by
  have e := Nat.div_add_mod a b
  rw [oN_dv ha hb]
  unfold oN
  rw [om, os]
  congr 1
  have e2 : ((b * (a / b) + a % b : Nat) : Int) = (a : Int) := by rw [e]
  rw [Int.natCast_add, Int.natCast_mul] at e2
  rw [Int.mul_comm ((a / b : Nat) : Int)]
  omega
theorem oN_0 {b : Nat} (hb : b < 2 ^ 62) : oN b = 0 ↔ b = 0 := by
  constructor
  · intro q
    have := congrArg Int64.toInt q
    rw [oN_t hb] at this
    have z : (0 : Int64).toInt = 0 := rfl
    omega
  · intro q; rw [q]; rfl
theorem cmn_lp (m : Nat) (u : xm_Y) : ∀ (k a b st f : Nat), b < 2 ^ k → st + 2 * k ≤ 100 → 2 * k + 1 ≤ f → a < 2 ^ 62 → b < 2 ^ 62 → ∃ (x : Int64) (l : Int32), lp_X9_commonPart_9 m u f (oN a) (oN b) (nI st) = some (oN (Nat.gcd a b), x, l)
  | 0, a, b, st, f, hb, hs, hf, ha, hb2 => by
    obtain ⟨f', rfl⟩ : ∃ f', f = f' + 1 := ⟨f - 1, by omega⟩
    obtain rfl : b = 0 := by omega
    refine ⟨oN 0, nI st, ?_⟩
    rw [lp_X9_commonPart_9, Nat.gcd_zero_right]
    split
    · rfl
    · rw [if_pos (show oN 0 = 0 from rfl)]
  | k + 1, a, b, st, f, hb, hs, hf, ha, hb2 => by
    obtain ⟨f', rfl⟩ : ∃ f', f = f' + 1 := ⟨f - 1, by omega⟩
    by_cases b0 : b = 0
    · subst b0
      refine ⟨oN 0, nI st, ?_⟩
      rw [lp_X9_commonPart_9, Nat.gcd_zero_right]
      split
      · rfl
      · rw [if_pos (show oN 0 = 0 from rfl)]
    · have st1 : ¬ (100 : Int32) ≤ nI st := fun q => absurd ((nIle (a := 100) (by omega) (by omega)).mp q) (by omega)
      have bn : ¬ oN b = 0 := fun q => b0 ((oN_0 hb2).mp q)
      rw [lp_X9_commonPart_9, if_neg st1, if_neg bn, ck_t bn, oN_md ha hb2]
      simp only [xm_let]
      rw [← nI_succ]
      have g1 : Nat.gcd a b = Nat.gcd b (a % b) := by rw [Nat.gcd_comm a b, Nat.gcd_rec b a, Nat.gcd_comm]
      have rl : a % b < b := Nat.mod_lt _ (by omega)
      obtain ⟨f'', rfl⟩ : ∃ f'', f' = f'' + 1 := ⟨f' - 1, by omega⟩
      by_cases r0 : a % b = 0
      · rw [g1, r0, Nat.gcd_zero_right]
        refine ⟨oN 0, nI (st + 1), ?_⟩
        rw [lp_X9_commonPart_9]
        split
        · rfl
        · rw [if_pos (show oN 0 = 0 from rfl)]
      · have st2 : ¬ (100 : Int32) ≤ nI (st + 1) := fun q => absurd ((nIle (a := 100) (by omega) (by omega)).mp q) (by omega)
        have rn : ¬ oN (a % b) = 0 := fun q => r0 ((oN_0 (by omega)).mp q)
        rw [lp_X9_commonPart_9, if_neg st2, if_neg rn, ck_t rn, oN_md hb2 (by omega)]
        simp only [xm_let]
        rw [← nI_succ]
        have rl2 : b % (a % b) < a % b := Nat.mod_lt _ (by omega)
        have half : b % (a % b) + (a % b) ≤ b := by
          have e := Nat.div_add_mod b (a % b)
          have d1 : 1 ≤ b / (a % b) := (Nat.one_le_div_iff (by omega)).mpr (by omega)
          have := Nat.mul_le_mul_left (a % b) d1
          omega
        have pw : 2 ^ (k + 1) = 2 * 2 ^ k := by rw [Nat.pow_succ]; omega
        obtain ⟨x, l, ih⟩ := cmn_lp m u k (a % b) (b % (a % b)) (st + 1 + 1) f'' (by omega) (by omega) (by omega) (by omega) (by omega)
        refine ⟨x, l, ?_⟩
        rw [ih, g1, Nat.gcd_comm b (a % b)]
        congr 3
        rw [Nat.gcd_comm (a % b) b, Nat.gcd_comm (a % b) (b % (a % b)), ← Nat.gcd_rec (a % b) b, Nat.gcd_comm]
theorem ev_common {m : Nat} (hm : 100 ≤ m) {a b : Nat} (ha : a < 2 ^ 62) (hb : b ≤ 2400000000000) (u : xm_Y) : fn_X9_commonPart m (oN a) (oN b) u = some (oN (Nat.gcd a b), u) := by
  obtain ⟨x, l, e⟩ := cmn_lp m u 42 a b 0 m (by omega) (by omega) (by omega) ha (by omega)
  rw [fn_X9_commonPart, show lp_X9_commonPart_9 m u m (oN a) (oN b) (0 : Int32) = _ from e]
  rfl
def G_ (P : V4_) : Nat := Nat.gcd (Nat.gcd (Nat.gcd P.1.natAbs P.2.1.natAbs) P.2.2.1.natAbs) P.2.2.2.natAbs
def sk_ (P : V4_) : V4_ := (P.1 / (G_ P : Int), P.2.1 / (G_ P : Int), P.2.2.1 / (G_ P : Int), P.2.2.2 / (G_ P : Int))
theorem G_d (P : V4_) : (G_ P : Int) ∣ P.1 ∧ (G_ P : Int) ∣ P.2.1 ∧ (G_ P : Int) ∣ P.2.2.1 ∧ (G_ P : Int) ∣ P.2.2.2 := by
  have d4 : G_ P ∣ P.2.2.2.natAbs := Nat.gcd_dvd_right _ _
  have d3 : G_ P ∣ P.2.2.1.natAbs := Nat.dvd_trans (Nat.gcd_dvd_left _ _) (Nat.gcd_dvd_right _ _)
  have d2 : G_ P ∣ P.2.1.natAbs := Nat.dvd_trans (Nat.gcd_dvd_left _ _) (Nat.dvd_trans (Nat.gcd_dvd_left _ _) (Nat.gcd_dvd_right _ _))
  have d1 : G_ P ∣ P.1.natAbs := Nat.dvd_trans (Nat.gcd_dvd_left _ _) (Nat.dvd_trans (Nat.gcd_dvd_left _ _) (Nat.gcd_dvd_left _ _))
  exact ⟨Int.ofNat_dvd_left.mpr d1, Int.ofNat_dvd_left.mpr d2, Int.ofNat_dvd_left.mpr d3, Int.ofNat_dvd_left.mpr d4⟩
theorem G_pos {P : V4_} (h : P ≠ z4_) : 0 < G_ P := by
  apply Nat.pos_of_ne_zero
  intro z
  unfold G_ at z
  rw [Nat.gcd_eq_zero_iff, Nat.gcd_eq_zero_iff, Nat.gcd_eq_zero_iff] at z
  obtain ⟨⟨⟨a, b⟩, c⟩, d⟩ := z
  exact h (v4_ext (by show P.1 = 0; omega) (by show P.2.1 = 0; omega) (by show P.2.2.1 = 0; omega) (by show P.2.2.2 = 0; omega))
theorem sk_m (P : V4_) : P.1 = (G_ P : Int) * (sk_ P).1 ∧ P.2.1 = (G_ P : Int) * (sk_ P).2.1 ∧ P.2.2.1 = (G_ P : Int) * (sk_ P).2.2.1 ∧ P.2.2.2 = (G_ P : Int) * (sk_ P).2.2.2 := by
  obtain ⟨d1, d2, d3, d4⟩ := G_d P
  exact ⟨(Int.mul_ediv_cancel' d1).symm, (Int.mul_ediv_cancel' d2).symm, (Int.mul_ediv_cancel' d3).symm, (Int.mul_ediv_cancel' d4).symm⟩
theorem sk_pm {P : V4_} (h : P ≠ z4_) : pm_ (sk_ P) := by
  obtain ⟨e1, e2, e3, e4⟩ := sk_m P
  have gp := G_pos h
  have n : ∀ {x y : Int}, x = (G_ P : Int) * y → x.natAbs = G_ P * y.natAbs := fun {x y} e => by rw [e, Int.natAbs_mul, Int.natAbs_natCast]
  have g : G_ P = G_ P * Nat.gcd (Nat.gcd (Nat.gcd (sk_ P).1.natAbs (sk_ P).2.1.natAbs) (sk_ P).2.2.1.natAbs) (sk_ P).2.2.2.natAbs := by
    rw [← Nat.gcd_mul_left, ← Nat.gcd_mul_left, ← Nat.gcd_mul_left, ← n e1, ← n e2, ← n e3, ← n e4]
    rfl
  unfold pm_
  have : G_ P * 1 = G_ P * Nat.gcd (Nat.gcd (Nat.gcd (sk_ P).1.natAbs (sk_ P).2.1.natAbs) (sk_ P).2.2.1.natAbs) (sk_ P).2.2.2.natAbs := by rw [← g]; omega
  exact (Nat.eq_of_mul_eq_mul_left gp this).symm
theorem sk_b {P : V4_} (h : P ≠ z4_) (hb : pb4_ P) : pb4_ (sk_ P) := by
  obtain ⟨e1, e2, e3, e4⟩ := sk_m P
  have gp := G_pos h
  obtain ⟨b1, b2, b3, b4⟩ := hb
  have n : ∀ {A : Nat} {x y : Int}, x = (G_ P : Int) * y → nb_ A x → nb_ A y := fun {A x y} e hx => by
    unfold nb_ at *
    rw [e, Int.natAbs_mul, Int.natAbs_natCast] at hx
    have := Nat.mul_le_mul_right y.natAbs (show 1 ≤ G_ P from gp)
    omega
  exact ⟨n e1 b1, n e2 b2, n e3 b3, n e4 b4⟩
theorem sk_dp (P g : V4_) : dp_ g P = (G_ P : Int) * dp_ g (sk_ P) := by
  obtain ⟨e1, e2, e3, e4⟩ := sk_m P
  unfold dp_
  generalize sk_ P = Q at *
  generalize (G_ P : Int) = s at *
  rw [e1, e2, e3, e4]
  grind
theorem ofdiv {p : Int} {G : Nat} (hG : 0 < G) (hG2 : G < 2 ^ 62) (hp : nb_ 2400000000000 p) (hd : (G : Int) ∣ p) : Int64.ofInt p / oN G = Int64.ofInt (p / (G : Int)) := by
  obtain ⟨q, rfl⟩ := hd
  have hq : nb_ 2400000000000 q := by
    unfold nb_ at *
    rw [Int.natAbs_mul, Int.natAbs_natCast] at hp
    have := Nat.mul_le_mul_right q.natAbs (show 1 ≤ G from hG)
    omega
  have e : (G : Int) * q / (G : Int) = q := Int.mul_ediv_cancel_left q (by omega)
  have e2 : ((G : Int) * q).tdiv (G : Int) = q := Int.mul_tdiv_cancel_left q (by omega)
  apply Int64.toInt_inj.mp
  rw [Int64.toInt_div, oN_t hG2, i64t (nb_w hp (by decide)), e, e2, i64t (nb_w hq (by decide))]
  unfold nb_ at hq
  exact bm64 (by omega) (by omega)
theorem ev_shrink {m : Nat} (hm : 200 ≤ m) {u : xm_Y} {P : V4_} (hP : pt4_ u P) (bP : pb4_ P) (nz : P ≠ z4_) : ∃ u', fn_X9_shrink m u = some ((), u') ∧ po_ u u' ∧ pt4_ u' (sk_ P) := by
  obtain ⟨p0, p1, p2, p3⟩ := hP
  obtain ⟨b0, b1, b2, b3⟩ := id bP
  have gp := G_pos nz
  obtain ⟨d0, d1, d2, d3⟩ := G_d P
  have c0 : nb_ 1000000000000000000 P.1 := nb_w b0 (by decide)
  have c1 : nb_ 1000000000000000000 P.2.1 := nb_w b1 (by decide)
  have c2 : nb_ 1000000000000000000 P.2.2.1 := nb_w b2 (by decide)
  have c3 : nb_ 1000000000000000000 P.2.2.2 := nb_w b3 (by decide)
  have n0 : P.1.natAbs ≤ 2400000000000 := b0
  have n1 : P.2.1.natAbs ≤ 2400000000000 := b1
  have n2 : P.2.2.1.natAbs ≤ 2400000000000 := b2
  have n3 : P.2.2.2.natAbs ≤ 2400000000000 := Nat.le_trans b3 (by decide)
  have gl : ∀ a b : Nat, a ≤ 2400000000000 → b ≤ 2400000000000 → Nat.gcd a b ≤ 2400000000000 := by
    intro a b ha hb
    by_cases z : a = 0
    · subst z; rw [Nat.gcd_zero_left]; exact hb
    · exact Nat.le_trans (Nat.gcd_le_left b (by omega)) ha
  have g1 := gl _ _ n0 n1
  have g2 := gl _ _ g1 n2
  have g3 : G_ P ≤ 2400000000000 := gl _ _ g2 n3
  have first : lp_X9_shrink_4 m m (0 : Int64) (0 : Int32) u = some (oN (G_ P), 4, u) := by
    obtain ⟨f, rfl⟩ : ∃ f, m = f + 5 := ⟨m - 5, by omega⟩
    rw [lp_X9_shrink_4, if_neg (by decide), ck_t (by decide), show u.2 138 (Int32.toNatClampNeg 0) = _ from p0, ev_abs c0]
    simp only [Option.bind_some, xm_let]
    rw [show (0 : Int64) = oN 0 from rfl, show Int64.ofInt (P.1.natAbs : Int) = oN P.1.natAbs from rfl, ev_common (by omega) (by omega) n0]
    simp only [Option.bind_some]
    rw [Nat.gcd_zero_left, lp_X9_shrink_4, if_neg (by decide), ck_t (by decide), show u.2 138 (Int32.toNatClampNeg (0 + 1)) = _ from p1, ev_abs c1]
    simp only [Option.bind_some, xm_let]
    rw [show Int64.ofInt (P.2.1.natAbs : Int) = oN P.2.1.natAbs from rfl, ev_common (by omega) (by omega) n1]
    simp only [Option.bind_some]
    rw [lp_X9_shrink_4, if_neg (by decide), ck_t (by decide), show u.2 138 (Int32.toNatClampNeg (0 + 1 + 1)) = _ from p2, ev_abs c2]
    simp only [Option.bind_some, xm_let]
    rw [show Int64.ofInt (P.2.2.1.natAbs : Int) = oN P.2.2.1.natAbs from rfl, ev_common (by omega) (by omega) n2]
    simp only [Option.bind_some]
    rw [lp_X9_shrink_4, if_neg (by decide), ck_t (by decide), show u.2 138 (Int32.toNatClampNeg (0 + 1 + 1 + 1)) = _ from p3, ev_abs c3]
    simp only [Option.bind_some, xm_let]
    rw [show Int64.ofInt (P.2.2.2.natAbs : Int) = oN P.2.2.2.natAbs from rfl, ev_common (by omega) (by omega) n3]
    simp only [Option.bind_some]
    rw [lp_X9_shrink_4, if_pos (by decide)]
    rfl
  rw [fn_X9_shrink, first]
  simp only [Option.bind_some]
  by_cases one : G_ P = 1
  · have e : sk_ P = P := by
      unfold sk_
      rw [one]
      exact v4_ext (Int.ediv_one _) (Int.ediv_one _) (Int.ediv_one _) (Int.ediv_one _)
    rw [one, if_pos (by decide), e]
    exact ⟨u, rfl, po_.rf u, p0, p1, p2, p3⟩
  · have big : ¬ oN (G_ P) ≤ 1 := by
      intro q
      rw [Int64.le_iff_toInt_le, oN_t (by omega)] at q
      have z : (1 : Int64).toInt = 1 := rfl
      omega
    have gn : ¬ oN (G_ P) = 0 := fun q => by
      have := (oN_0 (by omega)).mp q
      omega
    rw [if_neg big]
    obtain ⟨f, hf⟩ : ∃ f, m = f + 5 := ⟨m - 5, by omega⟩
    have second : lp_X9_shrink_37 m (oN (G_ P)) m (0 : Int32) u = some (4, w_J (w_J (w_J (w_J u 138 0 (Int64.ofInt (sk_ P).1)) 138 1 (Int64.ofInt (sk_ P).2.1)) 138 2 (Int64.ofInt (sk_ P).2.2.1)) 138 3 (Int64.ofInt (sk_ P).2.2.2)) := by
      subst hf
      rw [lp_X9_shrink_37, if_neg (by decide), ck_t (by decide), ck_t gn, ck_t (by decide), show u.2 138 (Int32.toNatClampNeg 0) = _ from p0, ofdiv gp (by omega) b0 d0]
      simp only [xm_let]
      rw [lp_X9_shrink_37, if_neg (by decide), ck_t (by decide), ck_t gn, ck_t (by decide), show (w_J u 138 (Int32.toNatClampNeg 0) (Int64.ofInt (P.1 / (G_ P : Int)))).2 138 (Int32.toNatClampNeg (0 + 1)) = Int64.ofInt P.2.1 from (rJ_ne (by decide)).trans p1, ofdiv gp (by omega) b1 d1]
      simp only [xm_let]
      rw [lp_X9_shrink_37, if_neg (by decide), ck_t (by decide), ck_t gn, ck_t (by decide), show (w_J (w_J u 138 (Int32.toNatClampNeg 0) (Int64.ofInt (P.1 / (G_ P : Int)))) 138 (Int32.toNatClampNeg (0 + 1)) (Int64.ofInt (P.2.1 / (G_ P : Int)))).2 138 (Int32.toNatClampNeg (0 + 1 + 1)) = Int64.ofInt P.2.2.1 from (rJ_ne (by decide)).trans ((rJ_ne (by decide)).trans p2), ofdiv gp (by omega) b2 d2]
      simp only [xm_let]
      rw [lp_X9_shrink_37, if_neg (by decide), ck_t (by decide), ck_t gn, ck_t (by decide), show (w_J (w_J (w_J u 138 (Int32.toNatClampNeg 0) (Int64.ofInt (P.1 / (G_ P : Int)))) 138 (Int32.toNatClampNeg (0 + 1)) (Int64.ofInt (P.2.1 / (G_ P : Int)))) 138 (Int32.toNatClampNeg (0 + 1 + 1)) (Int64.ofInt (P.2.2.1 / (G_ P : Int)))).2 138 (Int32.toNatClampNeg (0 + 1 + 1 + 1)) = Int64.ofInt P.2.2.2 from (rJ_ne (by decide)).trans ((rJ_ne (by decide)).trans ((rJ_ne (by decide)).trans p3)), ofdiv gp (by omega) (nb_w b3 (by decide)) d3]
      simp only [xm_let]
      rw [lp_X9_shrink_37, if_pos (by decide)]
      rfl
    rw [second]
    refine ⟨_, rfl, ((((po_.rf u).w).w).w).w, ?_, ?_, ?_, ?_⟩
    · rw [rJ_ne (by decide), rJ_ne (by decide), rJ_ne (by decide), rJ_eq]
    · rw [rJ_ne (by decide), rJ_ne (by decide), rJ_eq]
    · rw [rJ_ne (by decide), rJ_eq]
    · rw [rJ_eq]
