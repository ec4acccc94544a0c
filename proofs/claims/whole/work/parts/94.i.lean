/-! rows: what is let go by a sum -/
noncomputable def lq_ (d : xm_Y) (n : Nat) (gc : Nat → Nat) (E : E_) (R : V4_) (L : Nat → Bool) (b : Nat) : Bool := L b && !(@decide (rkk_ d n gc E b R) (Classical.propDecidable _))
def cnL_ (L : Nat → Bool) : Nat → Nat
  | 0 => 0
  | k + 1 => cnL_ L k + (if L k = true then 1 else 0)
theorem lq_t {d : xm_Y} {n : Nat} {gc : Nat → Nat} {E : E_} {R : V4_} {L : Nat → Bool} {b : Nat} (g : rkk_ d n gc E b R) : lq_ d n gc E R L b = false := by
  unfold lq_
  rw [@decide_eq_true _ (Classical.propDecidable _) g]
  cases L b <;> rfl
theorem lq_f {d : xm_Y} {n : Nat} {gc : Nat → Nat} {E : E_} {R : V4_} {L : Nat → Bool} {b : Nat} (h : L b = true) (g : ¬ rkk_ d n gc E b R) : lq_ d n gc E R L b = true := by
  unfold lq_
  rw [@decide_eq_false _ (Classical.propDecidable _) g, h]
  rfl
theorem lq_n {d : xm_Y} {n : Nat} {gc : Nat → Nat} {E : E_} {R : V4_} {L : Nat → Bool} {b : Nat} (h : L b = false) : lq_ d n gc E R L b = false := by
  unfold lq_
  rw [h]
  rfl
theorem cnL_mono (L : Nat → Bool) : ∀ {a b : Nat}, a ≤ b → cnL_ L a ≤ cnL_ L b
  | a, 0, h => by
    obtain rfl : a = 0 := by omega
    exact Nat.le_refl _
  | a, b + 1, h => by
    by_cases e : a = b + 1
    · rw [e]; exact Nat.le_refl _
    · have := cnL_mono L (a := a) (b := b) (by omega)
      rw [show cnL_ L (b + 1) = cnL_ L b + (if L b = true then 1 else 0) from rfl]
      omega
theorem cnL_le (L : Nat → Bool) : ∀ b : Nat, cnL_ L b ≤ b
  | 0 => Nat.le_refl _
  | b + 1 => by
    have := cnL_le L b
    rw [show cnL_ L (b + 1) = cnL_ L b + (if L b = true then 1 else 0) from rfl]
    split <;> omega
theorem cnL_all : ∀ b : Nat, cnL_ (fun _ => true) b = b
  | 0 => rfl
  | b + 1 => by
    rw [show cnL_ (fun _ => true) (b + 1) = cnL_ (fun _ => true) b + 1 from rfl, cnL_all b]
theorem cnL_lt {L L' : Nat → Bool} (h : ∀ b, L' b = true → L b = true) : ∀ {nb : Nat} {b : Nat}, b < nb → L b = true → L' b = false → cnL_ L' nb < cnL_ L nb := by
  have le : ∀ q, cnL_ L' q ≤ cnL_ L q := fun q => by
    induction q with
    | zero => exact Nat.le_refl _
    | succ q ih =>
      rw [show cnL_ L (q + 1) = cnL_ L q + (if L q = true then 1 else 0) from rfl, show cnL_ L' (q + 1) = cnL_ L' q + (if L' q = true then 1 else 0) from rfl]
      by_cases w : L' q = true
      · rw [if_pos w, if_pos (h q w)]; omega
      · rw [if_neg w]; omega
  intro nb
  induction nb with
  | zero => intro b hb; omega
  | succ q ih =>
    intro b hb h1 h2
    rw [show cnL_ L (q + 1) = cnL_ L q + (if L q = true then 1 else 0) from rfl, show cnL_ L' (q + 1) = cnL_ L' q + (if L' q = true then 1 else 0) from rfl]
    by_cases e : b = q
    · subst e
      rw [if_pos h1, if_neg (by rw [h2]; decide)]
      have := le b
      omega
    · have := ih (b := b) (by omega) h1 h2
      by_cases w : L' q = true
      · rw [if_pos w, if_pos (h q w)]; omega
      · rw [if_neg w]; omega
theorem lq_s {d : xm_Y} {n : Nat} {gc : Nat → Nat} {E : E_} {R : V4_} {L : Nat → Bool} (b : Nat) (h : lq_ d n gc E R L b = true) : L b = true := by
  cases e : L b with
  | true => rfl
  | false => rw [lq_n e] at h; exact absurd h (by decide)
def rc_ (c u : xm_Y) : Prop := (∀ q, q ≠ 143 → u.1 q = c.1 q) ∧ ∀ q, (∀ b, b < 5 → q ≠ 8 + 24 * b) → u.2 q = c.2 q
def re_ (c u : xm_Y) : Prop := (∀ q, q ≠ 150 → q ≠ 163 → q ≠ 164 → u.1 q = c.1 q) ∧ (∀ e, e ≠ 11 → e ≠ 16 → e ≠ 17 → u.1 150 e = c.1 150 e) ∧ (∀ q, q ≠ 150 → q ≠ 159 → q ≠ 181 → u.2 q = c.2 q)
theorem rc_.q {c u v : xm_Y} (h : rc_ c u) (g : qf_ u v) : rc_ c v := ⟨fun q hq => by rw [g.1]; exact h.1 q hq, fun q hq => (g.2 q hq).trans (h.2 q hq)⟩
theorem rc_.w {c u : xm_Y} (h : rc_ c u) {j : Nat} {v : Int32} : rc_ c (w_I u 143 j v) := ⟨fun q hq => (rI_nc hq).trans (h.1 q hq), h.2⟩
theorem re_.q {c u v : xm_Y} (h : re_ c u) (g : tf2_ u v) : re_ c v := ⟨fun q hq h2 h3 => (g.1 q hq).trans (h.1 q hq h2 h3), fun e a b c => (g.2.1 e a b c).trans (h.2.1 e a b c), fun q a b c => (g.2.2 q a b c).trans (h.2.2 q a b c)⟩
theorem re_.w {c u : xm_Y} (h : re_ c u) {k j : Nat} {v : Int32} (hk : k = 163 ∨ k = 164) : re_ c (w_I u k j v) := ⟨fun q a b e => (rI_nc (by omega)).trans (h.1 q a b e), fun e x y z => (rI_ne (by omega)).trans (h.2.1 e x y z), h.2.2⟩
/-- how far both have let go -/
def rg_ (c d0 : xm_Y) (nb : Nat) (L' : Nat → Bool) (b : Nat) (u e : xm_Y) : Prop := rc_ c u ∧ re_ d0 e ∧ (∀ j, b ≤ j → u.1 143 j = c.1 143 j ∧ e.1 164 j = d0.1 164 j) ∧ (∀ j, j < b → (u.1 143 j = -1 ↔ L' j = true) ∧ (e.1 164 j = 0 ↔ L' j = false)) ∧ (∀ j, j < 5 → u.1 143 j = e.1 163 j) ∧ (∀ j, nb ≤ j → e.1 163 j = d0.1 163 j)
theorem rg_.q {c d0 u e v w : xm_Y} {nb b : Nat} {L' : Nat → Bool} (h : rg_ c d0 nb L' b u e) (g : qf_ u v) (k : tf2_ e w) : rg_ c d0 nb L' b v w := by
  refine ⟨h.1.q g, h.2.1.q k, fun j hj => ?_, fun j hj => ?_, fun j hj => ?_, fun j hj => ?_⟩
  · rw [g.1, k.1 164 (by decide)]; exact h.2.2.1 j hj
  · rw [g.1, k.1 164 (by decide)]; exact h.2.2.2.1 j hj
  · rw [g.1, k.1 163 (by decide)]; exact h.2.2.2.2.1 j hj
  · rw [k.1 163 (by decide)]; exact h.2.2.2.2.2 j hj
/-- one that stays as it is -/
theorem rg_.k {c d0 u e : xm_Y} {nb b : Nat} {L' : Nat → Bool} (h : rg_ c d0 nb L' b u e) (h1 : c.1 143 b = -1 ↔ L' b = true) (h2 : d0.1 164 b = 0 ↔ L' b = false) : rg_ c d0 nb L' (b + 1) u e := by
  refine ⟨h.1, h.2.1, fun j hj => h.2.2.1 j (by omega), fun j hj => ?_, h.2.2.2.2⟩
  by_cases q : j = b
  · subst q
    rw [(h.2.2.1 j (Nat.le_refl _)).1, (h.2.2.1 j (Nat.le_refl _)).2]
    exact ⟨h1, h2⟩
  · exact h.2.2.2.1 j (by omega)
/-- one that is let go -/
theorem rg_.g {c d0 u e : xm_Y} {nb b : Nat} {L' : Nat → Bool} (h : rg_ c d0 nb L' b u e) (hb : b < nb) {k : Nat} (hk : k < 5) (h1 : L' b = false) : rg_ c d0 nb L' (b + 1) (w_I u 143 b (nI k)) (w_I (w_I e 164 b 0) 163 b (nI k)) := by
  refine ⟨h.1.w, (h.2.1.w (Or.inr rfl)).w (Or.inl rfl), fun j hj => ⟨(rI_ne (by omega)).trans (h.2.2.1 j (by omega)).1, (rI_ne (by omega)).trans ((rI_ne (by omega)).trans (h.2.2.1 j (by omega)).2)⟩, fun j hj => ?_, fun j hj => ?_, fun j hj => (rI_ne (by omega)).trans ((rI_ne (by omega)).trans (h.2.2.2.2.2 j hj))⟩
  · by_cases q : j = b
    · subst q
      rw [rI_eq, rI_ne (by omega), rI_eq]
      refine ⟨⟨fun w => ?_, fun w => by rw [h1] at w; exact absurd w (by decide)⟩, fun _ => h1, fun _ => rfl⟩
      have : (nI k).toInt = -1 := by rw [w]; rfl
      rw [nI_u (by omega)] at this
      omega
    · rw [rI_ne (by omega), rI_ne (by omega), rI_ne (by omega)]
      exact h.2.2.2.1 j (by omega)
  · by_cases q : j = b
    · subst q
      rw [rI_eq, rI_eq]
    · rw [rI_ne (by omega), rI_ne (by omega), rI_ne (by omega)]
      exact h.2.2.2.2.1 j hj
theorem rel_lp {m : Nat} (hm : 300 ≤ m) {c d d0 : xm_Y} {n nb : Nat} {gc : Nat → Nat} {E : E_} (ct : CT_ c d n nb gc E) {x : S3_} (rb : rb3_ (sR_ x)) (rn : lown_ n (sR_ x)) (xb : s3b_ x) (tr : tri_ c 141 x) (e1 : ∀ q, q ≠ 150 → q ≠ 182 → q ≠ 160 → q ≠ 161 → q ≠ 162 → q ≠ 163 → q ≠ 164 → d0.1 q = d.1 q) (e00 : d0.1 150 0 = d.1 150 0) (e01 : d0.1 150 1 = d.1 150 1) (e2 : d0.2 155 = d.2 155) (mr : mR_ d0 x) {L : Nat → Bool} (hLc : ∀ b, b < nb → (c.1 143 b = -1 ↔ L b = true)) (hLd : ∀ b, b < nb → (d0.1 164 b = 0 ↔ L b = false)) {k : Nat} (hk : k < 5) : ∀ (r b f g a z : Nat) (u e : xm_Y), b + r = nb → r + 1 ≤ f → r + 1 ≤ g → rg_ c d0 nb (lq_ d n gc E (sR_ x) L) b u e → cnL_ (lq_ d n gc E (sR_ x) L) b + a = cnL_ L b → a + z = cnL_ L nb → ∃ (a' z' : Nat) (u' e' : xm_Y) (l l' : Int32), lp_X5_release_5 m (nI k) f (nI a) (nI b) u = some (nI a', l, u') ∧ lp_X12_rows_104 m (nI k) 1 g (nI z) (nI b) e = some (nI z', l', e') ∧ rg_ c d0 nb (lq_ d n gc E (sR_ x) L) nb u' e' ∧ cnL_ (lq_ d n gc E (sR_ x) L) nb + a' = cnL_ L nb ∧ a' + z' = cnL_ L nb
  | 0, b, f, g, a, z, u, e, hb, hf, hg, st, ca, cz => by
    obtain ⟨f', rfl⟩ : ∃ f', f = f' + 1 := ⟨f - 1, by omega⟩
    obtain ⟨g', rfl⟩ : ∃ g', g = g' + 1 := ⟨g - 1, by omega⟩
    have b5 := ct.2.2.1
    obtain rfl : b = nb := by omega
    refine ⟨a, z, u, e, nI b, nI b, ?_, ?_, st, ca, cz⟩
    · rw [lp_X5_release_5, show u.1 1 2 = nI b by rw [st.1.1 1 (by decide)]; exact ct.2.1, if_pos ((nIle (by omega) (by omega)).mpr (by omega))]
    · rw [lp_X12_rows_104, show e.1 150 1 = nI b from (st.2.1.2.1 1 (by decide) (by decide) (by decide)).trans (e01.trans ct.2.2.2.2.2.2.1), if_pos ((nIle (by omega) (by omega)).mpr (by omega))]
  | r + 1, b, f, g, a, z, u, e, hb, hf, hg, st, ca, cz => by
    obtain ⟨f', rfl⟩ : ∃ f', f = f' + 1 := ⟨f - 1, by omega⟩
    obtain ⟨g', rfl⟩ : ∃ g', g = g' + 1 := ⟨g - 1, by omega⟩
    have b5 := ct.2.2.1
    have lec := cnL_le L nb
    have cs : cnL_ L (b + 1) = cnL_ L b + (if L b = true then 1 else 0) := rfl
    have cs' : cnL_ (lq_ d n gc E (sR_ x) L) (b + 1) = cnL_ (lq_ d n gc E (sR_ x) L) b + (if lq_ d n gc E (sR_ x) L b = true then 1 else 0) := rfl
    have cm := cnL_mono L (a := b + 1) (b := nb) (by omega)
    rw [lp_X5_release_5, show u.1 1 2 = nI nb by rw [st.1.1 1 (by decide)]; exact ct.2.1, if_neg (fun z => absurd ((nIle (by omega) (by omega)).mp z) (by omega)), ck_t (nI_xi (by omega) (by omega)), nI_cl (by omega), (st.2.2.1 b (Nat.le_refl _)).1]
    rw [lp_X12_rows_104, show e.1 150 1 = nI nb from (st.2.1.2.1 1 (by decide) (by decide) (by decide)).trans (e01.trans ct.2.2.2.2.2.2.1), if_neg (fun z => absurd ((nIle (by omega) (by omega)).mp z) (by omega)), if_neg (show ¬ (1 : Int32) = 0 by decide), ck_t (nI_xi (by omega) (by omega)), nI_cl (by omega), (st.2.2.1 b (Nat.le_refl _)).2]
    by_cases lb : L b = true
    · rw [if_pos ((hLc b (by omega)).mpr lb), ck_t (nI_xi (by omega) (by omega)), if_neg (fun w => absurd ((hLd b (by omega)).mp w) (by rw [lb]; decide)), ck_t (by decide), ck_t (by decide), ck_t (by decide), st.2.1.1 182 (by decide) (by decide) (by decide), show d0.1 182 (Int32.toNatClampNeg 0) = _ from mr.1, show d0.1 182 (Int32.toNatClampNeg 1) = _ from mr.2.1, show d0.1 182 (Int32.toNatClampNeg 2) = _ from mr.2.2]
      have ctu : CT_ u d n nb gc E := CT_k ct (fun q hq => st.1.1 q (by omega)) (fun b hb => st.1.2 _ (fun b' _ => by omega))
      have tru : tri_ u 141 x := by unfold tri_; rw [st.1.1 141 (by decide)]; exact tr
      obtain ⟨y, u1, p1, p2, p3, p4⟩ := ev_ranksBy hm ctu (b := b) (s := 141) (by omega) rb rn (tri_R tru xb) (qf_.rf u)
      obtain ⟨t, v1, a1, a2, a3, a4⟩ := dq_ hm ct (b := b) (by omega) rb (x1 := iI x.1) (x2 := iI x.2.1) (x3 := iI x.2.2) (iI_t (nb_w xb.1 (by decide))) (iI_t (nb_w xb.2.1 (by decide))) (iI_t (nb_w xb.2.2 (by decide))) (d' := e) (fun k y1 y2 y3 y4 y5 y6 y7 => (st.2.1.1 k y1 y6 y7).trans (e1 k y1 y2 y3 y4 y5 y6 y7)) ((st.2.1.2.1 0 (by decide) (by decide) (by decide)).trans e00) ((st.2.1.2.2 155 (by decide) (by decide) (by decide)).trans e2)
      have key : rkk_ d n gc E b (sR_ x) ↔ 6 ≤ t := ⟨fun ⟨t', x, y⟩ => by rw [trl_u a4 y]; exact x, fun w => ⟨t, w, a4⟩⟩
      rw [p1, a1]
      simp only [Option.bind_some]
      have st1 := st.q p2 a3
      rw [if_pos lb] at cs
      by_cases rk : rkk_ d n gc E b (sR_ x)
      · have y1 : y = 1 := p4.mpr rk
        have ql := lq_t (L := L) rk
        rw [ql, if_neg (by decide)] at cs'
        obtain ⟨z', rfl⟩ : ∃ z', z = z' + 1 := ⟨z - 1, by omega⟩
        rw [if_neg (show ¬ y = 0 by rw [y1]; decide), if_neg (show ¬ nI t < 6 from fun z => absurd ((nIlt (b := 6) (by omega) (by omega)).mp z) (by have := key.mp rk; omega)), ck_t (nI_xi (by omega) (by omega)), ck_t (nI_xi (by omega) (by omega)), show vp_nar .boolean (0 : Int32) = 0 from rfl]
        simp only [Option.bind_some, xm_let]
        rw [ck_t (nI_xi (by omega) (by omega))]
        simp only [Option.bind_some]
        rw [nI_dn, ← nI_succ, ← nI_succ]
        exact rel_lp hm ct rb rn xb tr e1 e00 e01 e2 mr hLc hLd hk r (b + 1) f' g' (a + 1) z' _ _ (by omega) (by omega) (by omega) (st1.g (by omega) hk ql) (by omega) (by omega)
      · have y1 : y = 0 := by
          rcases p3 with w | w
          · exact w
          · exact absurd (p4.mp w) rk
        have ql := lq_f lb rk
        rw [if_pos ql] at cs'
        rw [if_pos y1, if_pos (show nI t < 6 from (nIlt (b := 6) (by omega) (by omega)).mpr (by have := mt key.mpr rk; omega))]
        simp only [Option.bind_some, xm_let]
        rw [← nI_succ]
        exact rel_lp hm ct rb rn xb tr e1 e00 e01 e2 mr hLc hLd hk r (b + 1) f' g' a z _ _ (by omega) (by omega) (by omega) (st1.k (by rw [ql]; exact (hLc b (by omega)).trans (by rw [lb])) (by rw [ql]; exact (hLd b (by omega)).trans (by rw [lb]))) (by omega) (by omega)
    · have lf : L b = false := by cases e : L b with
        | true => exact absurd e lb
        | false => rfl
      have ql := lq_n (d := d) (n := n) (gc := gc) (E := E) (R := sR_ x) lf
      rw [if_neg (by rw [lf]; decide)] at cs
      rw [if_neg (by rw [ql]; decide)] at cs'
      rw [if_neg (fun w => lb ((hLc b (by omega)).mp w)), if_pos ((hLd b (by omega)).mpr lf)]
      simp only [Option.bind_some, xm_let]
      rw [ck_t (nI_xi (by omega) (by omega)), ← nI_succ]
      exact rel_lp hm ct rb rn xb tr e1 e00 e01 e2 mr hLc hLd hk r (b + 1) f' g' a z _ _ (by omega) (by omega) (by omega) (st.k (by rw [ql]; exact (hLc b (by omega)).trans (by rw [lf])) (by rw [ql]; exact (hLd b (by omega)).trans (by rw [lf]))) (by omega) (by omega)
