/-! rows: does a sum take a row -/
def St_ (d : xm_Y) (n : Nat) (gc : Nat → Nat) (E : E_) (b : Nat) (R : V4_) : Prop := ∃ t, t % 2 = 1 ∧ TT_ d n gc E b R t
def tkp_ (d : xm_Y) (n nb : Nat) (gc : Nat → Nat) (E : E_) (L : Nat → Bool) (R : V4_) : Prop := (∀ b, b < nb → L b = true → St_ d n gc E b R) ∧ ∃ b, b < nb ∧ L b = true ∧ rkk_ d n gc E b R
theorem isr_lp {m : Nat} (hm : 300 ≤ m) {c d : xm_Y} {n nb : Nat} {gc : Nat → Nat} {E : E_} (ct : CT_ c d n nb gc E) {R : V4_} (rb : rb3_ R) (rn : lown_ n R) (hR : (c.1 141 0).toInt = R.1 ∧ (c.1 141 1).toInt = R.2.1 ∧ (c.1 141 2).toInt = R.2.2.1) {L : Nat → Bool} (hL : ∀ b, b < nb → (c.1 143 b = -1 ↔ L b = true)) : ∀ (r b f : Nat) (l3 : Int32) (u : xm_Y), b + r = nb → r + 1 ≤ f → qf_ c u → (l3 = 0 ∨ l3 = 1) → (l3 = 1 ↔ ∃ k, k < b ∧ L k = true ∧ rkk_ d n gc E k R) → (∀ k, k < b → L k = true → St_ d n gc E k R) → ∃ (x : Int32) (u' : xm_Y), (lp_X5_isRow_5 m f l3 (nI b) u).bind (Sum.elim (fun r => some r) (fun q13 => xm_chk (q13.1 = 0 ∨ q13.1 = 1) (some (q13.1, q13.2.2)))) = some (x, u') ∧ qf_ c u' ∧ (x = 0 ∨ x = 1) ∧ (x = 1 ↔ tkp_ d n nb gc E L R)
  | 0, b, f, l3, u, hb, hf, q, z1, z2, z3 => by
    obtain ⟨f', rfl⟩ : ∃ f', f = f' + 1 := ⟨f - 1, by omega⟩
    have b5 := ct.2.2.1
    obtain rfl : b = nb := by omega
    refine ⟨l3, u, ?_, q, z1, z2.trans ⟨fun w => ⟨z3, w⟩, fun w => w.2⟩⟩
    rw [lp_X5_isRow_5, q.1, ct.2.1, if_pos ((nIle (by omega) (by omega)).mpr (by omega))]
    simp only [Option.bind_some, Sum.elim]
    rw [ck_t z1]
  | r + 1, b, f, l3, u, hb, hf, q, z1, z2, z3 => by
    obtain ⟨f', rfl⟩ : ∃ f', f = f' + 1 := ⟨f - 1, by omega⟩
    have b5 := ct.2.2.1
    rw [lp_X5_isRow_5, q.1, ct.2.1, if_neg (fun z => absurd ((nIle (by omega) (by omega)).mp z) (by omega)), ck_t (nI_xi (by omega) (by omega)), nI_cl (by omega)]
    by_cases lb : L b = true
    · rw [if_pos ((hL b (by omega)).mpr lb), ck_t (nI_xi (by omega) (by omega))]
      obtain ⟨X, Y, Z, x1, y1, zz1, tt, kk⟩ := cq_ hm ct (b := b) (s := 141) (by omega) rb rn hR
      obtain ⟨-, -, ⟨u2, g2, g3⟩⟩ := kk u q
      rw [g2]
      simp only [Option.bind_some]
      have zz : Z = 0 ∨ Z = 1 := by omega
      rcases zz with rfl | rfl
      · rw [if_pos (show nI 0 = 0 from rfl)]
        refine ⟨0, u2, rfl, g3, Or.inl rfl, fun w => absurd w (by decide), fun w => ?_⟩
        obtain ⟨t, t1, t2⟩ := w.1 b (by omega) lb
        have := trl_u t2 tt
        omega
      · rw [if_neg (show ¬ nI 1 = 0 by decide)]
        have st : St_ d n gc E b R := ⟨_, by omega, tt⟩
        have z3' : ∀ k, k < b + 1 → L k = true → St_ d n gc E k R := fun k hk lk => by
          by_cases e : k = b
          · rw [e]; exact st
          · exact z3 k (by omega) lk
        rcases z1 with w | w
        · rw [if_pos w]
          obtain ⟨y, u3, a1, a2, a3, a4⟩ := ev_ranksBy hm ct (b := b) (s := 141) (by omega) rb rn hR g3
          rw [a1]
          simp only [Option.bind_some]
          have nx : (y = 1 ↔ ∃ k, k < b + 1 ∧ L k = true ∧ rkk_ d n gc E k R) := by
            rw [a4]
            constructor
            · intro h; exact ⟨b, by omega, lb, h⟩
            · rintro ⟨k, k1, k2, k3⟩
              by_cases e : k = b
              · rw [← e]; exact k3
              · have := z2.mpr ⟨k, by omega, k2, k3⟩
                exact absurd (w.symm.trans this) (by decide)
          obtain ⟨x, u', p1, p2, p3, p4⟩ := isr_lp hm ct rb rn hR hL r (b + 1) f' y u3 (by omega) (by omega) a2 a3 nx z3'
          refine ⟨x, u', ?_, p2, p3, p4⟩
          rw [nI_succ] at p1
          rcases a3 with e | e
          · rw [if_pos e]
            rw [e] at p1; exact p1
          · rw [if_neg (by rw [e]; decide)]
            rw [e] at p1; exact p1
        · rw [if_neg (by rw [w]; decide)]
          obtain ⟨k0, k1, k2, k3⟩ := z2.mp w
          obtain ⟨x, u', p1, p2, p3, p4⟩ := isr_lp hm ct rb rn hR hL r (b + 1) f' 1 u2 (by omega) (by omega) g3 (Or.inr rfl) ⟨fun _ => ⟨k0, by omega, k2, k3⟩, fun _ => rfl⟩ z3'
          refine ⟨x, u', ?_, p2, p3, p4⟩
          rw [nI_succ] at p1
          exact p1
    · rw [if_neg (fun w => lb ((hL b (by omega)).mp w))]
      obtain ⟨x, u', p1, p2, p3, p4⟩ := isr_lp hm ct rb rn hR hL r (b + 1) f' l3 u (by omega) (by omega) q z1 (z2.trans ⟨fun ⟨k, k1, k2, k3⟩ => ⟨k, by omega, k2, k3⟩, fun ⟨k, k1, k2, k3⟩ => by
        by_cases e : k = b
        · rw [e] at k2; exact absurd k2 lb
        · exact ⟨k, by omega, k2, k3⟩⟩) (fun k hk lk => by
        by_cases e : k = b
        · rw [e] at lk; exact absurd lk lb
        · exact z3 k (by omega) lk)
      refine ⟨x, u', ?_, p2, p3, p4⟩
      rw [nI_succ] at p1
      exact p1
theorem ev_isRow {m : Nat} (hm : 300 ≤ m) {c d : xm_Y} {n nb : Nat} {gc : Nat → Nat} {E : E_} (ct : CT_ c d n nb gc E) {R : V4_} (rb : rb3_ R) (rn : lown_ n R) (hR : (c.1 141 0).toInt = R.1 ∧ (c.1 141 1).toInt = R.2.1 ∧ (c.1 141 2).toInt = R.2.2.1) {L : Nat → Bool} (hL : ∀ b, b < nb → (c.1 143 b = -1 ↔ L b = true)) : ∃ (x : Int32) (u' : xm_Y), fn_X5_isRow m c = some (x, u') ∧ qf_ c u' ∧ (x = 0 ∨ x = 1) ∧ (x = 1 ↔ tkp_ d n nb gc E L R) := by
  have b5 := ct.2.2.1
  exact isr_lp hm ct rb rn hR hL nb 0 m 0 c (by omega) (by omega) (qf_.rf c) (Or.inl rfl) ⟨fun w => absurd w (by decide), fun ⟨k, k1, _⟩ => by omega⟩ (fun k hk => by omega)
theorem par8 {t : Nat} (h : t ≤ 7) : (nI t - nI t / 2 * 2 = 1) ↔ t % 2 = 1 := by
  have : t = 0 ∨ t = 1 ∨ t = 2 ∨ t = 3 ∨ t = 4 ∨ t = 5 ∨ t = 6 ∨ t = 7 := by omega
  rcases this with rfl | rfl | rfl | rfl | rfl | rfl | rfl | rfl <;> decide
def tkf_ (q15 : Int32 × Int32 × Int32 × xm_Y) : Option (Int32 × xm_Y) := ((if q15.1 = 0 then (some ((0 : Int32))) else (if q15.2.1 = 0 then (some ((0 : Int32))) else (some ((1 : Int32)))) : Option (Int32)).bind fun q16 => xm_chk (q16 = 0 ∨ q16 = 1) (some (q16, q15.2.2.2)))
theorem tk_lp {m : Nat} (hm : 300 ≤ m) {c d d0 : xm_Y} {n nb : Nat} {gc : Nat → Nat} {E : E_} (ct : CT_ c d n nb gc E) {x : S3_} (rb : rb3_ (sR_ x)) (xb : s3b_ x) (hd : ∀ q, q ≠ 150 → q ≠ 182 → q ≠ 160 → q ≠ 161 → q ≠ 162 → q ≠ 163 → q ≠ 164 → d0.1 q = d.1 q) (h0 : d0.1 150 0 = d.1 150 0) (h1 : d0.1 150 1 = d.1 150 1) (h155 : d0.2 155 = d.2 155) (mr : mR_ d0 x) {L : Nat → Bool} (hL : ∀ b, b < nb → (d0.1 164 b = 0 ↔ L b = false)) : ∀ (r b f : Nat) (l2 : Int32) (u : xm_Y), b + r = nb → r + 2 ≤ f → tf2_ d0 u → (l2 = 0 ∨ l2 = 1) → (l2 = 1 ↔ ∃ k, k < b ∧ L k = true ∧ rkk_ d n gc E k (sR_ x)) → (∀ k, k < b → L k = true → St_ d n gc E k (sR_ x)) → ∃ (y : Int32) (u' : xm_Y), (lp_X12_takes_6 m f 1 l2 (nI b) u).bind tkf_ = some (y, u') ∧ tf2_ d0 u' ∧ (y = 0 ∨ y = 1) ∧ (y = 1 ↔ tkp_ d n nb gc E L (sR_ x))
  | 0, b, f, l2, u, hb, hf, q, z1, z2, z3 => by
    obtain ⟨f', rfl⟩ : ∃ f', f = f' + 1 := ⟨f - 1, by omega⟩
    have b5 := ct.2.2.1
    obtain rfl : b = nb := by omega
    have e1 : u.1 150 1 = nI b := (q.2.1 1 (by decide) (by decide) (by decide)).trans (h1.trans ct.2.2.2.2.2.2.1)
    refine ⟨l2, u, ?_, q, z1, z2.trans ⟨fun w => ⟨z3, w⟩, fun w => w.2⟩⟩
    rw [lp_X12_takes_6, e1, if_pos ((nIle (by omega) (by omega)).mpr (by omega))]
    rcases z1 with w | w <;> rw [w] <;> rfl
  | r + 1, b, f, l2, u, hb, hf, q, z1, z2, z3 => by
    obtain ⟨f', rfl⟩ : ∃ f', f = f' + 1 := ⟨f - 1, by omega⟩
    have b5 := ct.2.2.1
    have e1 : u.1 150 1 = nI nb := (q.2.1 1 (by decide) (by decide) (by decide)).trans (h1.trans ct.2.2.2.2.2.2.1)
    rw [lp_X12_takes_6, e1, if_neg (fun z => absurd ((nIle (by omega) (by omega)).mp z) (by omega)), if_neg (by decide), ck_t (nI_xi (by omega) (by omega)), nI_cl (by omega), q.1 164 (by decide)]
    by_cases lb : L b = true
    · rw [if_neg (fun w => absurd ((hL b (by omega)).mp w) (by rw [lb]; decide)), ck_t (by decide), ck_t (by decide), ck_t (by decide), q.1 182 (by decide), show d0.1 182 (Int32.toNatClampNeg 0) = _ from mr.1, show d0.1 182 (Int32.toNatClampNeg 1) = _ from mr.2.1, show d0.1 182 (Int32.toNatClampNeg 2) = _ from mr.2.2]
      obtain ⟨t, u1, a1, a2, a3, a4⟩ := dq_ hm ct (b := b) (by omega) rb (x1 := iI x.1) (x2 := iI x.2.1) (x3 := iI x.2.2) (iI_t (nb_w xb.1 (by decide))) (iI_t (nb_w xb.2.1 (by decide))) (iI_t (nb_w xb.2.2 (by decide))) (d' := u) (fun k y1 y2 y3 y4 y5 y6 y7 => (q.1 k y1).trans (hd k y1 y2 y3 y4 y5 y6 y7)) ((q.2.1 0 (by decide) (by decide) (by decide)).trans h0) ((q.2.2 155 (by decide) (by decide) (by decide)).trans h155)
      have key : rkk_ d n gc E b (sR_ x) ↔ 6 ≤ t := ⟨fun ⟨t', x, y⟩ => by rw [trl_u a4 y]; exact x, fun w => ⟨t, w, a4⟩⟩
      have kst : St_ d n gc E b (sR_ x) ↔ t % 2 = 1 := ⟨fun ⟨t', x, y⟩ => by rw [trl_u a4 y]; exact x, fun w => ⟨t, w, a4⟩⟩
      rw [a1]
      simp only [Option.bind_some]
      rw [ck_t (by decide)]
      have nx : ∃ y : Int32, ((if l2 = 0 then (if nI t < 6 then some (0 : Int32) else some 1) else some 1) : Option Int32) = some y ∧ (y = 0 ∨ y = 1) ∧ (y = 1 ↔ ∃ k, k < b + 1 ∧ L k = true ∧ rkk_ d n gc E k (sR_ x)) := by
        rcases z1 with w | w
        · rw [if_pos w]
          by_cases q6 : 6 ≤ t
          · rw [if_neg (show ¬ nI t < 6 from fun z => absurd ((nIlt (b := 6) (by omega) (by omega)).mp z) (by omega))]
            exact ⟨1, rfl, Or.inr rfl, fun _ => ⟨b, by omega, lb, key.mpr q6⟩, fun _ => rfl⟩
          · rw [if_pos (show nI t < 6 from (nIlt (b := 6) (by omega) (by omega)).mpr (by omega))]
            refine ⟨0, rfl, Or.inl rfl, fun w => absurd w (by decide), fun ⟨k, k1, k2, k3⟩ => ?_⟩
            by_cases e : k = b
            · rw [e] at k3; exact absurd (key.mp k3) q6
            · have := z2.mpr ⟨k, by omega, k2, k3⟩
              exact absurd (w.symm.trans this) (by decide)
        · rw [if_neg (by rw [w]; decide)]
          obtain ⟨k0, k1, k2, k3⟩ := z2.mp w
          exact ⟨1, rfl, Or.inr rfl, fun _ => ⟨k0, by omega, k2, k3⟩, fun _ => rfl⟩
      obtain ⟨y, y1, y2, y3⟩ := nx
      rw [y1]
      by_cases p : t % 2 = 1
      · rw [if_pos ((par8 a2).mpr p)]
        simp only [Option.bind_some, xm_let]
        rw [← nI_succ]
        exact tk_lp hm ct rb xb hd h0 h1 h155 mr hL r (b + 1) f' y u1 (by omega) (by omega) (q.tr a3) y2 y3 (fun k hk lk => by
          by_cases e : k = b
          · rw [e]; exact kst.mpr p
          · exact z3 k (by omega) lk)
      · rw [if_neg (fun w => p ((par8 a2).mp w))]
        simp only [Option.bind_some, xm_let]
        obtain ⟨f'', rfl⟩ : ∃ f'', f' = f'' + 1 := ⟨f' - 1, by omega⟩
        refine ⟨0, u1, ?_, q.tr a3, Or.inl rfl, fun w => absurd w (by decide), fun w => absurd (kst.mp (w.1 b (by omega) lb)) p⟩
        rw [← nI_succ, lp_X12_takes_6]
        split
        · rfl
        · rw [if_pos rfl]; rfl
    · have lf : L b = false := by cases e : L b with
        | true => exact absurd e lb
        | false => rfl
      rw [if_pos ((hL b (by omega)).mpr lf)]
      simp only [Option.bind_some, xm_let]
      rw [← nI_succ]
      exact tk_lp hm ct rb xb hd h0 h1 h155 mr hL r (b + 1) f' l2 u (by omega) (by omega) q z1 (z2.trans ⟨fun ⟨k, k1, k2, k3⟩ => ⟨k, by omega, k2, k3⟩, fun ⟨k, k1, k2, k3⟩ => by
        by_cases e : k = b
        · rw [e] at k2; exact absurd k2 lb
        · exact ⟨k, by omega, k2, k3⟩⟩) (fun k hk lk => by
        by_cases e : k = b
        · rw [e] at lk; exact absurd lk lb
        · exact z3 k (by omega) lk)
theorem ev_takes {m : Nat} (hm : 300 ≤ m) {c d d0 : xm_Y} {n nb : Nat} {gc : Nat → Nat} {E : E_} (ct : CT_ c d n nb gc E) {x : S3_} (rb : rb3_ (sR_ x)) (xb : s3b_ x) (hd : ∀ q, q ≠ 150 → q ≠ 182 → q ≠ 160 → q ≠ 161 → q ≠ 162 → q ≠ 163 → q ≠ 164 → d0.1 q = d.1 q) (h0 : d0.1 150 0 = d.1 150 0) (h1 : d0.1 150 1 = d.1 150 1) (h155 : d0.2 155 = d.2 155) (mr : mR_ d0 x) {L : Nat → Bool} (hL : ∀ b, b < nb → (d0.1 164 b = 0 ↔ L b = false)) : ∃ (y : Int32) (u' : xm_Y), fn_X12_takes m d0 = some (y, u') ∧ tf2_ d0 u' ∧ (y = 0 ∨ y = 1) ∧ (y = 1 ↔ tkp_ d n nb gc E L (sR_ x)) := by
  have b5 := ct.2.2.1
  exact tk_lp hm ct rb xb hd h0 h1 h155 mr hL nb 0 m 0 d0 (by omega) (by omega) (tf2_.rf d0) (Or.inl rfl) ⟨fun w => absurd w (by decide), fun ⟨k, k1, _⟩ => by omega⟩ (fun k hk => by omega)
/-! the first sum that takes a row -/
def aC_ (m f : Nat) (l : Nat) (u : xm_Y) : Option (Int32 × xm_Y) := (lp_X5_seekRow_14 m f (nI l) u).bind (Sum.elim (fun r => some r) (fun q8 => some ((0 : Int32), q8.2)))
theorem rowk_lp {m : Nat} (hm : 3100 ≤ m) {c d d0 : xm_Y} {n nb : Nat} {gc : Nat → Nat} {E : E_} (ct : CT_ c d n nb gc E) (e1 : ∀ q, q ≠ 150 → q ≠ 182 → q ≠ 160 → q ≠ 161 → q ≠ 162 → q ≠ 163 → q ≠ 164 → d0.1 q = d.1 q) (e00 : d0.1 150 0 = d.1 150 0) (e01 : d0.1 150 1 = d.1 150 1) (e2 : d0.2 155 = d.2 155) {L : Nat → Bool} (hLc : ∀ b, b < nb → (c.1 143 b = -1 ↔ L b = true)) (hLd : ∀ b, b < nb → (d0.1 164 b = 0 ↔ L b = false)) {s : Int} (h1 : 1 ≤ s) (h5 : s ≤ 5) : ∀ (k f g l : Nat) (u0 u1 d1 : xm_Y) (x : S3_), okw_ s n k x = true → k + 1 ≤ f → k + 2 ≤ g → l + k ≤ 3000 → fn_X10_next m u0 = some (1, u1) → vf_ c u1 → mC_ u1 s n x (tot_ x) → dfr_ d0 d1 → mR_ d1 x → (∃ u' d', aC_ m f l u0 = some (0, u') ∧ vf_ c u' ∧ lp_X12_rows_75 m (iI s) g 1 d1 = some (0, d') ∧ dfr_ d0 d') ∨ (∃ y u' d', aC_ m f l u0 = some (1, u') ∧ vf_ c u' ∧ lp_X12_rows_75 m (iI s) g 1 d1 = some (1, d') ∧ dfr_ d0 d' ∧ tri_ u' 141 y ∧ mR_ d' y ∧ cub_ s n y = true ∧ tkp_ d n nb gc E L (sR_ y))
  | 0, f, g, l, u0, u1, d1, x, ok, _, _, _, _, _, _, _, _ => by cases ok
  | k + 1, f, g, l, u0, u1, d1, x, ok, hf, hg, hl, hx, vf, mc, df, mr => by
    obtain ⟨f', rfl⟩ : ∃ f', f = f' + 1 := ⟨f - 1, by omega⟩
    obtain ⟨g', rfl⟩ : ∃ g', g = g' + 1 := ⟨g - 1, by omega⟩
    have n1 := ct.2.2.2.1
    have n3 := ct.2.2.2.2.1
    obtain ⟨cu, o, oC, oR, oy⟩ := okw_s ok
    obtain ⟨rb, rn, xb⟩ := cub_R h1 h5 n1 cu
    have t141 : tri_ u1 141 x := ⟨mc.2.2.2.2.2.1, mc.2.2.2.2.2.2.1, mc.2.2.2.2.2.2.2⟩
    have hR := tri_R t141 xb
    have ct1 := CT_v ct vf
    obtain ⟨r, u2, q1, q2, q3, q4⟩ := ev_isRow (m := m) (by omega) ct1 rb rn hR (L := L) (fun b hb => by rw [vf.1 143 (by decide) (by decide)]; exact hLc b hb)
    obtain ⟨r', d2, s1, s2, s3, s4⟩ := ev_takes (m := m) (by omega) ct rb xb (d0 := d1) (fun q a b a3 a4 a5 a6 a7 => (df.1 q a b).trans (e1 q a b a3 a4 a5 a6 a7)) ((df.2.1 0 (by decide) (by decide) (by decide)).trans e00) ((df.2.1 1 (by decide) (by decide) (by decide)).trans e01) ((df.2.2 155 (by decide) (by decide) (by decide)).trans e2) mr (L := L) (fun b hb => by rw [df.1 164 (by decide) (by decide)]; exact hLd b hb)
    have er : r = r' := x01 q3 s3 q4 s4
    subst er
    have mr2 := mR_t mr s2
    have df2 := df.tr (tf2_d s2)
    have cC : aC_ m (f' + 1) l u0 = (((fn_X5_isRow m u1).bind fun q5 => if q5.1 = 0 then lp_X5_seekRow_14 m f' (nI l + 1) q5.2 else some (Sum.inl ((1 : Int32), q5.2))).bind (Sum.elim (fun r => some r) (fun q8 => some ((0 : Int32), q8.2)))) := by
      unfold aC_
      rw [lp_X5_seekRow_14, if_neg (show ¬ (4000 : Int32) ≤ nI l from fun q => absurd ((nIle (a := 4000) (by omega) (by omega)).mp q) (by omega)), hx]
      rfl
    have cR : lp_X12_rows_75 m (iI s) (g' + 1) 1 d1 = ((fn_X12_takes m d1).bind fun q16 => if q16.1 = 0 then ((fn_X12_nextSum m (iI s) q16.2).bind fun q18 => lp_X12_rows_75 m (iI s) g' q18.1 q18.2) else some (1, q16.2)) := by
      rw [lp_X12_rows_75, if_neg (by decide)]
    rw [cC, cR, q1, s1]
    simp only [Option.bind_some]
    rcases q3 with w | w
    · rw [w, if_pos rfl]
      simp only [if_true]
      obtain ⟨u3, p1, p2, p3⟩ := ev_nextC hm h1 h5 (mC_q mc q2) cu oC
      obtain ⟨d3, r1, r2, r3⟩ := ev_nextR hm h1 h5 n1 n3 (by rw [df2.2.1 0 (by decide) (by decide) (by decide), e00]; exact ct.2.2.2.2.2.1) mr2 xb oR
      have vf3 : vf_ c u3 := (vf.tr (qf_v q2)).tr (xf_v p2)
      have df3 := df2.tr (yf_d r2)
      rw [r1]
      simp only [Option.bind_some]
      cases o with
      | none =>
        left
        obtain ⟨f'', rfl⟩ : ∃ f'', f' = f'' + 1 := ⟨f' - 1, by omega⟩
        obtain ⟨g'', rfl⟩ : ∃ g'', g' = g'' + 1 := ⟨g' - 1, by omega⟩
        refine ⟨u3, d3, ?_, vf3, ?_, df3⟩
        · rw [← nI_succ, lp_X5_seekRow_14, if_neg (show ¬ (4000 : Int32) ≤ nI (l + 1) from fun q => absurd ((nIle (a := 4000) (by omega) (by omega)).mp q) (by omega)), p1]
          rfl
        · rw [lp_X12_rows_75, if_pos (show (if (none : Option S3_).isSome = true then (1 : Int32) else 0) = 0 from rfl)]; rfl
      | some y =>
        have go := rowk_lp hm ct e1 e00 e01 e2 hLc hLd h1 h5 k f' g' (l + 1) u2 u3 d3 y (oy y rfl) (by omega) (by omega) (by omega) p1 vf3 (p3 y rfl) df3 (r3 y rfl).1
        unfold aC_ at go
        rw [nI_succ] at go
        exact go
    · right
      rw [w, if_neg (by decide), if_neg (by decide)]
      exact ⟨x, u2, d2, rfl, vf.tr (qf_v q2), rfl, df2, by unfold tri_; rw [q2.1]; exact t141, mr2, cu, q4.mp w⟩
