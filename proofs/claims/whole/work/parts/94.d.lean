/-! the reference's sums -/
def mR_ (u : xm_Y) (x : S3_) : Prop := u.1 182 0 = iI x.1 ∧ u.1 182 1 = iI x.2.1 ∧ u.1 182 2 = iI x.2.2
def yf_ (c u : xm_Y) : Prop := (∀ q, q ≠ 182 → u.1 q = c.1 q) ∧ u.2 = c.2
theorem yf_.rf (c : xm_Y) : yf_ c c := ⟨fun _ _ => rfl, rfl⟩
theorem yf_.tr {x y z : xm_Y} (h : yf_ x y) (g : yf_ y z) : yf_ x z := ⟨fun q a => (g.1 q a).trans (h.1 q a), g.2.trans h.2⟩
theorem yf_.w {x y : xm_Y} (h : yf_ x y) {j : Nat} {v : Int32} : yf_ x (w_I y 182 j v) := ⟨fun q a => (rI_nc a).trans (h.1 q a), h.2⟩
def s3b_ (x : S3_) : Prop := nb_ 10 x.1 ∧ nb_ 10 x.2.1 ∧ nb_ 10 x.2.2
theorem rst1 {s : Int} {x : S3_} : rst_ s 1 x = if x.1 < s then some (x.1 + 1, x.2.1, x.2.2) else none := by
  unfold rst_
  rw [if_neg (fun w => absurd w.1 (by decide)), if_neg (fun w => absurd w.1 (by decide)), if_neg (show ¬ 2 ≤ 1 by decide), if_neg (show ¬ 3 ≤ 1 by decide)]
theorem rst2 {s : Int} {x : S3_} : rst_ s 2 x = if x.2.1 < s then some (x.1, x.2.1 + 1, x.2.2) else if x.1 < s then some (x.1 + 1, -s, x.2.2) else none := by
  unfold rst_
  rw [if_neg (fun w => absurd w.1 (by decide)), if_pos (show 2 ≤ 2 by decide), if_neg (show ¬ 3 ≤ 2 by decide)]
  by_cases q : x.2.1 < s
  · rw [if_pos ⟨Nat.le_refl _, q⟩, if_pos q]
  · rw [if_neg (fun w => q w.2), if_neg q]
theorem rst3 {s : Int} {x : S3_} : rst_ s 3 x = if x.2.2 < s then some (x.1, x.2.1, x.2.2 + 1) else if x.2.1 < s then some (x.1, x.2.1 + 1, -s) else if x.1 < s then some (x.1 + 1, -s, -s) else none := by
  unfold rst_
  rw [if_pos (show 2 ≤ 3 by decide), if_pos (show 3 ≤ 3 by decide)]
  by_cases q : x.2.2 < s
  · rw [if_pos ⟨Nat.le_refl _, q⟩, if_pos q]
  · rw [if_neg (fun w => q w.2), if_neg q]
    by_cases w : x.2.1 < s
    · rw [if_pos ⟨show 2 ≤ 3 by decide, w⟩, if_pos w]
    · rw [if_neg (fun z => w z.2), if_neg w]
theorem ev_stp {m : Nat} (hm : 10 ≤ m) {u : xm_Y} {s : Int} {n : Nat} (h1 : 1 ≤ s) (h5 : s ≤ 5) (n1 : 1 ≤ n) (n3 : n ≤ 3) (hn : u.1 150 0 = nI n) {x : S3_} (h : mR_ u x) (xb : s3b_ x) : ∃ u', fn_X12_step m (iI s) u = some (if (rst_ s n x).isSome = true then 1 else 0, u') ∧ yf_ u u' ∧ ∀ y, rst_ s n x = some y → mR_ u' y := by
  obtain ⟨c0, c1, c2⟩ := h
  obtain ⟨f, rfl⟩ : ∃ f, m = f + 4 := ⟨m - 4, by omega⟩
  have ns : nb_ 1000 s := by unfold nb_; omega
  have n0 : nb_ 1000 x.1 := nb_w xb.1 (by decide)
  have n1' : nb_ 1000 x.2.1 := nb_w xb.2.1 (by decide)
  have n2 : nb_ 1000 x.2.2 := nb_w xb.2.2 (by decide)
  -- one place
  have one : ∀ (k g : Nat) (v : xm_Y) (a : Int), k < 3 → v.1 182 k = iI a → nb_ 1000 a → (a < s → lp_X12_step_7 (f + 4) (iI s) (g + 1) (nI k) v = some (.inl (1, w_I v 182 k (iI (a + 1))))) ∧ (¬ a < s → lp_X12_step_7 (f + 4) (iI s) (g + 1) (nI k) v = lp_X12_step_7 (f + 4) (iI s) g (nI k + (-1 : Int32)) (w_I v 182 k (iI (-s)))) := by
    intro k g v a hk hv na
    have e : lp_X12_step_7 (f + 4) (iI s) (g + 1) (nI k) v = if iI s ≤ iI a then lp_X12_step_7 (f + 4) (iI s) g (nI k + (-1 : Int32)) (w_I v 182 k (iI (-s))) else some (.inl (1, w_I v 182 k (iI (a + 1)))) := by
      rw [lp_X12_step_7, if_neg (show ¬ nI k < 0 from fun q => absurd ((nIlt (b := 0) (by omega) (by omega)).mp q) (by omega)), nI_cl (by omega), hv]
      simp only [ck_t (show xm_in (nI k) 3 from nI_xi hk (by omega)), xm_let]
      rw [iI_n, show iI a + 1 = iI (a + 1) from iI_a a 1]
    rw [e]
    exact ⟨fun q => by rw [if_neg (fun w => absurd ((iI_le ns na).mp w) (by omega))], fun q => by rw [if_pos ((iI_le ns na).mpr (by omega))]⟩
  have stop : ∀ (g : Nat) (v : xm_Y), lp_X12_step_7 (f + 4) (iI s) (g + 1) (nI 0 + (-1 : Int32)) v = some (.inr (nI 0 + (-1 : Int32), v)) := fun g v => by rw [lp_X12_step_7, if_pos (by decide)]
  have en : ∀ k : Nat, nI (k + 1) - 1 = nI k := fun k => nI_pd k
  rw [fn_X12_step, hn]
  simp only [xm_let]
  rcases lt3n n1 n3 with rfl | rfl | rfl
  · rw [show nI 1 - 1 = nI 0 from en 0, rst1]
    obtain ⟨o1, o2⟩ := one 0 (f + 3) u x.1 (by omega) c0 n0
    by_cases q : x.1 < s
    · rw [o1 q, if_pos q]
      refine ⟨_, rfl, (yf_.rf u).w, fun y hy => ?_⟩
      cases hy
      exact ⟨rI_eq, (rI_ne (by omega)).trans c1, (rI_ne (by omega)).trans c2⟩
    · rw [o2 q, stop, if_neg q]
      exact ⟨_, rfl, (yf_.rf u).w, fun y hy => by cases hy⟩
  · rw [show nI 2 - 1 = nI 1 from en 1, rst2]
    obtain ⟨o1, o2⟩ := one 1 (f + 3) u x.2.1 (by omega) c1 n1'
    by_cases q : x.2.1 < s
    · rw [o1 q, if_pos q]
      refine ⟨_, rfl, (yf_.rf u).w, fun y hy => ?_⟩
      cases hy
      exact ⟨(rI_ne (by omega)).trans c0, rI_eq, (rI_ne (by omega)).trans c2⟩
    · rw [o2 q, show nI 1 + (-1 : Int32) = nI 0 from nI_dn 0, if_neg q]
      obtain ⟨p1, p2⟩ := one 0 (f + 2) (w_I u 182 1 (iI (-s))) x.1 (by omega) ((rI_ne (by omega)).trans c0) n0
      by_cases w : x.1 < s
      · rw [p1 w, if_pos w]
        refine ⟨_, rfl, ((yf_.rf u).w).w, fun y hy => ?_⟩
        cases hy
        exact ⟨rI_eq, (rI_ne (by omega)).trans rI_eq, (rI_ne (by omega)).trans ((rI_ne (by omega)).trans c2)⟩
      · rw [p2 w, stop, if_neg w]
        exact ⟨_, rfl, ((yf_.rf u).w).w, fun y hy => by cases hy⟩
  · rw [show nI 3 - 1 = nI 2 from en 2, rst3]
    obtain ⟨o1, o2⟩ := one 2 (f + 3) u x.2.2 (by omega) c2 n2
    by_cases q : x.2.2 < s
    · rw [o1 q, if_pos q]
      refine ⟨_, rfl, (yf_.rf u).w, fun y hy => ?_⟩
      cases hy
      exact ⟨(rI_ne (by omega)).trans c0, (rI_ne (by omega)).trans c1, rI_eq⟩
    · rw [o2 q, show nI 2 + (-1 : Int32) = nI 1 from nI_dn 1, if_neg q]
      obtain ⟨p1, p2⟩ := one 1 (f + 2) (w_I u 182 2 (iI (-s))) x.2.1 (by omega) ((rI_ne (by omega)).trans c1) n1'
      by_cases w : x.2.1 < s
      · rw [p1 w, if_pos w]
        refine ⟨_, rfl, ((yf_.rf u).w).w, fun y hy => ?_⟩
        cases hy
        exact ⟨(rI_ne (by omega)).trans ((rI_ne (by omega)).trans c0), rI_eq, (rI_ne (by omega)).trans rI_eq⟩
      · rw [p2 w, show nI 1 + (-1 : Int32) = nI 0 from nI_dn 0, if_neg w]
        obtain ⟨t1, t2⟩ := one 0 (f + 1) (w_I (w_I u 182 2 (iI (-s))) 182 1 (iI (-s))) x.1 (by omega) ((rI_ne (by omega)).trans ((rI_ne (by omega)).trans c0)) n0
        by_cases z : x.1 < s
        · rw [t1 z, if_pos z]
          refine ⟨_, rfl, (((yf_.rf u).w).w).w, fun y hy => ?_⟩
          cases hy
          exact ⟨rI_eq, (rI_ne (by omega)).trans rI_eq, (rI_ne (by omega)).trans ((rI_ne (by omega)).trans rI_eq)⟩
        · rw [t2 z, stop, if_neg z]
          exact ⟨_, rfl, (((yf_.rf u).w).w).w, fun y hy => by cases hy⟩
theorem rst_b {s : Int} {n : Nat} {x y : S3_} (h1 : 1 ≤ s) (h5 : s ≤ 5) (xb : s3b_ x) (h : rst_ s n x = some y) : s3b_ y := by
  obtain ⟨a, b, c⟩ := xb
  unfold rst_ at h
  unfold nb_ at a b c
  by_cases q : 3 ≤ n ∧ x.2.2 < s
  · rw [if_pos q] at h; cases h
    exact ⟨by unfold nb_; simp only; omega, by unfold nb_; simp only; omega, by unfold nb_; simp only; omega⟩
  · rw [if_neg q] at h
    by_cases w : 2 ≤ n ∧ x.2.1 < s
    · rw [if_pos w] at h; cases h
      refine ⟨by unfold nb_; simp only; omega, by unfold nb_; simp only; omega, ?_⟩
      unfold nb_; simp only; split <;> omega
    · rw [if_neg w] at h
      by_cases z : x.1 < s
      · rw [if_pos z] at h; cases h
        refine ⟨by unfold nb_; simp only; omega, ?_, ?_⟩
        · unfold nb_; simp only; split <;> omega
        · unfold nb_; simp only; split <;> omega
      · rw [if_neg z] at h; cases h
theorem tot_b {x : S3_} (h : s3b_ x) : nb_ 30 (tot_ x) := nb_a (nb_a (ab_b h.1) (ab_b h.2.1)) (ab_b h.2.2)
theorem r37_lp {m : Nat} (hm : 10 ≤ m) {s all : Int} {n : Nat} (h1 : 1 ≤ s) (h5 : s ≤ 5) (n1 : 1 ≤ n) (n3 : n ≤ 3) (na : nb_ 100 all) : ∀ (k f : Nat) (u : xm_Y) (x : S3_) (o : Option S3_), k + 1 ≤ f → u.1 150 0 = nI n → mR_ u x → s3b_ x → r37_ s n all k x = some o → ∃ u', lp_X12_nextSum_37 m (iI s) (iI all) f u = some (match o with | none => .inr u' | some _ => .inl (1, u')) ∧ yf_ u u' ∧ ∀ y, o = some y → mR_ u' y ∧ s3b_ y
  | 0, f, u, x, o, hf, hn, h, xb, hr => by cases hr
  | k + 1, f, u, x, o, hf, hn, h, xb, hr => by
    obtain ⟨f', rfl⟩ : ∃ f', f = f' + 1 := ⟨f - 1, by omega⟩
    have hr : (match rst_ s n x with | none => some none | some y => if tot_ y = all then some (some y) else r37_ s n all k y) = some o := hr
    obtain ⟨u1, a1, a2, a3⟩ := ev_stp (m := m) hm h1 h5 n1 n3 hn h xb
    rw [lp_X12_nextSum_37, a1]
    simp only [Option.bind_some]
    cases e : rst_ s n x with
    | none =>
      rw [e] at hr
      have hr : some none = some o := hr
      cases hr
      exact ⟨u1, rfl, a2, fun y hy => by cases hy⟩
    | some y =>
      rw [e] at hr
      have hr : (if tot_ y = all then some (some y) else r37_ s n all k y) = some o := hr
      have yb := rst_b h1 h5 xb e
      obtain ⟨y0, y1, y2⟩ := a3 y e
      rw [show (some y).isSome = true from rfl, if_pos rfl, if_neg (by decide), ck_t (by decide), show u1.1 182 (Int32.toNatClampNeg 0) = iI y.1 from y0, ev_ab (nb_w yb.1 (by decide))]
      simp only [Option.bind_some]
      rw [ck_t (by decide), show u1.1 182 (Int32.toNatClampNeg 1) = iI y.2.1 from y1, ev_ab (nb_w yb.2.1 (by decide))]
      simp only [Option.bind_some]
      rw [ck_t (by decide), show u1.1 182 (Int32.toNatClampNeg 2) = iI y.2.2 from y2, ev_ab (nb_w yb.2.2 (by decide))]
      simp only [Option.bind_some]
      rw [iI_a, iI_a, show ab_ y.1 + ab_ y.2.1 + ab_ y.2.2 = tot_ y from rfl]
      by_cases q : tot_ y = all
      · rw [if_pos q] at hr
        cases hr
        rw [if_pos (by rw [q])]
        exact ⟨u1, rfl, a2, fun z hz => by cases hz; exact ⟨⟨y0, y1, y2⟩, yb⟩⟩
      · rw [if_neg q] at hr
        rw [if_neg (fun w => q ((iI_e (nb_w (tot_b yb) (by decide)) (nb_w na (by decide))).mp w))]
        obtain ⟨u', p1, p2, p3⟩ := r37_lp hm h1 h5 n1 n3 na k f' u1 y o (by omega) ((a2.1 150 (by decide) ▸ hn : u1.1 150 0 = nI n)) ⟨y0, y1, y2⟩ yb hr
        exact ⟨u', p1, a2.tr p2, p3⟩
theorem r85 {m : Nat} (hm : 10 ≤ m) {u : xm_Y} {s : Int} {n : Nat} (n1 : 1 ≤ n) (n3 : n ≤ 3) (hn : u.1 150 0 = nI n) : ∃ l u', lp_X12_nextSum_85 m (iI s) m (0 : Int32) u = some (l, u') ∧ yf_ u u' ∧ mR_ u' (rz_ s n) := by
  obtain ⟨f, rfl⟩ : ∃ f, m = f + 4 := ⟨m - 4, by omega⟩
  have one : ∀ (k g : Nat) (v : xm_Y), k < 3 → v.1 150 0 = nI n → lp_X12_nextSum_85 (f + 4) (iI s) (g + 1) (nI k) v = lp_X12_nextSum_85 (f + 4) (iI s) g (nI (k + 1)) (w_I v 182 k (if n ≤ k then 0 else iI (-s))) := by
    intro k g v hk hv
    rw [lp_X12_nextSum_85, if_neg (show ¬ (3 : Int32) ≤ nI k from fun q => absurd ((nIle (a := 3) (by omega) (by omega)).mp q) (by omega)), hv]
    by_cases q : n ≤ k
    · rw [if_pos ((nIle (by omega) (by omega)).mpr q), if_pos q]
      simp only [Option.bind_some, xm_let]
      rw [ck_t (nI_xi hk (by omega)), nI_cl (by omega), ← nI_succ]
    · rw [if_neg (fun w => q ((nIle (by omega) (by omega)).mp w)), if_neg q]
      simp only [Option.bind_some, xm_let]
      rw [ck_t (nI_xi hk (by omega)), nI_cl (by omega), ← nI_succ, iI_n]
  have h150 : ∀ (v : xm_Y) (j : Nat) (w : Int32), (w_I v 182 j w).1 150 0 = v.1 150 0 := fun v j w => rI_ne (by omega)
  refine ⟨nI 3, w_I (w_I (w_I u 182 0 (if n ≤ 0 then 0 else iI (-s))) 182 1 (if n ≤ 1 then 0 else iI (-s))) 182 2 (if n ≤ 2 then 0 else iI (-s)), ?_, (((yf_.rf u).w).w).w, ?_⟩
  · rw [show lp_X12_nextSum_85 (f + 4) (iI s) (f + 4) (0 : Int32) u = _ from one 0 (f + 3) u (by omega) hn, one 1 (f + 2) _ (by omega) (by rw [h150]; exact hn), one 2 (f + 1) _ (by omega) (by rw [h150, h150]; exact hn), lp_X12_nextSum_85, if_pos (by decide)]
  · unfold rz_
    refine ⟨?_, ?_, ?_⟩
    · rw [rI_ne (by omega), rI_ne (by omega), rI_eq, if_neg (by omega)]
    · rw [rI_ne (by omega), rI_eq]
      show _ = iI (if 2 ≤ n then -s else 0)
      by_cases q : n ≤ 1
      · rw [if_pos q, if_neg (by omega)]; rfl
      · rw [if_neg q, if_pos (by omega)]
    · rw [rI_eq]
      show _ = iI (if 3 ≤ n then -s else 0)
      by_cases q : n ≤ 2
      · rw [if_pos q, if_neg (by omega)]; rfl
      · rw [if_neg q, if_pos (by omega)]
theorem rz_b {s : Int} {n : Nat} (h1 : 1 ≤ s) (h5 : s ≤ 5) : s3b_ (rz_ s n) := by
  unfold rz_ s3b_ nb_
  refine ⟨by simp only; omega, ?_, ?_⟩ <;> (simp only; split <;> omega)
theorem r30_lp {m : Nat} (hm : 3100 ≤ m) {s : Int} {n : Nat} (h1 : 1 ≤ s) (h5 : s ≤ 5) (n1 : 1 ≤ n) (n3 : n ≤ 3) : ∀ (k f : Nat) (u : xm_Y) (all : Int) (x : S3_) (o : Option S3_), k + 1 ≤ f → 0 ≤ all → all ≤ 40 → u.1 150 0 = nI n → mR_ u x → s3b_ x → r30_ s n k all x = some o → ∃ u', (lp_X12_nextSum_30 m (iI s) f (iI all) u).bind (Sum.elim (fun r => some r) (fun q25 => some ((0 : Int32), q25.2))) = some (if o.isSome = true then 1 else 0, u') ∧ yf_ u u' ∧ ∀ y, o = some y → mR_ u' y ∧ s3b_ y
  | 0, f, u, all, x, o, hf, a0, a40, hn, h, xb, hr => by cases hr
  | k + 1, f, u, all, x, o, hf, a0, a40, hn, h, xb, hr => by
    obtain ⟨f', rfl⟩ : ∃ f', f = f' + 1 := ⟨f - 1, by omega⟩
    have hr : (if 3 * s < all then some none else match r37_ s n all 2000 x with | none => none | some (some y) => some (some y) | some none => if tot_ (rz_ s n) = all + 1 then some (some (rz_ s n)) else r30_ s n k (all + 1) (rz_ s n)) = some o := hr
    rw [lp_X12_nextSum_30, show (3 : Int32) * iI s = iI (3 * s) from iI_m 3 s]
    by_cases q : 3 * s < all
    · rw [if_pos q] at hr
      cases hr
      rw [if_pos ((iI_lt (by unfold nb_; omega) (by unfold nb_; omega)).mpr q)]
      exact ⟨u, rfl, yf_.rf u, fun y hy => by cases hy⟩
    · rw [if_neg q] at hr
      rw [if_neg (fun w => q ((iI_lt (by unfold nb_; omega) (by unfold nb_; omega)).mp w))]
      cases e : r37_ s n all 2000 x with
      | none => rw [e] at hr; cases hr
      | some o1 =>
        obtain ⟨u1, b1, b2, b3⟩ := r37_lp (m := m) (by omega) h1 h5 n1 n3 (show nb_ 100 all by unfold nb_; omega) 2000 m u x o1 (by omega) hn h xb e
        rw [b1]
        cases o1 with
        | some y =>
          rw [e] at hr
          have hr : some (some y) = some o := hr
          cases hr
          exact ⟨u1, rfl, b2, fun z hz => by cases hz; exact b3 y rfl⟩
        | none =>
          rw [e] at hr
          have hr : (if tot_ (rz_ s n) = all + 1 then some (some (rz_ s n)) else r30_ s n k (all + 1) (rz_ s n)) = some o := hr
          simp only [Option.bind_some, Sum.elim, xm_let]
          have hn1 : u1.1 150 0 = nI n := by rw [b2.1 150 (by decide)]; exact hn
          obtain ⟨l2, u2, c1, c2, c3⟩ := r85 (m := m) (s := s) (by omega) n1 n3 hn1
          rw [c1]
          obtain ⟨z0, z1, z2⟩ := id c3
          have zb := rz_b (n := n) h1 h5
          simp only [Option.bind_some]
          rw [ck_t (by decide), show u2.1 182 (Int32.toNatClampNeg 0) = _ from z0, ev_ab (nb_w zb.1 (by decide))]
          simp only [Option.bind_some]
          rw [ck_t (by decide), show u2.1 182 (Int32.toNatClampNeg 1) = _ from z1, ev_ab (nb_w zb.2.1 (by decide))]
          simp only [Option.bind_some]
          rw [ck_t (by decide), show u2.1 182 (Int32.toNatClampNeg 2) = _ from z2, ev_ab (nb_w zb.2.2 (by decide))]
          simp only [Option.bind_some]
          rw [iI_a, iI_a, show iI all + 1 = iI (all + 1) from iI_a all 1, show ab_ (rz_ s n).1 + ab_ (rz_ s n).2.1 + ab_ (rz_ s n).2.2 = tot_ (rz_ s n) from rfl]
          by_cases w : tot_ (rz_ s n) = all + 1
          · rw [if_pos w] at hr
            cases hr
            rw [if_pos (by rw [w])]
            exact ⟨u2, rfl, b2.tr c2, fun z hz => by cases hz; exact ⟨c3, zb⟩⟩
          · rw [if_neg w] at hr
            rw [if_neg (fun v => w ((iI_e (nb_w (tot_b zb) (by decide)) (by unfold nb_; omega)).mp v))]
            obtain ⟨u', p1, p2, p3⟩ := r30_lp hm h1 h5 n1 n3 k f' u2 (all + 1) (rz_ s n) o (by omega) (by omega) (by omega) (by rw [c2.1 150 (by decide)]; exact hn1) c3 zb hr
            exact ⟨u', p1, (b2.tr c2).tr p2, p3⟩
theorem ev_nextR {m : Nat} (hm : 3100 ≤ m) {u : xm_Y} {s : Int} {n : Nat} (h1 : 1 ≤ s) (h5 : s ≤ 5) (n1 : 1 ≤ n) (n3 : n ≤ 3) (hn : u.1 150 0 = nI n) {x : S3_} (h : mR_ u x) (xb : s3b_ x) {o : Option S3_} (hr : nR_ s n x = some o) : ∃ u', fn_X12_nextSum m (iI s) u = some (if o.isSome = true then 1 else 0, u') ∧ yf_ u u' ∧ ∀ y, o = some y → mR_ u' y ∧ s3b_ y := by
  obtain ⟨z0, z1, z2⟩ := id h
  have tb := tot_b xb
  have t0 : 0 ≤ tot_ x := by
    unfold tot_ ab_
    split <;> split <;> split <;> omega
  unfold nb_ at tb
  obtain ⟨u', p1, p2, p3⟩ := r30_lp (m := m) hm h1 h5 n1 n3 20 m u (tot_ x) x o (by omega) t0 (by omega) hn h xb hr
  refine ⟨u', ?_, p2, p3⟩
  rw [fn_X12_nextSum, ck_t (by decide), show u.1 182 (Int32.toNatClampNeg 0) = _ from z0, ev_ab (nb_w xb.1 (by decide))]
  simp only [Option.bind_some]
  rw [ck_t (by decide), show u.1 182 (Int32.toNatClampNeg 1) = _ from z1, ev_ab (nb_w xb.2.1 (by decide))]
  simp only [Option.bind_some]
  rw [ck_t (by decide), show u.1 182 (Int32.toNatClampNeg 2) = _ from z2, ev_ab (nb_w xb.2.2 (by decide))]
  simp only [Option.bind_some, xm_let]
  rw [iI_a, iI_a]
  exact p1
theorem ev_firstR {m : Nat} (hm : 3100 ≤ m) {u : xm_Y} {s : Int} {n : Nat} (h1 : 1 ≤ s) (h5 : s ≤ 5) (n1 : 1 ≤ n) (n3 : n ≤ 3) (hn : u.1 150 0 = nI n) {y : S3_} (hr : nR_ s n (0, 0, 0) = some (some y)) : ∃ u', fn_X12_firstSum m (iI s) u = some ((), u') ∧ yf_ u u' ∧ mR_ u' y ∧ s3b_ y := by
  obtain ⟨f, hf⟩ : ∃ f, m = f + 4 := ⟨m - 4, by omega⟩
  have lp : lp_X12_firstSum_2 m m (0 : Int32) u = some (3, w_I (w_I (w_I u 182 0 0) 182 1 0) 182 2 0) := by
    subst hf; rfl
  have hz : mR_ (w_I (w_I (w_I u 182 0 0) 182 1 0) 182 2 0) (0, 0, 0) := ⟨by rw [rI_ne (by omega), rI_ne (by omega), rI_eq]; rfl, by rw [rI_ne (by omega), rI_eq]; rfl, by rw [rI_eq]; rfl⟩
  have yw : yf_ u (w_I (w_I (w_I u 182 0 0) 182 1 0) 182 2 0) := (((yf_.rf u).w).w).w
  obtain ⟨u', p1, p2, p3⟩ := ev_nextR hm h1 h5 n1 n3 (by rw [yw.1 150 (by decide)]; exact hn) hz ⟨by unfold nb_; decide, by unfold nb_; decide, by unfold nb_; decide⟩ hr
  refine ⟨u', ?_, yw.tr p2, p3 y rfl⟩
  rw [fn_X12_firstSum, lp]
  simp only [Option.bind_some]
  rw [p1]; rfl
