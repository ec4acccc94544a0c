/-! floors -/
def isf_ (L : List V4_) (R : V4_) (y : Int) : Prop := ∀ v, lb_ L R v ↔ v ≤ y
theorem isf_u {L : List V4_} {R : V4_} {y y' : Int} (h : isf_ L R y) (g : isf_ L R y') : y = y' := by
  have a := (g y).mp ((h y).mpr (Int.le_refl _))
  have b := (h y').mp ((g y').mpr (Int.le_refl _))
  omega
def acc_ (R : V4_) (pre : List V4_) (y : Int) : Prop := (pre = [] ∧ y = 0) ∨ (pre ≠ [] ∧ (∀ P, P ∈ pre → y ≤ dp_ R P / P.2.2.2) ∧ ∃ P, P ∈ pre ∧ y = dp_ R P / P.2.2.2)
theorem flc_lp {m b s : Nat} {u : xm_Y} {C D : List V4_} {R : V4_} (ps : ps_ u b (C ++ D) C.length) (hR : sm3_ u s R) (hC : ∀ P, P ∈ C → 0 < P.2.2.2 ∧ pb4_ P) : ∀ (xs pre : List V4_) (f : Nat) (y : Int), C = pre ++ xs → xs.length + 1 ≤ f → acc_ R pre y → nb_ 720000000000000 y → ∃ (y' : Int) (l : Int32), lp_X6_floorOf_5 m b s f (Int64.ofInt y) (nI (4 * pre.length)) u = some (Int64.ofInt y', l, u) ∧ acc_ R C y' ∧ nb_ 720000000000000 y'
  | [], pre, f, y, hC', hf, ha, ny => by
    obtain ⟨f', rfl⟩ : ∃ f', f = f' + 1 := ⟨f - 1, by omega⟩
    rw [List.append_nil] at hC'
    subst hC'
    have l128 := ps.2.2.1
    rw [List.length_append] at l128
    exact ⟨y, nI (4 * C.length), by rw [lp_X6_floorOf_5, ps.2.1, show (4 : Int32) * nI C.length = nI (4 * C.length) from nI_mu 4 _, if_pos ((nIle (by omega) (by omega)).mpr (by omega))], ha, ny⟩
  | P :: xs, pre, f, y, hC', hf, ha, ny => by
    obtain ⟨f', rfl⟩ : ∃ f', f = f' + 1 := ⟨f - 1, by omega⟩
    have l128 := ps.2.2.1
    rw [List.length_append] at l128
    have lC : C.length = pre.length + (xs.length + 1) := by rw [hC', List.length_append]; rfl
    have hf : xs.length + 1 + 1 ≤ f' + 1 := hf
    have PC : P ∈ C := by rw [hC']; simp
    obtain ⟨p4, bP⟩ := hC P PC
    have gP : (C ++ D)[pre.length]? = some P := by
      rw [List.getElem?_append_left (by omega), hC', List.getElem?_append_right (by omega), Nat.sub_self]; rfl
    obtain ⟨-, -, -, c4⟩ := ps.2.2.2 pre.length P gP
    have vb := dpR_b hR.2.2.2.1 hR.2.2.2.2.1 hR.2.2.2.2.2.1 hR.2.2.2.2.2.2 bP
    obtain ⟨fd, -⟩ := ev_fdiv (m := m) (nb_w vb (by decide)) (nb_w bP.2.2.2 (by decide)) p4 u
    obtain ⟨db, -⟩ := div_nb vb p4
    have acc' : ∀ y', (pre = [] → y' = dp_ R P / P.2.2.2) → (pre ≠ [] → y' = if dp_ R P / P.2.2.2 < y then dp_ R P / P.2.2.2 else y) → acc_ R (pre ++ [P]) y' ∧ nb_ 720000000000000 y' := by
      intro y' e1 e2
      rcases ha with ⟨a1, a2⟩ | ⟨a1, a2, P0, a3, a4⟩
      · have e := e1 a1
        subst a1
        refine ⟨Or.inr ⟨by simp, fun Q hQ => ?_, P, by simp, e⟩, by rw [e]; exact db⟩
        simp at hQ
        rw [hQ, e]; exact Int.le_refl _
      · have e := e2 a1
        by_cases q : dp_ R P / P.2.2.2 < y
        · rw [if_pos q] at e
          refine ⟨Or.inr ⟨by simp, fun Q hQ => ?_, P, by simp, e⟩, by rw [e]; exact db⟩
          rw [List.mem_append, List.mem_singleton] at hQ
          rcases hQ with w | w
          · have := a2 Q w; omega
          · rw [w, e]; exact Int.le_refl _
        · rw [if_neg q] at e
          refine ⟨Or.inr ⟨by simp, fun Q hQ => ?_, P0, by simp [a3], by rw [e]; exact a4⟩, by rw [e]; exact ny⟩
          rw [List.mem_append, List.mem_singleton] at hQ
          rcases hQ with w | w
          · rw [e]; exact a2 Q w
          · rw [w, e]; omega
    have i3 : nI (4 * pre.length) + 3 = nI (4 * pre.length + 3) := nI_ad _ 3
    have i4 : nI (4 * pre.length) + 4 = nI (4 * (pre ++ [P]).length) := by rw [List.length_append]; exact nI_ad _ 4
    rw [lp_X6_floorOf_5, ps.2.1, show (4 : Int32) * nI C.length = nI (4 * C.length) from nI_mu 4 _, if_neg (fun q => absurd ((nIle (by omega) (by omega)).mp q) (by omega)), i3, i4, ck_t (nI_xi (by omega) (by omega)), nI_cl (show 4 * pre.length + 3 < 2 ^ 31 by omega), c4]
    simp only [xm_let]
    rw [if_neg (show ¬ Int64.ofInt P.2.2.2 ≤ 0 from fun z => absurd ((i64le (b := 0) (nb_w bP.2.2.2 (by decide)) (by unfold nb_; omega)).mp z) (by omega)), ev_valueAtP ps hR gP]
    simp only [Option.bind_some]
    rw [fd]
    simp only [Option.bind_some]
    by_cases pz : pre = []
    · subst pz
      rw [if_pos (show nI (4 * ([] : List V4_).length) = 0 from rfl)]
      simp only [Option.bind_some]
      obtain ⟨ac, nn⟩ := acc' _ (fun _ => rfl) (fun z => absurd rfl z)
      exact flc_lp ps hR hC xs ([] ++ [P]) f' _ (by rw [hC']; simp) (by omega) ac nn
    · have pl : 0 < pre.length := by
        cases pre with
        | nil => exact absurd rfl pz
        | cons _ _ => simp
      rw [if_neg (show ¬ nI (4 * pre.length) = 0 from fun q => absurd (nIinj (b := 0) (by omega) (by omega) q) (by omega)), fn_J9_min_f86c9]
      by_cases q : dp_ R P / P.2.2.2 < y
      · rw [if_pos ((i64lt (nb_w db (by decide)) (nb_w ny (by decide))).mpr q)]
        simp only [Option.bind_some]
        obtain ⟨ac, nn⟩ := acc' (dp_ R P / P.2.2.2) (fun z => absurd z pz) (fun _ => by rw [if_pos q])
        exact flc_lp ps hR hC xs (pre ++ [P]) f' _ (by rw [hC']; simp) (by omega) ac nn
      · rw [if_neg (fun z => q ((i64lt (nb_w db (by decide)) (nb_w ny (by decide))).mp z))]
        simp only [Option.bind_some]
        obtain ⟨ac, nn⟩ := acc' y (fun z => absurd z pz) (fun _ => by rw [if_neg q])
        exact flc_lp ps hR hC xs (pre ++ [P]) f' _ (by rw [hC']; simp) (by omega) ac nn
/-- the class's floor of a body, where the sum is bound -/
theorem ev_floorC {m : Nat} (hm : 300 ≤ m) {c d : xm_Y} {n nb : Nat} {gc : Nat → Nat} {E : E_} (ct : CT_ c d n nb gc E) {b s : Nat} (hb : b < nb) {R : V4_} (rb : rb3_ R) (rn : lown_ n R) (hR : (c.1 s 0).toInt = R.1 ∧ (c.1 s 1).toInt = R.2.1 ∧ (c.1 s 2).toInt = R.2.2.1) (bd : ¬ Emp_ (SS_ d b (gc b) n E) → ∃ v, lb_ (SS_ d b (gc b) n E) R v) : (Emp_ (SS_ d b (gc b) n E) ∧ ∀ u, qf_ c u → fn_X6_isEmpty m b u = some (1, u)) ∨ (¬ Emp_ (SS_ d b (gc b) n E) ∧ ∃ y, isf_ (SS_ d b (gc b) n E) R y ∧ nb_ 720000000000000 y ∧ ∀ u, qf_ c u → fn_X6_isEmpty m b u = some (0, u) ∧ fn_X6_floorOf m b s u = some (Int64.ofInt y, u)) := by
  obtain ⟨i2, c2, c3, c4, c5, c6, c7, c8, c9, c10, c11⟩ := id ct
  obtain ⟨C, D, p1, PS⟩ := c11 b hb
  obtain ⟨q1, q2, q3, q4, q5⟩ := PS
  have eB : BB_ c b (gc b) E = gpsd_ d b (gc b) ++ bpl_ E 3 := by unfold BB_; rw [gps_same i2 hb (gc b) (Nat.le_refl _)]
  have lowP : ∀ p, p ∈ gpsd_ d b (gc b) → lown_ n p := fun p hp => by
    obtain ⟨g, g1, rfl⟩ := gpsd_mem hp
    exact ((row_g i2 hb).1 g g1).2.2
  obtain ⟨sE, sF⟩ := same_E (P := gpsd_ d b (gc b)) c5 lowP c10
  rw [eB] at q3 q4 q5
  have l128 := p1.2.2.1
  rw [List.length_append] at l128
  have psu : ∀ u, qf_ c u → ps_ u b (C ++ D) C.length := fun u q => by
    obtain ⟨x1, x2, x3, x4⟩ := p1
    exact ⟨by rw [q.1]; exact x1, by rw [q.1]; exact x2, x3, fun k P hP => by rw [q.2 (7 + 24 * b) (fun b' _ => by omega)]; exact x4 k P hP⟩
  by_cases em : C = []
  · left
    refine ⟨sE.mp (fun q hq z => (q4 em).2 q ⟨hq, Int.le_of_lt z⟩ z), fun u q => ?_⟩
    have := (psu u q).2.1
    rw [em] at this
    rw [fn_X6_isEmpty, this, if_pos (show nI ([] : List V4_).length = 0 from rfl)]; rfl
  · right
    have cp : 0 < C.length := by
      cases C with
      | nil => exact absurd rfl em
      | cons _ _ => simp
    have ne : ¬ Emp_ (SS_ d b (gc b) n E) := fun z => by
      obtain ⟨P, hP⟩ : ∃ P, P ∈ C := by
        cases C with
        | nil => exact absurd rfl em
        | cons P _ => exact ⟨P, by simp⟩
      exact (sE.mpr z) P (q3 P (by simp [hP])).1 (q1 P hP).1
    have smu : ∀ u, qf_ c u → sm3_ u s R := fun u q => ⟨by rw [q.1]; exact hR.1, by rw [q.1]; exact hR.2.1, by rw [q.1]; exact hR.2.2, rb.2.2.2, rb.1, rb.2.1, rb.2.2.1⟩
    obtain ⟨y, l, e1, e2, e3⟩ := flc_lp (m := m) (psu c (qf_.rf c)) (smu c (qf_.rf c)) q1 C [] m 0 (by simp) (by omega) (Or.inl ⟨rfl, rfl⟩) (by unfold nb_; decide)
    obtain ⟨v0, hv0⟩ := bd ne
    have lbB : ∀ v : Int, lb_ (SS_ d b (gc b) n E) R v ↔ ∀ q, KK_ (gpsd_ d b (gc b) ++ bpl_ E 3) q → 0 ≤ dp_ (R.1, R.2.1, R.2.2.1, -v) q := fun v => (sF (R.1, R.2.1, R.2.2.1, -v) rn).symm
    have isf : isf_ (SS_ d b (gc b) n E) R y := by
      intro v
      rw [lbB v]
      rcases e2 with ⟨z, _⟩ | ⟨_, a2, P0, a3, a4⟩
      · exact absurd z em
      · constructor
        · intro h
          have := h P0 (q3 P0 (by simp [a3]))
          rw [dpWv R P0 v rb.2.2.2] at this
          rw [a4]
          exact (Int.le_ediv_iff_mul_le (q1 P0 a3).1).mpr (by omega)
        · intro hv q hq
          have := q5 (ng_ (R.1, R.2.1, R.2.2.1, -v)) (fun P hP => ?_) em q hq
          · rw [dp_ng] at this; omega
          · rw [dp_ng, dpWv R P v rb.2.2.2]
            rcases List.mem_append.mp hP with w | w
            · have := (Int.le_ediv_iff_mul_le (q1 P w).1).mp (Int.le_trans hv (a2 P w))
              omega
            · have := (lbB v0).mp hv0 P (q3 P hP)
              rw [dpWv R P v0 rb.2.2.2, (q2 P w).1] at this
              rw [(q2 P w).1]; omega
    refine ⟨ne, y, isf, e3, fun u q => ⟨?_, ?_⟩⟩
    · rw [fn_X6_isEmpty, (psu u q).2.1, if_neg (show ¬ nI C.length = 0 from fun z => absurd (nIinj (b := 0) (by omega) (by omega) z) (by omega))]; rfl
    · obtain ⟨y', l', f1, f2, f3⟩ := flc_lp (m := m) (psu u q) (smu u q) q1 C [] m 0 (by simp) (by omega) (Or.inl ⟨rfl, rfl⟩) (by unfold nb_; decide)
      have ey : y' = y := by
        rcases f2 with ⟨z, _⟩ | ⟨_, a2, P0, a3, a4⟩
        · exact absurd z em
        · rcases e2 with ⟨z, _⟩ | ⟨_, b2, P1, b3, b4⟩
          · exact absurd z em
          · have := a2 P1 b3
            have := b2 P0 a3
            omega
      rw [fn_X6_floorOf, show lp_X6_floorOf_5 m b s m (0 : Int64) (0 : Int32) u = _ from f1, ey]
      rfl
/-- the floor over the first k bodies -/
def fv_ (L : Nat → List V4_) (R : V4_) (k : Nat) (has : Bool) (x : Int) : Prop := (has = false ∧ x = 0 ∧ ∀ b, b < k → Emp_ (L b)) ∨ (has = true ∧ (∀ b, b < k → ¬ Emp_ (L b) → ∀ y, isf_ (L b) R y → x ≤ y) ∧ ∃ b, b < k ∧ ¬ Emp_ (L b) ∧ isf_ (L b) R x)
theorem fv_u {L : Nat → List V4_} {R : V4_} {k : Nat} {h h' : Bool} {x x' : Int} (a : fv_ L R k h x) (b : fv_ L R k h' x') : x = x' := by
  rcases a with ⟨a1, a2, a3⟩ | ⟨a1, a2, p, a3, a4, a5⟩
  · rcases b with ⟨b1, b2, b3⟩ | ⟨b1, b2, q, b3, b4, b5⟩
    · rw [a2, b2]
    · exact absurd (a3 q b3) b4
  · rcases b with ⟨b1, b2, b3⟩ | ⟨b1, b2, q, b3, b4, b5⟩
    · exact absurd (b3 p a3) a4
    · have := a2 q b3 b4 x' b5
      have := b2 p a3 a4 x a5
      omega
theorem fv_e {L : Nat → List V4_} {R : V4_} {k : Nat} {h : Bool} {x : Int} (a : fv_ L R k h x) (e : Emp_ (L k)) : fv_ L R (k + 1) h x := by
  rcases a with ⟨a1, a2, a3⟩ | ⟨a1, a2, p, a3, a4, a5⟩
  · refine Or.inl ⟨a1, a2, fun b hb => ?_⟩
    by_cases q : b = k
    · rw [q]; exact e
    · exact a3 b (by omega)
  · refine Or.inr ⟨a1, fun b hb hn y hy => ?_, p, by omega, a4, a5⟩
    by_cases q : b = k
    · rw [q] at hn; exact absurd e hn
    · exact a2 b (by omega) hn y hy
theorem fv_s {L : Nat → List V4_} {R : V4_} {k : Nat} {h : Bool} {x y : Int} (a : fv_ L R k h x) (e : ¬ Emp_ (L k)) (hy : isf_ (L k) R y) : fv_ L R (k + 1) true (if h = true then (if y < x then y else x) else y) := by
  rcases a with ⟨a1, a2, a3⟩ | ⟨a1, a2, p, a3, a4, a5⟩
  · rw [a1, if_neg (by decide)]
    refine Or.inr ⟨rfl, fun b hb hn z hz => ?_, k, by omega, e, hy⟩
    by_cases q : b = k
    · rw [q] at hz; rw [isf_u hz hy]; exact Int.le_refl _
    · exact absurd (a3 b (by omega)) hn
  · rw [a1, if_pos rfl]
    by_cases q : y < x
    · rw [if_pos q]
      refine Or.inr ⟨rfl, fun b hb hn z hz => ?_, k, by omega, e, hy⟩
      by_cases w : b = k
      · rw [w] at hz; rw [isf_u hz hy]; exact Int.le_refl _
      · have := a2 b (by omega) hn z hz
        omega
    · rw [if_neg q]
      refine Or.inr ⟨rfl, fun b hb hn z hz => ?_, p, by omega, a4, a5⟩
      by_cases w : b = k
      · rw [w] at hz; rw [isf_u hz hy]; omega
      · exact a2 b (by omega) hn z hz
theorem fl7_lp {m : Nat} (hm : 300 ≤ m) {c d : xm_Y} {n nb : Nat} {gc : Nat → Nat} {E : E_} (ct : CT_ c d n nb gc E) {s : Nat} {R : V4_} (rb : rb3_ R) (rn : lown_ n R) (hR : (c.1 s 0).toInt = R.1 ∧ (c.1 s 1).toInt = R.2.1 ∧ (c.1 s 2).toInt = R.2.2.1) (bd : ∀ b, b < nb → ¬ Emp_ (SS_ d b (gc b) n E) → ∃ v, lb_ (SS_ d b (gc b) n E) R v) {u : xm_Y} (q : qf_ c u) : ∀ (r b f : Nat) (h : Bool) (x : Int), b + r = nb → r + 1 ≤ f → fv_ (fun b => SS_ d b (gc b) n E) R b h x → nb_ 720000000000000 x → ∃ (h' : Bool) (x' : Int) (l : Int32), lp_X7_floorOf_7 m s f (if h = true then 1 else 0) (Int64.ofInt x) (nI b) u = some (if h' = true then 1 else 0, Int64.ofInt x', l, u) ∧ fv_ (fun b => SS_ d b (gc b) n E) R nb h' x' ∧ nb_ 720000000000000 x'
  | 0, b, f, h, x, hb, hf, fv, nx => by
    obtain ⟨f', rfl⟩ : ∃ f', f = f' + 1 := ⟨f - 1, by omega⟩
    have b5 := ct.2.2.1
    obtain rfl : b = nb := by omega
    exact ⟨h, x, nI b, by rw [lp_X7_floorOf_7, q.1, ct.2.1, if_pos ((nIle (by omega) (by omega)).mpr (by omega))], fv, nx⟩
  | r + 1, b, f, h, x, hb, hf, fv, nx => by
    obtain ⟨f', rfl⟩ : ∃ f', f = f' + 1 := ⟨f - 1, by omega⟩
    have b5 := ct.2.2.1
    rw [lp_X7_floorOf_7, q.1, ct.2.1, if_neg (fun z => absurd ((nIle (by omega) (by omega)).mp z) (by omega)), ck_t (nI_xi (by omega) (by omega)), nI_cl (by omega)]
    rcases ev_floorC hm ct (b := b) (by omega) rb rn hR (bd b (by omega)) with ⟨e1, e2⟩ | ⟨e1, y, e2, e3, e4⟩
    · rw [e2 u q]
      simp only [Option.bind_some, xm_let]
      rw [if_neg (by decide)]
      simp only [Option.bind_some]
      rw [← nI_succ]
      exact fl7_lp hm ct rb rn hR bd q r (b + 1) f' h x (by omega) (by omega) (fv_e fv e1) nx
    · rw [(e4 u q).1]
      simp only [Option.bind_some, xm_let]
      rw [if_pos trivial, (e4 u q).2]
      simp only [Option.bind_some]
      have nn : nb_ 720000000000000 (if h = true then (if y < x then y else x) else y) := by
        split
        · split
          · exact e3
          · exact nx
        · exact e3
      have go := fl7_lp hm ct rb rn hR bd q r (b + 1) f' true (if h = true then (if y < x then y else x) else y) (by omega) (by omega) (fv_s fv e1 e2) nn
      rw [if_pos rfl] at go
      cases h with
      | false =>
        rw [if_pos (show (if false = true then (1 : Int32) else 0) = 0 from rfl)]
        simp only [Option.bind_some]
        rw [← nI_succ]
        rw [if_neg (by decide)] at go
        exact go
      | true =>
        rw [if_pos rfl, if_neg (by decide), fn_J9_min_f86c9]
        rw [if_pos rfl] at go
        by_cases w : y < x
        · rw [if_pos ((i64lt (nb_w e3 (by decide)) (nb_w nx (by decide))).mpr w)]
          simp only [Option.bind_some]
          rw [← nI_succ]
          rw [if_pos w] at go
          exact go
        · rw [if_neg (fun z => w ((i64lt (nb_w e3 (by decide)) (nb_w nx (by decide))).mp z))]
          simp only [Option.bind_some]
          rw [← nI_succ]
          rw [if_neg w] at go
          exact go
theorem ev_floor7 {m : Nat} (hm : 300 ≤ m) {c d : xm_Y} {n nb : Nat} {gc : Nat → Nat} {E : E_} (ct : CT_ c d n nb gc E) {s : Nat} {R : V4_} (rb : rb3_ R) (rn : lown_ n R) (hR : (c.1 s 0).toInt = R.1 ∧ (c.1 s 1).toInt = R.2.1 ∧ (c.1 s 2).toInt = R.2.2.1) (bd : ∀ b, b < nb → ¬ Emp_ (SS_ d b (gc b) n E) → ∃ v, lb_ (SS_ d b (gc b) n E) R v) {u : xm_Y} (q : qf_ c u) : ∃ (h : Bool) (x : Int), fn_X7_floorOf m s u = some (Int64.ofInt x, u) ∧ fv_ (fun b => SS_ d b (gc b) n E) R nb h x ∧ nb_ 720000000000000 x := by
  have b5 := ct.2.2.1
  obtain ⟨h, x, l, a1, a2, a3⟩ := fl7_lp hm ct rb rn hR bd q nb 0 m false 0 (by omega) (by omega) (Or.inl ⟨rfl, rfl, fun b hb => by omega⟩) (by unfold nb_; decide)
  refine ⟨h, x, ?_, a2, a3⟩
  rw [fn_X7_floorOf, show lp_X7_floorOf_7 m s m (0 : Int32) (0 : Int64) (0 : Int32) u = _ from a1]
  rfl
/-! the reference's -/
/-- what the reference needs to lay a body's sides -/
def DX_ (d : xm_Y) (n nb : Nat) (gc : Nat → Nat) (E : E_) : Prop := d.1 150 0 = nI n ∧ n ≤ 3 ∧ d.1 150 1 = nI nb ∧ nb ≤ 5 ∧ (∀ b, b < nb → db_ d b (gc b)) ∧ bz_ d n E ∧ (∀ k, k < 2 * n → bd_ 1000000000 (E k))
theorem DX_ct {c d : xm_Y} {n nb : Nat} {gc : Nat → Nat} {E : E_} (ct : CT_ c d n nb gc E) : DX_ d n nb gc E := by
  obtain ⟨i2, c2, c3, c4, c5, c6, c7, c8, c9, c10, c11⟩ := ct
  exact ⟨c6, c5, c7, c3, fun b hb => ⟨(i2 b hb).2.1, (i2 b hb).2.2.1, fun g hg => ((row_g i2 hb).1 g hg).2.1⟩, c8, fun k hk => c9 k (by omega)⟩
theorem gpsd_f {d d' : xm_Y} (h : d'.1 152 = d.1 152) (b : Nat) : ∀ G, gpsd_ d' b G = gpsd_ d b G
  | 0 => rfl
  | G + 1 => by unfold gpsd_; rw [gpsd_f h b G]; unfold gpd_ wr_ kr_; rw [h]
theorem DX_f {d d' : xm_Y} {n nb : Nat} {gc : Nat → Nat} {E : E_} (h0 : d'.1 150 0 = d.1 150 0) (h1 : d'.1 150 1 = d.1 150 1) (h51 : d'.1 151 = d.1 151) (h52 : d'.1 152 = d.1 152) (h56 : d'.1 156 = d.1 156) (h55 : d'.2 155 = d.2 155) (h : DX_ d n nb gc E) : DX_ d' n nb gc E := by
  obtain ⟨a1, a2, a3, a4, a5, a6, a7⟩ := h
  refine ⟨h0.trans a1, a2, h1.trans a3, a4, fun b hb => ?_, bz_d h56 h55 a6, a7⟩
  obtain ⟨x1, x2, x3⟩ := a5 b hb
  refine ⟨by rw [h51]; exact x1, x2, fun g hg => ?_⟩
  have : gpd_ d' b g = gpd_ d b g := by unfold gpd_ wr_ kr_; rw [h52]
  rw [this]; exact x3 g hg
theorem fld_lp {m : Nat} (hm : 300 ≤ m) {d0 : xm_Y} {n nb : Nat} {gc : Nat → Nat} {E : E_} (dx : DX_ d0 n nb gc E) {R : V4_} (rb : rb3_ R) {x1 x2 x3 : Int32} (r1 : x1.toInt = R.1) (r2 : x2.toInt = R.2.1) (r3 : x3.toInt = R.2.2.1) (bd : ∀ b, b < nb → ¬ Emp_ (SS_ d0 b (gc b) n E) → ∃ v, lb_ (SS_ d0 b (gc b) n E) R v) : ∀ (r b f : Nat) (h : Bool) (x : Int) (u : xm_Y), b + r = nb → r + 1 ≤ f → tf2_ d0 u → fv_ (fun b => SS_ d0 b (gc b) n E) R b h x → nb_ 100000000000000000 x → ∃ (h' : Bool) (x' : Int) (l : Int32) (u' : xm_Y), lp_X12_floorOf_9 m x1 x2 x3 f (Int64.ofInt x) (if h = true then 1 else 0) (nI b) u = some (Int64.ofInt x', if h' = true then 1 else 0, l, u') ∧ tf2_ d0 u' ∧ fv_ (fun b => SS_ d0 b (gc b) n E) R nb h' x' ∧ nb_ 100000000000000000 x'
  | 0, b, f, h, x, u, hb, hf, tf, fv, nx => by
    obtain ⟨f', rfl⟩ : ∃ f', f = f' + 1 := ⟨f - 1, by omega⟩
    have b5 := dx.2.2.2.1
    obtain rfl : b = nb := by omega
    have e1 : u.1 150 1 = nI b := (tf.2.1 1 (by decide) (by decide) (by decide)).trans dx.2.2.1
    exact ⟨h, x, nI b, u, by rw [lp_X12_floorOf_9, e1, if_pos ((nIle (by omega) (by omega)).mpr (by omega))], tf, fv, nx⟩
  | r + 1, b, f, h, x, u, hb, hf, tf, fv, nx => by
    obtain ⟨f', rfl⟩ : ∃ f', f = f' + 1 := ⟨f - 1, by omega⟩
    have b5 := dx.2.2.2.1
    have e1 : u.1 150 1 = nI nb := (tf.2.1 1 (by decide) (by decide) (by decide)).trans dx.2.2.1
    have dxu : DX_ u n nb gc E := DX_f (tf.2.1 0 (by decide) (by decide) (by decide)) (tf.2.1 1 (by decide) (by decide) (by decide)) (tf.1 151 (by decide)) (tf.1 152 (by decide)) (tf.1 156 (by decide)) (tf.2.2 155 (by decide) (by decide) (by decide)) dx
    obtain ⟨y1, y2, y3, y4, y5, y6, y7⟩ := id dxu
    obtain ⟨u1, a1, a2, a3, a4⟩ := ev_lays (m := m) (by omega) (show b < 5 by omega) y1 y2 (y5 b (by omega)) y6 y7
    have eS : SS_ u b (gc b) n E = SS_ d0 b (gc b) n E := by unfold SS_; rw [gpsd_f (tf.1 152 (by decide))]
    have sb := SS_b (E := E) (n := n) (y5 b (by omega)) y2 y7
    rw [eS] at a3 a4 sb
    rw [lp_X12_floorOf_9, e1, if_neg (fun z => absurd ((nIle (by omega) (by omega)).mp z) (by omega)), a1]
    simp only [Option.bind_some, xm_let]
    rcases a4 with ⟨f0, ne⟩ | ⟨f1, em⟩
    · rw [if_pos f0, ck_t (by decide), ck_t (by decide), ck_t (by decide), i64o, i64o, i64o, r1, r2, r3]
      obtain ⟨t1, t2⟩ := wt3 (u := u1) (x := R.1) (y := R.2.1) (z := R.2.2.1)
      have R4 : ((R.1, R.2.1, R.2.2.1, 0) : V4_) = R := by
        obtain ⟨p1, p2, p3, p4⟩ := R
        have : p4 = 0 := rb.2.2.2
        rw [this]
      rw [R4] at t1
      rw [show w_J (w_J (w_J u1 181 (Int32.toNatClampNeg 0) (Int64.ofInt R.1)) 181 (Int32.toNatClampNeg 1) (Int64.ofInt R.2.1)) 181 (Int32.toNatClampNeg 2) (Int64.ofInt R.2.2.1) = w_J (w_J (w_J u1 181 0 (Int64.ofInt R.1)) 181 1 (Int64.ofInt R.2.1)) 181 2 (Int64.ofInt R.2.2.1) from rfl]
      generalize w_J (w_J (w_J u1 181 0 (Int64.ofInt R.1)) 181 1 (Int64.ofInt R.2.1)) 181 2 (Int64.ofInt R.2.2.1) = u2 at t1 t2 ⊢
      obtain ⟨u3, o, b1, b2, b3, b4⟩ := ev_least (m := m) (by omega) (sq_w a3 t2) sb t1 ⟨nb_w rb.1 (by decide), nb_w rb.2.1 (by decide), nb_w rb.2.2.1 (by decide), rb.2.2.2⟩ ne
      obtain ⟨v0, hv0⟩ := bd b (by omega) ne
      have g0 := (b4 v0).mpr hv0
      cases o with
      | none => exact g0.elim
      | some p =>
        obtain ⟨o1, o2, o3, o4, o5, o6, o7⟩ := b3
        have isf : isf_ (SS_ d0 b (gc b) n E) R (p.1 / p.2) := fun v => (b4 v).symm.trans (Int.le_ediv_iff_mul_le o6).symm
        have num : Int64.ofInt (p.1 / 1000000) * 1000000 + Int64.ofInt (p.1 % 1000000) = Int64.ofInt p.1 := by
          rw [show (1000000 : Int64) = Int64.ofInt 1000000 from rfl, om, oa]
          congr 1
          omega
        obtain ⟨fd, -⟩ := ev_fdiv (m := m) (nb_w o5 (by decide)) (nb_w o7 (by decide)) o6 u3
        obtain ⟨db, -⟩ := div_nb o5 o6
        rw [b1]
        simp only [Option.bind_some]
        rw [o2, o3, o4, num, fd]
        simp only [Option.bind_some]
        have fr : tf2_ d0 u3 := ((tf.tr (sf_t a2)).tr (wf_t t2)).tr (lf3_t b2)
        have nn : nb_ 100000000000000000 (if h = true then (if p.1 / p.2 < x then p.1 / p.2 else x) else p.1 / p.2) := by
          split
          · split
            · exact db
            · exact nx
          · exact db
        have go := fld_lp hm dx rb r1 r2 r3 bd r (b + 1) f' true (if h = true then (if p.1 / p.2 < x then p.1 / p.2 else x) else p.1 / p.2) u3 (by omega) (by omega) fr (fv_s fv ne isf) nn
        rw [if_pos rfl] at go
        cases h with
        | false =>
          rw [if_pos (show (if false = true then (1 : Int32) else 0) = 0 from rfl)]
          simp only [Option.bind_some]
          rw [← nI_succ]
          rw [if_neg (by decide)] at go
          exact go
        | true =>
          rw [if_pos rfl, if_neg (by decide)]
          rw [if_pos rfl] at go
          by_cases w : p.1 / p.2 < x
          · rw [if_neg (show ¬ Int64.ofInt x ≤ Int64.ofInt (p.1 / p.2) from fun z => absurd ((i64le (nb_w nx (by decide)) (nb_w db (by decide))).mp z) (by omega))]
            simp only [Option.bind_some]
            rw [← nI_succ]
            rw [if_pos w] at go
            exact go
          · rw [if_pos (show Int64.ofInt x ≤ Int64.ofInt (p.1 / p.2) from (i64le (nb_w nx (by decide)) (nb_w db (by decide))).mpr (by omega))]
            simp only [Option.bind_some]
            rw [← nI_succ]
            rw [if_neg w] at go
            exact go
    · rw [if_neg (show ¬ u1.1 150 17 = 0 by rw [f1]; decide)]
      simp only [Option.bind_some]
      rw [← nI_succ]
      exact fld_lp hm dx rb r1 r2 r3 bd r (b + 1) f' h x u1 (by omega) (by omega) (tf.tr (sf_t a2)) (fv_e fv em) nx
theorem ev_floord {m : Nat} (hm : 300 ≤ m) {d0 : xm_Y} {n nb : Nat} {gc : Nat → Nat} {E : E_} (dx : DX_ d0 n nb gc E) {R : V4_} (rb : rb3_ R) {x1 x2 x3 : Int32} (r1 : x1.toInt = R.1) (r2 : x2.toInt = R.2.1) (r3 : x3.toInt = R.2.2.1) (bd : ∀ b, b < nb → ¬ Emp_ (SS_ d0 b (gc b) n E) → ∃ v, lb_ (SS_ d0 b (gc b) n E) R v) : ∃ (h : Bool) (x : Int) (u' : xm_Y), fn_X12_floorOf m x1 x2 x3 d0 = some (Int64.ofInt x, u') ∧ tf2_ d0 u' ∧ fv_ (fun b => SS_ d0 b (gc b) n E) R nb h x := by
  have b5 := dx.2.2.2.1
  obtain ⟨h, x, l, u', a1, a2, a3, a4⟩ := fld_lp hm dx rb r1 r2 r3 bd nb 0 m false 0 d0 (by omega) (by omega) (tf2_.rf d0) (Or.inl ⟨rfl, rfl, fun b hb => by omega⟩) (by unfold nb_; decide)
  refine ⟨h, x, u', ?_, a2, a3⟩
  rw [fn_X12_floorOf, show lp_X12_floorOf_9 m x1 x2 x3 m (0 : Int64) (0 : Int32) (0 : Int32) d0 = _ from a1]
  rfl
theorem rk_bd {d : xm_Y} {n : Nat} {gc : Nat → Nat} {E : E_} {b : Nat} {R : V4_} (h : rkk_ d n gc E b R) (ne : ¬ Emp_ (SS_ d b (gc b) n E)) : ∃ v, lb_ (SS_ d b (gc b) n E) R v := by
  obtain ⟨t, t6, tt⟩ := h
  rcases tt with ⟨e, _⟩ | ⟨_, x, y, z, x1, y1, z1, rfl, a1, -, -⟩
  · exact absurd e ne
  · exact a1.mp (by omega)
section XT_
variable {FL : xm_Y → xm_Y → Prop} {m : Nat}
theorem tf_floor (pf : pf_ PL_ FL) (hm : 300 ≤ m) (x y z : Int32) : tf_ PL_ FL (fn_X11_floor m x y z) (fn_X12_floor m x y z) := by
  intro c d iv
  obtain ⟨n, nb, gc, h1, h2, h3, h4, h5, h6, h7, h8, h9, h10⟩ := id iv
  obtain ⟨a1, a2, a3, a4, a5, a6, a7⟩ := id h1
  obtain ⟨k1, k2, k3, k4, k5, k6⟩ := w145 c x y z
  have as := ev_ask (m := m) (by omega) a1 a4 x y z
  have is := ev_isSum (m := m) (by omega) a2 a4 x y z
  by_cases ok : okS_ n x y z
  · obtain ⟨u, l1, l2, l3, l4⟩ := ev_learn (FL := FL) hm h1 h2 h5 h8 k1 k2
    obtain ⟨rb, rn⟩ := okS_R ok
    have f145 : ∀ j, u.1 145 j = (w_I (w_I (w_I c 145 0 x) 145 1 y) 145 2 z).1 145 j := fun j => by rw [l2.1 145 (by decide) (fun b _ => by omega)]
    have hR : (u.1 145 0).toInt = (Rx_ x y z).1 ∧ (u.1 145 1).toInt = (Rx_ x y z).2.1 ∧ (u.1 145 2).toInt = (Rx_ x y z).2.2.1 := ⟨by rw [f145, k4]; rfl, by rw [f145, k5]; rfl, by rw [f145, k6]; rfl⟩
    obtain ⟨r, u2, q1, q2, q3, q4⟩ := ev_ranked hm l3 (s := 145) rb rn hR (qf_.rf u)
    obtain ⟨r', d', s1, s2, s3, s4⟩ := ev_doesRank hm l3 rb (x1 := x) (x2 := y) (x3 := z) rfl rfl rfl (d0 := d) (fun _ _ _ _ _ _ _ _ => rfl) rfl rfl rfl
    have er : r = r' := x01 q3 s3 q4 s4
    subst er
    have cf : cfr_ c u2 := (k3.tr (lf_c l2)).tr (qf_c q2)
    have df := tf2_d s2
    rcases q3 with w | w
    · refine ⟨-9000000000000000, u2, d', ?_, cfr_md cf, ?_, dfr_cl df, n, nb, gc, iv_l pf h1 h2 h3 h4 h5 h6 h7 h8 h9 h10 cf df (pl_keep q2 l4)⟩
      · rw [fn_X11_floor, as.1 ok]
        simp only [Option.bind_some]
        rw [if_neg (by decide), l1]
        simp only [Option.bind_some]
        rw [q1, w]; rfl
      · rw [fn_X12_floor, is.1 ok]
        simp only [Option.bind_some]
        rw [if_neg (by decide), s1, w]; rfl
    · have all := q4.mp w
      obtain ⟨hA, vA, fA1, fA2, fA3⟩ := ev_floor7 hm l3 (s := 145) rb rn hR (fun b hb ne => rk_bd (all b hb) ne) q2
      have e52 : d'.1 152 = d.1 152 := s2.1 152 (by decide)
      have eS : ∀ b, SS_ d' b (gc b) n (eb_ c) = SS_ d b (gc b) n (eb_ c) := fun b => by unfold SS_; rw [gpsd_f e52]
      obtain ⟨hB, vB, d2, fB1, fB2, fB3⟩ := ev_floord hm (DX_f (d' := d') (s2.2.1 0 (by decide) (by decide) (by decide)) (s2.2.1 1 (by decide) (by decide) (by decide)) (s2.1 151 (by decide)) e52 (s2.1 156 (by decide)) (s2.2.2 155 (by decide) (by decide) (by decide)) (DX_ct l3)) rb (x1 := x) (x2 := y) (x3 := z) rfl rfl rfl (fun b hb ne => by rw [eS] at ne ⊢; exact rk_bd (all b hb) ne)
      have fB3' : fv_ (fun b => SS_ d b (gc b) n (eb_ c)) (Rx_ x y z) nb hB vB := by
        have : (fun b => SS_ d' b (gc b) n (eb_ c)) = (fun b => SS_ d b (gc b) n (eb_ c)) := funext eS
        rw [← this]; exact fB3
      have ev : vA = vB := fv_u fA2 fB3'
      subst ev
      have df2 := df.tr (tf2_d fB2)
      refine ⟨Int64.ofInt vA, u2, d2, ?_, cfr_md cf, ?_, dfr_cl df2, n, nb, gc, iv_l pf h1 h2 h3 h4 h5 h6 h7 h8 h9 h10 cf df2 (pl_keep q2 l4)⟩
      · rw [fn_X11_floor, as.1 ok]
        simp only [Option.bind_some]
        rw [if_neg (by decide), l1]
        simp only [Option.bind_some]
        rw [q1, w]
        simp only [Option.bind_some]
        rw [if_neg (by decide), fA1]; rfl
      · rw [fn_X12_floor, is.1 ok]
        simp only [Option.bind_some]
        rw [if_neg (by decide), s1, w]
        simp only [Option.bind_some]
        rw [if_neg (by decide), fB1]; rfl
  · refine ⟨-9000000000000000, _, d, ?_, cfr_md k3, ?_, cl_.rf d, n, nb, gc, iv_l pf h1 h2 h3 h4 h5 h6 h7 h8 h9 h10 k3 (dfr_.rf d) (fun b hb => ?_)⟩
    · rw [fn_X11_floor, as.2 ok]; rfl
    · rw [fn_X12_floor, is.2 ok]; rfl
    · rw [k1 _ (by omega)]
      rcases h8.2 b hb with w | ⟨w1, w2, w3⟩
      · exact Or.inl w
      · exact Or.inr ⟨w1, w2, PL_q hb w3 (fun q hq => k1 q (by omega)) (by rw [k2]) (by rw [k2])⟩
end XT_
