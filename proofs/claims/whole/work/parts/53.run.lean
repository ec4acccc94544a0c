/-- only longs, and these in S alone -/
def fx_ (S : Nat → Prop) (u u' : xm_Y) : Prop := u'.1 = u.1 ∧ ∀ q, ¬ S q → u'.2 q = u.2 q
theorem fx_.rf {S : Nat → Prop} (u : xm_Y) : fx_ S u u := ⟨rfl, fun _ _ => rfl⟩
theorem fx_.tr {S : Nat → Prop} {a b c : xm_Y} (h : fx_ S a b) (g : fx_ S b c) : fx_ S a c := ⟨g.1.trans h.1, fun q hq => (g.2 q hq).trans (h.2 q hq)⟩
theorem fx_.wJ {S : Nat → Prop} {c c' : xm_Y} (h : fx_ S c c') {k j : Nat} {v : Int64} (hk : S k) : fx_ S c (w_J c' k j v) := ⟨h.1, fun q hq => (rJ_nc (show q ≠ k from fun e => hq (by rw [e]; exact hk))).trans (h.2 q hq)⟩
theorem fx_.mn {S T : Nat → Prop} {c c' : xm_Y} (h : fx_ S c c') (hST : ∀ q, S q → T q) : fx_ T c c' := ⟨h.1, fun q hq => h.2 q (fun s => hq (hST q s))⟩
theorem fx_.cp {S : Nat → Prop} {c c' : xm_Y} (h : fx_ S c c') {a k i j n : Nat} (hk : S k) : fx_ S c (cp_J c' a k i j n) := ⟨h.1, fun q hq => by
  have hqk : q ≠ k := fun e => hq (by rw [e]; exact hk)
  show (if q = k then _ else c'.2 q) = c.2 q
  rw [if_neg hqk]; exact h.2 q hq⟩
theorem pt_fx (S : Nat → Prop) (u : xm_Y) (p : Nat) (t : Int64 × Int64 × Int64) (h : S p) : fx_ S u (pt_ u p t) := (((fx_.rf u).wJ h).wJ h).wJ h
theorem gt_pt (u : xm_Y) (p : Nat) (t : Int64 × Int64 × Int64) : gt_ (pt_ u p t) p = t := by
  unfold gt_ pt_
  rw [rJ_ne (by omega), rJ_ne (by omega), rJ_eq, rJ_ne (by omega), rJ_eq, rJ_eq]
theorem gt_c {u u' : xm_Y} {p : Nat} (h : u'.2 p = u.2 p) : gt_ u' p = gt_ u p := by
  unfold gt_; rw [h]
theorem sc_1 {c c' : xm_Y} (h : c'.1 = c.1) (nb : Nat) (gc : Nat → Nat) (X : Int64 × Int64 × Int64) : sc_ c' nb gc X = sc_ c nb gc X := by
  obtain ⟨a, b⟩ := c
  obtain ⟨a', b'⟩ := c'
  obtain rfl : a' = a := h
  rfl
theorem sd_1 {c c' : xm_Y} (h : c'.1 = c.1) (n nb : Nat) (gc : Nat → Nat) (X : Int64 × Int64 × Int64) : sd_ c' n nb gc X = sd_ c n nb gc X := by
  obtain ⟨a, b⟩ := c
  obtain ⟨a', b'⟩ := c'
  obtain rfl : a' = a := h
  rfl
theorem run_both {m N n nb : Nat} {gc : Nat → Nat} {c d : xm_Y} (hm : 100 ≤ m) (hN : N ≤ 10000) (h1 : iv_1 c d n nb) (h2 : iv_2 c d n nb gc) : ∀ (k j f : Nat) (c1 d1 : xm_Y), fx_ (fun q => q = 123) c c1 → fx_ (fun q => q = 168 ∨ q = 154) d d1 → gt_ c1 123 = gt_ d1 154 → ok_ n (gt_ d1 154) → j + k = N → k + 1 ≤ f → ∃ (r : Int32) (c2 d2 : xm_Y), (lp_X11_run_11 m (nI N) f (nI j) c1).bind (Sum.elim (fun r => some r) (fun q => some (nI N, q.2))) = some (r, c2) ∧ fx_ (fun q => q = 123) c c2 ∧ (lp_X12_run_16 m (nI N) f (nI j) d1).bind (Sum.elim (fun r => some r) (fun q => some (nI N, q.2))) = some (r, d2) ∧ fx_ (fun q => q = 168 ∨ q = 154) d d2 ∧ gt_ c2 123 = gt_ d2 154 ∧ ok_ n (gt_ d2 154)
  | 0, j, f, c1, d1, fc, fd, eg, hX, hj, hf => by
    obtain ⟨f', rfl⟩ : ∃ f', f = f' + 1 := ⟨f - 1, by omega⟩
    obtain rfl : j = N := by omega
    refine ⟨nI j, c1, d1, ?_, fc, ?_, fd, eg, hX⟩
    · rw [lp_X11_run_11, if_pos ((nIle (by omega) (by omega)).mpr (by omega))]; rfl
    · rw [lp_X12_run_16, if_pos ((nIle (by omega) (by omega)).mpr (by omega))]; rfl
  | k + 1, j, f, c1, d1, fc, fd, eg, hX, hj, hf => by
    obtain ⟨f', rfl⟩ : ∃ f', f = f' + 1 := ⟨f - 1, by omega⟩
    obtain ⟨a1, a2, a3, a4, a5, a6, a7⟩ := id h1
    have sc := ev_step hm 123 nb gc c1 a7 (by rw [fc.1]; exact a5) (fun b hb => by rw [fc.1]; exact ⟨(h2 b hb).1, (h2 b hb).2.2.1⟩)
    obtain ⟨d2, sd, e1, e2, e3⟩ := ev_from hm 154 n nb gc d1 (by decide) a4 (by rw [fd.1]; exact a2) a7 (by rw [fd.1]; exact a6) (fun b hb => by rw [fd.1]; exact ⟨(h2 b hb).2.1, (h2 b hb).2.2.1⟩)
    have fd2 : fx_ (fun q => q = 168 ∨ q = 154) d d2 := fd.tr ⟨e1, fun q hq => e2 q (fun z => hq (Or.inl z)) (fun z => hq (Or.inr z))⟩
    rw [sc_1 fc.1, eg, sc_sd h2 hX] at sc
    rw [sd_1 fd.1] at sd e3
    rw [lp_X11_run_11, if_neg (fun q => absurd ((nIle (by omega) (by omega)).mp q) (by omega)), sc]
    rw [lp_X12_run_16, if_neg (fun q => absurd ((nIle (by omega) (by omega)).mp q) (by omega)), sd]
    simp only [Option.bind_some, xm_let]
    cases hs : sd_ d n nb gc (gt_ d1 154) with
    | none =>
      rw [hs] at e3
      refine ⟨nI j, c1, d2, rfl, fc, rfl, fd2, eg.trans e3.symm, ?_⟩
      rw [e3]; exact hX
    | some o =>
      cases o with
      | none =>
        rw [hs] at e3
        refine ⟨-4, c1, d2, rfl, fc, rfl, fd2, eg.trans e3.symm, ?_⟩
        rw [e3]; exact hX
      | some t =>
        rw [hs] at e3
        have e3' : gt_ d2 154 = t := e3
        obtain ⟨r, c3, d3, q1, q2, q3, q4, q5, q6⟩ := run_both hm hN h1 h2 k (j + 1) f' (pt_ c1 123 t) d2 (fc.tr (pt_fx _ c1 123 t rfl)) fd2 (by rw [gt_pt, e3']) (by rw [e3']; exact sd_ok hs) (by omega) (by omega)
        refine ⟨r, c3, d3, ?_, q2, ?_, q4, q5, q6⟩
        · rw [← q1, nI_succ]; rfl
        · rw [← q3, nI_succ]; rfl
theorem ok_3 {c d : xm_Y} {n : Nat} (h3 : iv_3 c d n) : gt_ c 123 = gt_ d 154 ∧ ok_ n (gt_ d 154) := by
  refine ⟨?_, fun i hi => ?_⟩
  · unfold gt_
    rw [(h3 0 (by omega)).1, (h3 1 (by omega)).1, (h3 2 (by omega)).1]
  · have := h3 i hi
    rcases lt3c hi with rfl | rfl | rfl
    · exact this.2
    · exact this.2
    · exact this.2
theorem iv3_ok {c d : xm_Y} {n : Nat} (e : gt_ c 123 = gt_ d 154) (h : ok_ n (gt_ d 154)) : iv_3 c d n := by
  have e0 : c.2 123 0 = d.2 154 0 := congrArg (fun t => t.1) e
  have e1 : c.2 123 1 = d.2 154 1 := congrArg (fun t => t.2.1) e
  have e2 : c.2 123 2 = d.2 154 2 := congrArg (fun t => t.2.2) e
  intro i hi
  have := h i hi
  rcases lt3c hi with rfl | rfl | rfl
  · exact ⟨e0, this⟩
  · exact ⟨e1, this⟩
  · exact ⟨e2, this⟩
theorem trn_ {x : Int32} (h0 : ¬ x < 1) (h1 : ¬ 10000 < x) : ∃ N : Nat, 1 ≤ N ∧ N ≤ 10000 ∧ x = nI N := by
  rw [Int32.lt_iff_toInt_lt] at h0 h1
  have z : (1 : Int32).toInt = 1 := rfl
  have z1 : (10000 : Int32).toInt = 10000 := rfl
  rw [z] at h0
  rw [z1] at h1
  refine ⟨x.toInt.toNat, by omega, by omega, ?_⟩
  apply Int32.toInt_inj.mp
  rw [nI_u (by omega)]
  omega
section XT_
variable {PL : xm_Y → Nat → Prop} {FL : xm_Y → xm_Y → Prop} {m : Nat}
theorem tf_run (pf : pf_ PL FL) (hm : 100000 ≤ m) (x : Int32) : tf_ PL FL (fn_X11_run m x) (fn_X12_run m x) := by
  intro c d iv
  obtain ⟨n, nb, gc, h1, h2, h3, h4, h5, h6, h7, h8, h9, h10⟩ := id iv
  obtain ⟨a1, a2, a3, a4, a5, a6, a7⟩ := id h1
  rw [fn_X11_run, ev_X11_isTurns, fn_X12_run]
  simp only [Option.bind_some]
  by_cases x0 : x < 1
  · rw [if_pos x0, if_pos rfl, if_pos x0]
    exact ⟨-1, c, d, rfl, md_.rf c, rfl, cl_.rf d, iv⟩
  by_cases x1 : 10000 < x
  · rw [if_neg x0, if_pos x1, if_pos rfl, if_neg x0, if_neg (Int32.not_le.mpr x1)]
    exact ⟨-1, c, d, rfl, md_.rf c, rfl, cl_.rf d, iv⟩
  rw [if_neg x0, if_neg x1, if_neg (by decide), if_neg x0, if_pos (Int32.not_lt.mp x1)]
  obtain ⟨N, N1, N2, rfl⟩ := trn_ x0 x1
  obtain ⟨eg, hX⟩ := ok_3 h3
  obtain ⟨r, c2, d2, q1, q2, q3, q4, q5, q6⟩ := run_both (m := m) (by omega) N2 h1 h2 N 0 m c d (fx_.rf c) (fx_.rf d) eg hX (by omega) (by omega)
  refine ⟨r, c2, d2, q1, fun q hq => ⟨congrFun q2.1 q, q2.2 q (by omega)⟩, q3, fun q hq => ⟨congrFun q4.1 q, q4.2 q (by omega)⟩, n, nb, gc, ?_, ?_, iv3_ok q5 q6, ?_, ?_, ?_, ?_, ?_, ?_, ?_⟩
  · unfold iv_1; rw [q2.1, q4.1]; exact h1
  · unfold iv_2; rw [q2.1, q4.1]; exact h2
  · unfold iv_4; rw [q2.2 130 (by decide), q4.1, q4.2 157 (by decide)]; exact h4
  · unfold iv_5; rw [q2.2 128 (by decide), q4.1, q4.2 155 (by decide)]; exact h5
  · unfold iv_6; rw [q2.1, q4.1]; exact h6
  · unfold iv_7; rw [q2.1, q4.1]; exact h7
  · exact iv_8c (c := c) (d := d) pf (fun q hq => ⟨congrFun q2.1 q, q2.2 q (by omega)⟩) (q2.2 128 (by decide)) (by rw [q2.1]) (by rw [q2.1]) (by rw [q2.2 139 (by decide)]) (by rw [q4.1]) (by rw [q4.1]) (by rw [q4.1]) (by rw [q4.1]) (by rw [q4.1]) (by rw [q4.1]) (q4.2 155 (by decide)) (by rw [q4.1]) h8
  · unfold iv_9; rw [q2.1, q2.2 147 (by decide), q4.1]; exact h9
  · unfold iv_10; rw [q2.1, q4.1]; exact h10
end XT_
