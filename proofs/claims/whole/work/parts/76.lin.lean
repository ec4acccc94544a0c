abbrev V4_ := Int × Int × Int × Int
def dp_ (a b : V4_) : Int := a.1 * b.1 + a.2.1 * b.2.1 + a.2.2.1 * b.2.2.1 + a.2.2.2 * b.2.2.2
def yy_ (a b c : V4_) : V4_ :=
  (a.2.2.2 * (b.2.1 * c.2.2.1 - b.2.2.1 * c.2.1) + b.2.2.2 * (c.2.1 * a.2.2.1 - c.2.2.1 * a.2.1) + c.2.2.2 * (a.2.1 * b.2.2.1 - a.2.2.1 * b.2.1),
   a.2.2.2 * (b.2.2.1 * c.1 - b.1 * c.2.2.1) + b.2.2.2 * (c.2.2.1 * a.1 - c.1 * a.2.2.1) + c.2.2.2 * (a.2.2.1 * b.1 - a.1 * b.2.2.1),
   a.2.2.2 * (b.1 * c.2.1 - b.2.1 * c.1) + b.2.2.2 * (c.1 * a.2.1 - c.2.1 * a.1) + c.2.2.2 * (a.1 * b.2.1 - a.2.1 * b.1),
   -(a.1 * (b.2.1 * c.2.2.1 - b.2.2.1 * c.2.1) + a.2.1 * (b.2.2.1 * c.1 - b.1 * c.2.2.1) + a.2.2.1 * (b.1 * c.2.1 - b.2.1 * c.1)))
theorem yy_1 (a b c : V4_) : dp_ (yy_ a b c) a = 0 := by unfold dp_ yy_; grind
theorem yy_2 (a b c : V4_) : dp_ (yy_ a b c) b = 0 := by unfold dp_ yy_; grind
theorem yy_3 (a b c : V4_) : dp_ (yy_ a b c) c = 0 := by unfold dp_ yy_; grind
theorem yy_s (a b c f : V4_) : dp_ (yy_ a b f) c = -dp_ (yy_ a b c) f := by unfold dp_ yy_; grind
theorem yy_t (a b c f : V4_) : dp_ (yy_ a b f) c = dp_ (yy_ c a f) b := by unfold dp_ yy_; grind
theorem dp_c (a b : V4_) : dp_ a b = dp_ b a := by unfold dp_; grind
def lc_ (s : Int) (a : V4_) (t : Int) (b : V4_) : V4_ := (s * a.1 + t * b.1, s * a.2.1 + t * b.2.1, s * a.2.2.1 + t * b.2.2.1, s * a.2.2.2 + t * b.2.2.2)
theorem dp_lc (h : V4_) (s : Int) (a : V4_) (t : Int) (b : V4_) : dp_ h (lc_ s a t b) = s * dp_ h a + t * dp_ h b := by unfold dp_ lc_; grind
def z4_ : V4_ := (0, 0, 0, 0)
theorem v4_ext {a b : V4_} (h1 : a.1 = b.1) (h2 : a.2.1 = b.2.1) (h3 : a.2.2.1 = b.2.2.1) (h4 : a.2.2.2 = b.2.2.2) : a = b := by
  obtain ⟨a1, a2, a3, a4⟩ := a
  obtain ⟨b1, b2, b3, b4⟩ := b
  simp only at h1 h2 h3 h4
  rw [h1, h2, h3, h4]
theorem dp_0 (a : V4_) : dp_ z4_ a = 0 := by unfold dp_ z4_; grind
/-- what spans with f, or what is at right angles to all -/
theorem sp_ (T : V4_ → Prop) (f : V4_) (hf : f ≠ z4_) : (∃ a b c, T a ∧ T b ∧ T c ∧ dp_ (yy_ a b c) f ≠ 0) ∨ ∃ e, e ≠ z4_ ∧ dp_ e f = 0 ∧ ∀ a, T a → dp_ e a = 0 := by
  by_cases h0 : ∃ a b c, T a ∧ T b ∧ T c ∧ dp_ (yy_ a b c) f ≠ 0
  · exact Or.inl h0
  right
  by_cases h1 : ∃ a b, T a ∧ T b ∧ yy_ a b f ≠ z4_
  · obtain ⟨a, b, ha, hb, hn⟩ := h1
    refine ⟨yy_ a b f, hn, yy_3 a b f, fun c hc => ?_⟩
    rw [yy_s]
    have : dp_ (yy_ a b c) f = 0 := Classical.byContradiction fun q => h0 ⟨a, b, c, ha, hb, hc, q⟩
    rw [this]; rfl
  have h1 : ∀ a b, T a → T b → yy_ a b f = z4_ := fun a b ha hb => Classical.byContradiction fun q => h1 ⟨a, b, ha, hb, q⟩
  by_cases h2 : ∃ a z, T a ∧ yy_ a z f ≠ z4_
  · obtain ⟨a, z, ha, hn⟩ := h2
    refine ⟨yy_ a z f, hn, yy_3 a z f, fun b hb => ?_⟩
    rw [yy_t, h1 b a hb ha, dp_0]
  have h2 : ∀ a z, T a → yy_ a z f = z4_ := fun a z ha => Classical.byContradiction fun q => h2 ⟨a, z, ha, q⟩
  have h3 : ∃ z z', yy_ z z' f ≠ z4_ := by
    apply Classical.byContradiction
    intro no
    have no : ∀ z z', yy_ z z' f = z4_ := fun z z' => Classical.byContradiction fun q => no ⟨z, z', q⟩
    apply hf
    have e1 := no (1, 0, 0, 0) (0, 1, 0, 0)
    have e2 := no (0, 1, 0, 0) (0, 0, 1, 0)
    have e3 := no (1, 0, 0, 0) (0, 0, 1, 0)
    simp only [yy_, z4_, Prod.mk.injEq] at e1 e2 e3
    apply v4_ext
    · show f.1 = 0; omega
    · show f.2.1 = 0
      omega
    · show f.2.2.1 = 0; omega
    · show f.2.2.2 = 0; omega
  obtain ⟨z, z', hn⟩ := h3
  refine ⟨yy_ z z' f, hn, yy_3 z z' f, fun a ha => ?_⟩
  rw [yy_t, h2 a z ha, dp_0]
/-- the first that is met -/
theorem mr_ (num den : V4_ → Int) : ∀ (H : List V4_), (∃ h, h ∈ H ∧ 0 < den h) → (∀ h, h ∈ H → 0 < den h → 0 ≤ num h) → ∃ h0, h0 ∈ H ∧ 0 < den h0 ∧ ∀ h, h ∈ H → 0 < den h → num h0 * den h ≤ num h * den h0
  | [], hx, _ => by obtain ⟨h, q, _⟩ := hx; exact absurd q (by simp)
  | a :: H, hx, hn => by
    by_cases hr : ∃ h, h ∈ H ∧ 0 < den h
    · obtain ⟨h0, q1, q2, q3⟩ := mr_ num den H hr (fun h hh => hn h (by simp [hh]))
      by_cases ha : 0 < den a ∧ num a * den h0 < num h0 * den a
      · refine ⟨a, by simp, ha.1, fun h hh hd => ?_⟩
        rcases List.mem_cons.mp hh with rfl | hh
        · exact Int.le_refl _
        · have k := q3 h hh hd
          -- num a / den a < num h0 / den h0 <= num h / den h
          have m1 : (num a * den h) * den h0 ≤ (num h0 * den h) * den a := by
            have := Int.mul_le_mul_of_nonneg_right (Int.le_of_lt ha.2) (Int.le_of_lt hd)
            grind
          have m2 : (num h0 * den h) * den a ≤ (num h * den h0) * den a := Int.mul_le_mul_of_nonneg_right k (Int.le_of_lt ha.1)
          have m3 : (num a * den h) * den h0 ≤ (num h * den a) * den h0 := by grind
          exact Int.le_of_mul_le_mul_right m3 q2
      · refine ⟨h0, by simp [q1], q2, fun h hh hd => ?_⟩
        rcases List.mem_cons.mp hh with rfl | hh
        · have : ¬ num h * den h0 < num h0 * den h := fun z => ha ⟨hd, z⟩
          omega
        · exact q3 h hh hd
    · obtain ⟨h, q1, q2⟩ := hx
      rcases List.mem_cons.mp q1 with rfl | q1
      · refine ⟨h, by simp, q2, fun h' hh hd => ?_⟩
        rcases List.mem_cons.mp hh with rfl | hh
        · exact Int.le_refl _
        · exact absurd ⟨h', hh, hd⟩ hr
      · exact absurd ⟨h, q1, q2⟩ hr
def nt_ (q : V4_) : List V4_ → Nat
  | [] => 0
  | h :: H => nt_ q H + (if dp_ h q = 0 then 0 else 1)
theorem nt_le {q q' : V4_} : ∀ (H : List V4_), (∀ h, h ∈ H → dp_ h q = 0 → dp_ h q' = 0) → nt_ q' H ≤ nt_ q H
  | [], _ => Nat.le_refl _
  | a :: H, h => by
    have ih := nt_le H (fun x hx => h x (by simp [hx]))
    have ha := h a (by simp)
    unfold nt_
    by_cases z : dp_ a q = 0
    · rw [if_pos z, if_pos (ha z)]
      omega
    · rw [if_neg z]
      split <;> omega
theorem nt_lt {q q' : V4_} : ∀ (H : List V4_), (∀ h, h ∈ H → dp_ h q = 0 → dp_ h q' = 0) → (∃ h, h ∈ H ∧ dp_ h q ≠ 0 ∧ dp_ h q' = 0) → nt_ q' H < nt_ q H
  | [], _, hx => by obtain ⟨h, q, _⟩ := hx; exact absurd q (by simp)
  | a :: H, h, hx => by
    have le := nt_le H (fun x hx => h x (by simp [hx]))
    have ha := h a (by simp)
    unfold nt_
    by_cases z : dp_ a q ≠ 0 ∧ dp_ a q' = 0
    · rw [if_neg z.1, if_pos z.2]
      omega
    · have : ∃ h, h ∈ H ∧ dp_ h q ≠ 0 ∧ dp_ h q' = 0 := by
        obtain ⟨x, x1, x2⟩ := hx
        rcases List.mem_cons.mp x1 with rfl | x1
        · exact absurd x2 z
        · exact ⟨x, x1, x2⟩
      have ih := nt_lt H (fun x hx => h x (by simp [hx])) this
      by_cases w : dp_ a q = 0
      · rw [if_pos w, if_pos (ha w)]; omega
      · rw [if_neg w]
        split <;> omega
theorem nt_z {q : V4_} : ∀ (H : List V4_), nt_ q H = 0 → ∀ h, h ∈ H → dp_ h q = 0
  | [], _, h, hh => absurd hh (by simp)
  | a :: H, hz, h, hh => by
    unfold nt_ at hz
    rcases List.mem_cons.mp hh with rfl | hh
    · apply Classical.byContradiction
      intro z
      rw [if_neg z] at hz
      omega
    · exact nt_z H (by omega) h hh
/-- to an edge -/
theorem ex_ (H : List V4_) (f : V4_) (hs : ∀ e, e ≠ z4_ → ∃ h, h ∈ H ∧ dp_ h e ≠ 0) : ∀ (n : Nat) (q : V4_), nt_ q H ≤ n → (∀ h, h ∈ H → 0 ≤ dp_ h q) → 0 < dp_ f q → ∃ (q' : V4_) (a b c : V4_), (∀ h, h ∈ H → 0 ≤ dp_ h q') ∧ 0 < dp_ f q' ∧ a ∈ H ∧ b ∈ H ∧ c ∈ H ∧ dp_ a q' = 0 ∧ dp_ b q' = 0 ∧ dp_ c q' = 0 ∧ dp_ (yy_ a b c) f ≠ 0 := by
  intro n
  induction n with
  | zero =>
    intro q hn hq hf
    have hfz : f ≠ z4_ := fun z => by rw [z, dp_0] at hf; omega
    have all := nt_z H (show nt_ q H = 0 by omega)
    have qz : q ≠ z4_ := fun z => by rw [z, dp_c, dp_0] at hf; omega
    obtain ⟨h, h1, h2⟩ := hs q qz
    exact absurd (all h h1) h2
  | succ n ih =>
    intro q hn hq hf
    have hfz : f ≠ z4_ := fun z => by rw [z, dp_0] at hf; omega
    rcases sp_ (fun a => a ∈ H ∧ dp_ a q = 0) f hfz with ⟨a, b, c, ha, hb, hc, hd⟩ | ⟨e, e1, e2, e3⟩
    · exact ⟨q, a, b, c, hq, hf, ha.1, hb.1, hc.1, ha.2, hb.2, hc.2, hd⟩
    · have pick : ∃ e, dp_ e f = 0 ∧ (∀ a, a ∈ H → dp_ a q = 0 → dp_ a e = 0) ∧ ∃ h, h ∈ H ∧ dp_ h e < 0 := by
        obtain ⟨h, h1, h2⟩ := hs e e1
        by_cases s : dp_ h e < 0
        · exact ⟨e, e2, fun a ha hz => by rw [dp_c]; exact e3 a ⟨ha, hz⟩, h, h1, s⟩
        · refine ⟨lc_ (-1) e 0 e, ?_, fun a ha hz => ?_, h, h1, ?_⟩
          · rw [dp_c, dp_lc, dp_c, e2]; omega
          · rw [dp_lc, dp_c, e3 a ⟨ha, hz⟩]; omega
          · rw [dp_lc]; omega
      obtain ⟨e, e2, e3, h, h1, h2⟩ := pick
      obtain ⟨h0, q1, q2, q3⟩ := mr_ (fun h => dp_ h q) (fun h => -dp_ h e) H ⟨h, h1, by show 0 < -dp_ h e; omega⟩ (fun h hh _ => hq h hh)
      have q2 : 0 < -dp_ h0 e := q2
      have q3 : ∀ h, h ∈ H → 0 < -dp_ h e → dp_ h0 q * -dp_ h e ≤ dp_ h q * -dp_ h0 e := q3
      have val : ∀ h, dp_ h (lc_ (-dp_ h0 e) q (dp_ h0 q) e) = -dp_ h0 e * dp_ h q + dp_ h0 q * dp_ h e := fun h => dp_lc h _ q _ e
      have tz : dp_ h0 q ≠ 0 := fun z => by have := e3 h0 q1 z; omega
      have new : ∀ h, h ∈ H → 0 ≤ dp_ h (lc_ (-dp_ h0 e) q (dp_ h0 q) e) := by
        intro h hh
        rw [val]
        by_cases s : 0 < -dp_ h e
        · have := q3 h hh s
          grind
        · have a1 := Int.mul_nonneg (Int.le_of_lt q2) (hq h hh)
          have a2 := Int.mul_nonneg (hq h0 q1) (show 0 ≤ dp_ h e by omega)
          omega
      refine ih (lc_ (-dp_ h0 e) q (dp_ h0 q) e) ?_ new ?_
      · have : nt_ (lc_ (-dp_ h0 e) q (dp_ h0 q) e) H < nt_ q H := by
          refine nt_lt H (fun h hh hz => ?_) ⟨h0, q1, tz, ?_⟩
          · rw [val, hz, e3 h hh hz]; omega
          · rw [val]; grind
        omega
      · rw [val, dp_c f e, e2]
        have := Int.mul_pos q2 hf
        omega
/-- then it is what the three give -/
theorem cr_ (a b c f q : V4_) (ha : dp_ a q = 0) (hb : dp_ b q = 0) (hc : dp_ c q = 0) : dp_ (yy_ a b c) f * q.1 = dp_ f q * (yy_ a b c).1 ∧ dp_ (yy_ a b c) f * q.2.1 = dp_ f q * (yy_ a b c).2.1 ∧ dp_ (yy_ a b c) f * q.2.2.1 = dp_ f q * (yy_ a b c).2.2.1 ∧ dp_ (yy_ a b c) f * q.2.2.2 = dp_ f q * (yy_ a b c).2.2.2 := by
  unfold dp_ yy_ at *
  refine ⟨?_, ?_, ?_, ?_⟩ <;> grind
