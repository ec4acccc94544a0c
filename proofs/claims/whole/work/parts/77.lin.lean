def cx_ (a b : V4_) : V4_ := (a.2.1 * b.2.2.1 - a.2.2.1 * b.2.1, a.2.2.1 * b.1 - a.1 * b.2.2.1, a.1 * b.2.1 - a.2.1 * b.1, 0)
def d3_ (a b c : V4_) : Int := a.1 * (cx_ b c).1 + a.2.1 * (cx_ b c).2.1 + a.2.2.1 * (cx_ b c).2.2.1
def e3_ : V4_ := (0, 0, 0, 1)
theorem dp_e3 (q : V4_) : dp_ e3_ q = q.2.2.2 := by unfold dp_ e3_; grind
theorem yy_d3 (a b c : V4_) : (yy_ a b c).2.2.2 = -d3_ a b c := by unfold yy_ d3_ cx_; grind
theorem yy_cx {a b c : V4_} (h1 : cx_ b c = z4_) (h2 : cx_ c a = z4_) (h3 : cx_ a b = z4_) : yy_ a b c = z4_ := by
  simp only [cx_, z4_, Prod.mk.injEq] at h1 h2 h3
  unfold yy_ z4_
  obtain ⟨a1, a2, a3, -⟩ := h1
  obtain ⟨b1, b2, b3, -⟩ := h2
  obtain ⟨c1, c2, c3, -⟩ := h3
  rw [a1, a2, a3, b1, b2, b3, c1, c2, c3]
  simp
theorem cx_e3 (a : V4_) : cx_ a e3_ = z4_ ∧ cx_ e3_ a = z4_ := by
  unfold cx_ e3_ z4_; simp
def ng_ (a : V4_) : V4_ := lc_ (-1) a 0 a
theorem dp_ng (a q : V4_) : dp_ (ng_ a) q = -dp_ a q := by unfold ng_; rw [dp_c, dp_lc, dp_c]; omega
theorem yy_n1 (a b c f : V4_) : dp_ (yy_ (ng_ a) b c) f = -dp_ (yy_ a b c) f := by unfold dp_ yy_ ng_ lc_; grind
theorem yy_n2 (a b c f : V4_) : dp_ (yy_ a (ng_ b) c) f = -dp_ (yy_ a b c) f := by unfold dp_ yy_ ng_ lc_; grind
theorem yy_n3 (a b c f : V4_) : dp_ (yy_ a b (ng_ c)) f = -dp_ (yy_ a b c) f := by unfold dp_ yy_ ng_ lc_; grind
/-- planes that end every number -/
def ax_ (L : List V4_) : Prop := (∃ h, h ∈ L ∧ (h.1 = 1 ∨ h.1 = -1) ∧ h.2.1 = 0 ∧ h.2.2.1 = 0) ∧ (∃ h, h ∈ L ∧ h.1 = 0 ∧ (h.2.1 = 1 ∨ h.2.1 = -1) ∧ h.2.2.1 = 0) ∧ (∃ h, h ∈ L ∧ h.1 = 0 ∧ h.2.1 = 0 ∧ (h.2.2.1 = 1 ∨ h.2.2.1 = -1))
def sg_ (q a : V4_) : V4_ := if 0 ≤ dp_ a q then a else ng_ a
theorem sg_ge (q a : V4_) : 0 ≤ dp_ (sg_ q a) q := by
  unfold sg_
  split
  · assumption
  · rw [dp_ng]; omega
theorem sg_or (q a : V4_) : sg_ q a = a ∨ sg_ q a = ng_ a := by
  unfold sg_
  split
  · exact Or.inl rfl
  · exact Or.inr rfl
theorem exA_ (B X : List V4_) (hax : ax_ (B ++ X)) (f q : V4_) (hB : ∀ g, g ∈ B → 0 ≤ dp_ g q) (h3 : 0 ≤ q.2.2.2) (hf : 0 < dp_ f q) : ∃ q', (∀ g, g ∈ B → 0 ≤ dp_ g q') ∧ 0 ≤ q'.2.2.2 ∧ 0 < dp_ f q' ∧ ((0 < q'.2.2.2 ∧ ∃ a b c, a ∈ B ++ X ∧ b ∈ B ++ X ∧ c ∈ B ++ X ∧ dp_ a q' = 0 ∧ dp_ b q' = 0 ∧ dp_ c q' = 0 ∧ d3_ a b c ≠ 0) ∨ (q'.2.2.2 = 0 ∧ ∃ a b, a ∈ B ++ X ∧ b ∈ B ++ X ∧ dp_ a q' = 0 ∧ dp_ b q' = 0 ∧ cx_ a b ≠ z4_)) := by
  have hs : ∀ e, e ≠ z4_ → ∃ h, h ∈ B ++ (X.map (sg_ q) ++ [e3_]) ∧ dp_ h e ≠ 0 := by
    intro e he
    by_cases e4 : e.2.2.2 = 0
    · have key : ∀ h, h ∈ B ++ X → dp_ h e ≠ 0 → ∃ h, h ∈ B ++ (X.map (sg_ q) ++ [e3_]) ∧ dp_ h e ≠ 0 := by
        intro h hh hn
        rcases List.mem_append.mp hh with hb | hx
        · exact ⟨h, by simp [hb], hn⟩
        · refine ⟨sg_ q h, ?_, ?_⟩
          · rw [List.mem_append, List.mem_append]
            exact Or.inr (Or.inl (List.mem_map.mpr ⟨h, hx, rfl⟩))
          · rcases sg_or q h with z | z
            · rw [z]; exact hn
            · rw [z, dp_ng]; omega
      obtain ⟨⟨u, u1, u2, u3, u4⟩, ⟨v, v1, v2, v3, v4⟩, ⟨w, w1, w2, w3, w4⟩⟩ := hax
      by_cases c1 : e.1 = 0
      · by_cases c2 : e.2.1 = 0
        · by_cases c3 : e.2.2.1 = 0
          · exact absurd (v4_ext c1 c2 c3 e4) he
          · refine key w w1 ?_
            unfold dp_
            rw [w2, w3, e4]
            rcases w4 with w4 | w4 <;> rw [w4] <;> omega
        · refine key v v1 ?_
          unfold dp_
          rw [v2, v4, e4]
          rcases v3 with v3 | v3 <;> rw [v3] <;> omega
      · refine key u u1 ?_
        unfold dp_
        rw [u3, u4, e4]
        rcases u2 with u2 | u2 <;> rw [u2] <;> omega
    · exact ⟨e3_, by simp, by rw [dp_e3]; exact e4⟩
  have hq : ∀ h, h ∈ B ++ (X.map (sg_ q) ++ [e3_]) → 0 ≤ dp_ h q := by
    intro h hh
    rw [List.mem_append, List.mem_append, List.mem_singleton, List.mem_map] at hh
    rcases hh with hb | ⟨x, _, rfl⟩ | rfl
    · exact hB h hb
    · exact sg_ge q x
    · rw [dp_e3]; exact h3
  obtain ⟨q', a, b, c, k1, k2, ka, kb, kc, za, zb, zc, kd⟩ := ex_ _ f hs _ q (Nat.le_refl _) hq hf
  have back : ∀ a, a ∈ B ++ (X.map (sg_ q) ++ [e3_]) → ∃ a0, (a0 ∈ B ++ X ∨ a0 = e3_) ∧ (a = a0 ∨ a = ng_ a0) := by
    intro h hh
    rw [List.mem_append, List.mem_append, List.mem_singleton, List.mem_map] at hh
    rcases hh with hb | ⟨x, hx, rfl⟩ | rfl
    · exact ⟨h, Or.inl (by simp [hb]), Or.inl rfl⟩
    · exact ⟨x, Or.inl (by simp [hx]), sg_or q x⟩
    · exact ⟨e3_, Or.inr rfl, Or.inl rfl⟩
  obtain ⟨a0, a1, a2⟩ := back a ka
  obtain ⟨b0, b1, b2⟩ := back b kb
  obtain ⟨c0, c1, c2⟩ := back c kc
  have zz : ∀ {x y : V4_}, (x = y ∨ x = ng_ y) → dp_ x q' = 0 → dp_ y q' = 0 := by
    intro x y hxy hz
    rcases hxy with rfl | rfl
    · exact hz
    · rw [dp_ng] at hz; omega
  have za := zz a2 za
  have zb := zz b2 zb
  have zc := zz c2 zc
  have kd : dp_ (yy_ a0 b0 c0) f ≠ 0 := by
    have s1 : dp_ (yy_ a0 b c) f ≠ 0 := by
      rcases a2 with rfl | rfl
      · exact kd
      · rw [yy_n1] at kd; omega
    have s2 : dp_ (yy_ a0 b0 c) f ≠ 0 := by
      rcases b2 with rfl | rfl
      · exact s1
      · rw [yy_n2] at s1; omega
    rcases c2 with rfl | rfl
    · exact s2
    · rw [yy_n3] at s2; omega
  have q3 : 0 ≤ q'.2.2.2 := by
    have := k1 e3_ (by simp)
    rw [dp_e3] at this; exact this
  refine ⟨q', fun g hg => k1 g (by simp [hg]), q3, k2, ?_⟩
  by_cases pos : 0 < q'.2.2.2
  · left
    have ne : ∀ {x : V4_}, (x ∈ B ++ X ∨ x = e3_) → dp_ x q' = 0 → x ∈ B ++ X := by
      intro x hx hz
      rcases hx with h | rfl
      · exact h
      · rw [dp_e3] at hz; omega
    refine ⟨pos, a0, b0, c0, ne a1 za, ne b1 zb, ne c1 zc, za, zb, zc, fun hd => ?_⟩
    have := (cr_ a0 b0 c0 f q' za zb zc).2.2.2
    rw [yy_d3, hd] at this
    have : dp_ (yy_ a0 b0 c0) f * q'.2.2.2 = 0 := by rw [this]; omega
    rcases Int.mul_eq_zero.mp this with z | z
    · exact kd z
    · omega
  · right
    have q0 : q'.2.2.2 = 0 := by omega
    refine ⟨q0, ?_⟩
    have ne : ∀ {x y : V4_}, (x ∈ B ++ X ∨ x = e3_) → (y ∈ B ++ X ∨ y = e3_) → cx_ x y ≠ z4_ → x ∈ B ++ X ∧ y ∈ B ++ X := by
      intro x y hx hy hn
      refine ⟨?_, ?_⟩
      · rcases hx with h | rfl
        · exact h
        · exact absurd (cx_e3 y).2 hn
      · rcases hy with h | rfl
        · exact h
        · exact absurd (cx_e3 x).1 hn
    by_cases x1 : cx_ b0 c0 = z4_
    · by_cases x2 : cx_ c0 a0 = z4_
      · by_cases x3 : cx_ a0 b0 = z4_
        · rw [yy_cx x1 x2 x3, dp_0] at kd
          exact absurd rfl kd
        · exact ⟨a0, b0, (ne a1 b1 x3).1, (ne a1 b1 x3).2, za, zb, x3⟩
      · exact ⟨c0, a0, (ne c1 a1 x2).1, (ne c1 a1 x2).2, zc, za, x2⟩
    · exact ⟨b0, c0, (ne b1 c1 x1).1, (ne b1 c1 x1).2, zb, zc, x1⟩
