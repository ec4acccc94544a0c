/-! GOING ROUND, in pure words: an end is none where it is open -/
abbrev E_ := Nat → Option Int
def ec_ : Option Int → Int64
  | none => -3000000000000
  | some v => Int64.ofInt v
def bd_ (B : Int) (o : Option Int) : Prop := ∀ v, o = some v → -B ≤ v ∧ v ≤ B
theorem ec_t {v : Int} (h1 : -100000000000 ≤ v) (h2 : v ≤ 100000000000) : (Int64.ofInt v).toInt = v := by
  rw [Int64.toInt_ofInt]
  exact bm64 (by omega) (by omega)
theorem ec_no {v : Int} (h1 : -100000000000 ≤ v) (h2 : v ≤ 100000000000) : ¬ Int64.ofInt v = -3000000000000 := fun q => by
  have := congrArg Int64.toInt q
  rw [ec_t h1 h2] at this
  have z : (-3000000000000 : Int64).toInt = -3000000000000 := rfl
  rw [z] at this
  omega
theorem ec_op {o : Option Int} (h : bd_ 100000000000 o) : ec_ o = -3000000000000 ↔ o = none := by
  cases o with
  | none => exact ⟨fun _ => rfl, fun _ => rfl⟩
  | some v => exact ⟨fun q => absurd q (ec_no (h v rfl).1 (h v rfl).2), fun q => by cases q⟩
theorem ec_in {a b : Option Int} (ha : bd_ 100000000000 a) (hb : bd_ 100000000000 b) : ec_ a = ec_ b ↔ a = b := by
  constructor
  · intro h
    cases a with
    | none => exact ((ec_op hb).mp h.symm).symm
    | some v =>
      cases b with
      | none => exact (ec_op ha).mp h
      | some w =>
        have := congrArg Int64.toInt h
        have e1 : (ec_ (some v)).toInt = v := ec_t (ha v rfl).1 (ha v rfl).2
        have e2 : (ec_ (some w)).toInt = w := ec_t (hb w rfl).1 (hb w rfl).2
        rw [e1, e2] at this
        rw [this]
  · intro h; rw [h]
theorem bd_mn {A B : Int} {o : Option Int} (h : bd_ A o) (hAB : A ≤ B) : bd_ B o := fun v hv => by
  have := h v hv
  omega
/-- the least (s = 0) or greatest (s = 1) value of a row over ends -/
def fs_ (w : Int) (E : E_) (i s : Nat) : Option Int → Option Int
  | none => none
  | some a => if w = 0 then some a else match E (2 * i + (if 0 < w then s else 1 - s)) with
    | none => none
    | some e => some (a + w * e)
def fa_ (w : Nat → Int) (k0 : Int) (E : E_) (s : Nat) : Option Int := fs_ (w 2) E 2 s (fs_ (w 1) E 1 s (fs_ (w 0) E 0 s (some k0)))
theorem fs_b {w : Int} {E : E_} {i s : Nat} {o : Option Int} {A : Int} (hw1 : -20 ≤ w) (hw2 : w ≤ 20) (hE : ∀ k, k < 6 → bd_ 1000000000 (E k)) (hi : i < 3) (hs : s < 2) (ho : bd_ A o) : bd_ (A + 20000000000) (fs_ w E i s o) := by
  intro v hv
  cases o with
  | none => cases hv
  | some a =>
    have ha := ho a rfl
    have hv' : (if w = 0 then some a else match E (2 * i + (if 0 < w then s else 1 - s)) with | none => none | some e => some (a + w * e)) = some v := hv
    by_cases h : w = 0
    · rw [if_pos h] at hv'
      cases hv'
      omega
    · rw [if_neg h] at hv'
      have hk : 2 * i + (if 0 < w then s else 1 - s) < 6 := by split <;> omega
      cases he : E (2 * i + (if 0 < w then s else 1 - s)) with
      | none => rw [he] at hv'; cases hv'
      | some e =>
        rw [he] at hv'
        have eb := hE _ hk e he
        have ev : a + w * e = v := Option.some.inj hv'
        have b1 : w * e ≤ 20 * 1000000000 ∧ -(20 * 1000000000) ≤ w * e := by
          have q1 : (w * e).natAbs ≤ 20 * 1000000000 := by
            rw [Int.natAbs_mul]
            exact Nat.mul_le_mul (by omega) (by omega)
          omega
        omega
theorem fa_b {w : Nat → Int} {k0 : Int} {E : E_} {s : Nat} (hw : ∀ i, i < 3 → -20 ≤ w i ∧ w i ≤ 20) (hk1 : -1000 ≤ k0) (hk2 : k0 ≤ 1000) (hE : ∀ k, k < 6 → bd_ 1000000000 (E k)) (hs : s < 2) : bd_ 100000000000 (fa_ w k0 E s) := by
  have h0 : bd_ 1000 (some k0) := fun v hv => by cases hv; omega
  have h1 := fs_b (hw 0 (by omega)).1 (hw 0 (by omega)).2 hE (show 0 < 3 by omega) hs h0
  have h2 := fs_b (hw 1 (by omega)).1 (hw 1 (by omega)).2 hE (show 1 < 3 by omega) hs h1
  have h3 := fs_b (hw 2 (by omega)).1 (hw 2 (by omega)).2 hE (show 2 < 3 by omega) hs h2
  exact bd_mn h3 (by omega)
/-- one of k from g on is below 0 everywhere -/
def pa_ (v : Nat → Option Int) : Nat → Nat → Bool
  | 0, _ => false
  | k + 1, g => match v g with
    | none => pa_ v k (g + 1)
    | some z => if z < 0 then true else pa_ v k (g + 1)
theorem pa_c {v w : Nat → Option Int} : ∀ (k g : Nat), (∀ j, g ≤ j → j < g + k → v j = w j) → pa_ v k g = pa_ w k g
  | 0, _, _ => rfl
  | k + 1, g, h => by
    unfold pa_
    rw [h g (by omega) (by omega), pa_c k (g + 1) (fun j h1 h2 => h j (by omega) (by omega))]
def wd_ (s : Nat) : Option Int → Option Int → Option Int
  | some x, some y => some (if s = 0 then (if y < x then y else x) else (if x < y then y else x))
  | _, _ => none
theorem wd_b {B : Int} {s : Nat} {a b : Option Int} (ha : bd_ B a) (hb : bd_ B b) : bd_ B (wd_ s a b) := by
  intro v hv
  cases a with
  | none => cases hv
  | some x =>
    cases b with
    | none => cases hv
    | some y =>
      have e : (if s = 0 then (if y < x then y else x) else (if x < y then y else x)) = v := Option.some.inj hv
      have h1 := ha x rfl
      have h2 := hb y rfl
      rw [← e]
      split <;> split <;> omega
theorem wd_n {s : Nat} {b : Option Int} : wd_ s none b = none := rfl
def pb_ (j : Nat) (R NE : E_) : E_ := fun k => if k < j then wd_ (k % 2) (NE k) (R k) else NE k
def ls_ (n : Nat) (P : Nat → Bool) (R : Nat → E_) : Nat → Nat → E_ → E_
  | 0, _, NE => NE
  | k + 1, b, NE => ls_ n P R k (b + 1) (if P b = true then NE else pb_ (2 * n) (R b) NE)
theorem ls_c {n : Nat} {P P' : Nat → Bool} {R R' : Nat → E_} : ∀ (k b : Nat) (NE : E_), (∀ j, b ≤ j → j < b + k → P j = P' j ∧ ∀ q, q < 2 * n → R j q = R' j q) → ls_ n P R k b NE = ls_ n P' R' k b NE
  | 0, _, _, _ => rfl
  | k + 1, b, NE, h => by
    unfold ls_
    have e : pb_ (2 * n) (R b) NE = pb_ (2 * n) (R' b) NE := by
      funext q
      unfold pb_
      by_cases hq : q < 2 * n
      · rw [if_pos hq, if_pos hq, (h b (by omega) (by omega)).2 q hq]
      · rw [if_neg hq, if_neg hq]
    rw [(h b (by omega) (by omega)).1, e, ls_c k (b + 1) _ (fun j h1 h2 => h j (by omega) (by omega))]
theorem ls_hi {n : Nat} {P : Nat → Bool} {R : Nat → E_} {q : Nat} (hq : 2 * n ≤ q) : ∀ (k b : Nat) (NE : E_), ls_ n P R k b NE q = NE q
  | 0, _, _ => rfl
  | k + 1, b, NE => by
    unfold ls_
    rw [ls_hi hq k (b + 1)]
    split
    · rfl
    · exact if_neg (by omega)
theorem ls_no {n : Nat} {P : Nat → Bool} {R : Nat → E_} {q : Nat} : ∀ (k b : Nat) (NE : E_), NE q = none → ls_ n P R k b NE q = none
  | 0, _, _, h => h
  | k + 1, b, NE, h => by
    unfold ls_
    apply ls_no k (b + 1)
    split
    · exact h
    · unfold pb_
      split
      · rw [h]; rfl
      · exact h
theorem ls_b {B : Int} {n nb : Nat} {P : Nat → Bool} {R : Nat → E_} (hR : ∀ b q, b < nb → q < 6 → bd_ B (R b q)) : ∀ (k b : Nat) (NE : E_), b + k ≤ nb → (∀ q, q < 6 → bd_ B (NE q)) → ∀ q, q < 6 → bd_ B (ls_ n P R k b NE q)
  | 0, _, _, _, h => h
  | k + 1, b, NE, hb, h => by
    intro q hq
    unfold ls_
    refine ls_b hR k (b + 1) _ (by omega) (fun q hq => ?_) q hq
    split
    · exact h q hq
    · unfold pb_
      split
      · exact wd_b (h q hq) (hR b q (by omega) hq)
      · exact h q hq
/-- opening what has changed -/
def se_ (o : Bool) (E NE : E_) : E_ := fun k => if o = true ∧ NE k ≠ E k then none else NE k
def cg_ (E NE : E_) : Nat → Bool
  | 0 => false
  | k + 1 => cg_ E NE k || decide (NE k ≠ E k)
def ou_ (E : E_) : Nat → Bool
  | 0 => false
  | k + 1 => ou_ E k || (match E k with | none => false | some v => decide (v < -1000000000) || decide (1000000000 < v))
theorem cg_t {E NE : E_} : ∀ {k : Nat}, cg_ E NE k = true ↔ ∃ q, q < k ∧ NE q ≠ E q
  | 0 => ⟨(fun h => absurd (show false = true from h) (by decide)), fun ⟨q, hq, _⟩ => absurd hq (by omega)⟩
  | k + 1 => by
    unfold cg_
    rw [Bool.or_eq_true, decide_eq_true_iff, cg_t]
    constructor
    · rintro (⟨q, h1, h2⟩ | h)
      · exact ⟨q, by omega, h2⟩
      · exact ⟨k, by omega, h⟩
    · rintro ⟨q, h1, h2⟩
      by_cases e : q = k
      · right; rw [← e]; exact h2
      · exact Or.inl ⟨q, by omega, h2⟩
theorem ou_f {E : E_} : ∀ {k : Nat}, ou_ E k = false → ∀ q, q < k → bd_ 1000000000 (E q)
  | 0, _, q, hq => absurd hq (by omega)
  | k + 1, h, q, hq => by
    unfold ou_ at h
    rw [Bool.or_eq_false_iff] at h
    by_cases e : q = k
    · rw [e]
      intro v hv
      have h2 := h.2
      rw [hv] at h2
      simp only [Bool.or_eq_false_iff, decide_eq_false_iff_not] at h2
      omega
    · exact ou_f h.1 q (by omega)
/-- how many are not open -/
def cn_ (E : E_) : Nat → Nat
  | 0 => 0
  | k + 1 => cn_ E k + (match E k with | none => 0 | some _ => 1)
theorem cn_le {E E' : E_} (h : ∀ q, E q = none → E' q = none) : ∀ k, cn_ E' k ≤ cn_ E k
  | 0 => Nat.le_refl 0
  | k + 1 => by
    unfold cn_
    have := cn_le h k
    cases e : E k with
    | none => rw [h k e]; exact this
    | some v =>
      cases E' k with
      | none => exact Nat.le_trans this (Nat.le_add_right _ _)
      | some w => exact Nat.add_le_add_right this 1
theorem cn_lt {E E' : E_} (h : ∀ q, E q = none → E' q = none) : ∀ k q, q < k → E q ≠ none → E' q = none → cn_ E' k < cn_ E k
  | 0, q, hq, _, _ => absurd hq (by omega)
  | k + 1, q, hq, h1, h2 => by
    unfold cn_
    by_cases e : q = k
    · rw [e] at h1 h2
      have := cn_le h k
      cases e1 : E k with
      | none => exact absurd e1 h1
      | some v => rw [h2]; show cn_ E' k + 0 < cn_ E k + 1; omega
    · have := cn_lt h k q (by omega) h1 h2
      cases e1 : E k with
      | none => rw [h k e1]; exact this
      | some v =>
        cases E' k with
        | none => show cn_ E' k + 0 < cn_ E k + 1; omega
        | some w => show cn_ E' k + 1 < cn_ E k + 1; omega
/-- rounds: how many, or none where one is OUT; and the ends that HOLD -/
def gr_ (NX : E_ → E_) (w : Nat) : Nat → Nat → E_ → Option (Option (Nat × E_))
  | 0, _, _ => none
  | f + 1, j, E => if cg_ E (NX E) 6 = true then (if ou_ (se_ (decide (w ≤ j)) E (NX E)) 6 = true then some none else gr_ NX w f (j + 1) (se_ (decide (w ≤ j)) E (NX E))) else some (some (j, E))
theorem cn_6 (E : E_) : cn_ E 6 ≤ 6 := by
  have : ∀ k, cn_ E k ≤ k := by
    intro k
    induction k with
    | zero => exact Nat.le_refl 0
    | succ k ih =>
      unfold cn_
      cases E k with
      | none => show cn_ E k + 0 ≤ k + 1; omega
      | some v => show cn_ E k + 1 ≤ k + 1; omega
  exact this 6
/-- they come to an end within 27 -/
theorem gr_end {NX : E_ → E_} {w : Nat} (hw1 : 1 ≤ w) (hw2 : w ≤ 20) (hno : ∀ E q, E q = none → NX E q = none) : ∀ (f j : Nat) (E : E_), 1 ≤ j → j + f = 28 → (w ≤ j → cn_ E 6 + j ≤ w + 6) → ∃ o, gr_ NX w f j E = some o
  | 0, j, E, h1, h2, h3 => by
    have := h3 (by omega)
    omega
  | f + 1, j, E, h1, h2, h3 => by
    unfold gr_
    by_cases hc : cg_ E (NX E) 6 = true
    · rw [if_pos hc]
      by_cases ho : ou_ (se_ (decide (w ≤ j)) E (NX E)) 6 = true
      · rw [if_pos ho]; exact ⟨_, rfl⟩
      · rw [if_neg ho]
        refine gr_end hw1 hw2 hno f (j + 1) _ (by omega) (by omega) (fun hj => ?_)
        have mono : ∀ q, E q = none → se_ (decide (w ≤ j)) E (NX E) q = none := fun q hq => by
          unfold se_
          split
          · rfl
          · exact hno E q hq
        by_cases hwj : w ≤ j
        · obtain ⟨q, q1, q2⟩ := cg_t.mp hc
          have nE : E q ≠ none := fun z => q2 (by rw [z]; exact hno E q z)
          have := cn_lt mono 6 q q1 nE (by
            unfold se_
            rw [if_pos ⟨decide_eq_true hwj, q2⟩])
          have := h3 hwj
          omega
        · have := cn_6 (se_ (decide (w ≤ j)) E (NX E))
          omega
    · rw [if_neg hc]; exact ⟨_, rfl⟩
