/-! the pure machine: memory of numbered cells; a method's run against a pure function of its memory -/
abbrev xm_S : Type := Nat × (Nat → Nat × Nat) × (Nat → Nat → Option Nat) × (Nat → Nat → Int32) × (Nat → Nat → Int64)
abbrev xm_M : Type := MethodName × ByteArray × Nat × Option FieldType × Nat × Nat
abbrev xm_G : Type := va_G × ClassId × ClassId × ClassId × ClassId × ClassId
def xm_tys (G : xm_G) : List (ClassId × FieldType) := [(G.2.1, .int), (G.2.2.1, .long), (G.2.2.2.1, .boolean), (G.2.2.2.2.1, .object RX0), (G.2.2.2.2.2, .object RX1)]
/-- kinds of the slots of a class: 0 int, 1 long, 2 reference, 3 boolean -/
def xm_ft (ci : Nat) : List Nat := match ci with
  | 0 => [2, 0]
  | 1 => [2, 2, 2, 2, 0]
  | 2 => [2]
  | 3 => [2, 0, 2, 0, 2, 0, 0, 0]
  | 4 => [2, 2, 0]
  | 5 => [2, 2, 0, 2, 2, 1, 3]
  | 6 => [2, 0, 0, 3]
  | 7 => [2, 0, 0]
  | 8 => [2, 2]
  | 9 => [2, 0, 0, 2]
  | 10 => [2, 0, 0, 0, 0, 0]
  | 11 => [2, 2, 2, 2, 2, 2, 2, 2, 2, 2]
  | 12 => [0, 0, 2, 2, 2, 2, 2, 2, 2, 2, 2, 0, 2, 1, 1, 1, 3, 3, 2, 0, 2, 3, 2, 2, 2, 2, 0, 2, 2, 2, 2, 2, 2, 2, 2, 2, 0, 2, 2, 2, 0, 0, 0, 0, 2, 2, 2, 2, 3, 1]
  | _ => []
def xm_val (base : Nat) (σ : xm_S) (k j t : Nat) : Value := if t = 1 then .long (σ.2.2.2.2 k j) else if t = 2 then va_rf ((σ.2.2.1 k j).map (fun a => base + a)) else .int (σ.2.2.2.1 k j)
def xm_ent (G : xm_G) (base : Nat) (σ : xm_S) (k : Nat) : va_E :=
  if (σ.2.1 k).1 = 13 then .inl (G.2.1, (σ.2.1 k).2, .inl (σ.2.2.2.1 k))
  else if (σ.2.1 k).1 = 14 then .inl (G.2.2.1, (σ.2.1 k).2, .inr (.inl (σ.2.2.2.2 k)))
  else if (σ.2.1 k).1 = 15 then .inl (G.2.2.2.1, (σ.2.1 k).2, .inl (σ.2.2.2.1 k))
  else if (σ.2.1 k).1 = 16 then .inl (G.2.2.2.2.1, (σ.2.1 k).2, .inr (.inr (.inr (.inr (fun j => (σ.2.2.1 k j).map (fun a => base + a))))))
  else if (σ.2.1 k).1 = 17 then .inl (G.2.2.2.2.2, (σ.2.1 k).2, .inr (.inr (.inr (.inr (fun j => (σ.2.2.1 k j).map (fun a => base + a))))))
  else .inr ((σ.2.1 k).1, (xm_ft (σ.2.1 k).1).mapIdx (fun j t => xm_val base σ k j t))
def xm_ws (G : xm_G) (base : Nat) (σ : xm_S) : va_W := (List.range σ.1).map (fun k => (base + k, xm_ent G base σ k))
def xm_is (σ : xm_S) (k kd n : Nat) : Prop := k < σ.1 ∧ σ.2.1 k = (kd, n)
theorem xm_ws_at {G : xm_G} {base : Nat} {σ : xm_S} {k : Nat} (h : k < σ.1) : (xm_ws G base σ)[k]? = some (base + k, xm_ent G base σ k) := by
  simp [xm_ws, h]
theorem xm_ws_inv {G : xm_G} {base : Nat} {σ : xm_S} {k : Nat} {q : Nat × va_E} (h : (xm_ws G base σ)[k]? = some q) : k < σ.1 ∧ q = (base + k, xm_ent G base σ k) := by
  have hk : k < σ.1 := by
    have := (List.getElem?_eq_some_iff.mp h).1
    simpa [xm_ws] using this
  exact ⟨hk, (Option.some.inj ((xm_ws_at hk).symm.trans h)).symm⟩
theorem xm_D {G : xm_G} {base : Nat} {σ : xm_S} : va_D (fun q => base ≤ q) (xm_ws G base σ) := by
  refine ⟨fun i j p q hp hq he => ?_, fun k q hq => ?_⟩
  · obtain ⟨-, rfl⟩ := xm_ws_inv hp
    obtain ⟨-, rfl⟩ := xm_ws_inv hq
    dsimp only at he
    omega
  · obtain ⟨-, rfl⟩ := xm_ws_inv hq
    exact Nat.le_add_right _ _
theorem xm_set {G : xm_G} {base : Nat} {σ σ' : xm_S} {k : Nat} {e : va_E} (h1 : σ'.1 = σ.1) (hk : k < σ.1) (he : xm_ent G base σ' k = e) (hne : ∀ j, j ≠ k → xm_ent G base σ' j = xm_ent G base σ j) : (xm_ws G base σ).set k (base + k, e) = xm_ws G base σ' := by
  apply List.ext_getElem?
  intro i
  rw [List.getElem?_set]
  by_cases hi : k = i
  · subst hi
    rw [if_pos rfl, xm_ws_at (by rw [h1]; exact hk), if_pos (by simpa [xm_ws] using hk), he]
  · rw [if_neg hi]
    by_cases hl : i < σ.1
    · rw [xm_ws_at hl, xm_ws_at (by rw [h1]; exact hl), hne i (fun q => hi q.symm)]
    · rw [List.getElem?_eq_none (by simpa [xm_ws] using hl), List.getElem?_eq_none (by simpa [xm_ws, h1] using hl)]
def xm_W (G : xm_G) (base : Nat) (σ : xm_S) (H : Heap) : Prop := va_P G.1 vwCl (xm_ws G base σ) H
/-- words that a caller keeps by their own rows -/
def xm_N (s : State) : Prop := (∀ (a : String) (i : Nat) (x : MethodName) (h : String), Cond.methodLinkNest a i x h ∈ lw_tbl → va_Nw (.methodLinkNest a i x h) s) ∧ va_AO RX0 s ∧ va_AO RX1 s
def xm_C (G : xm_G) (base b L : Nat) (xs : Nat → Int32) (M : xm_M) (p : Program) (s : State) (m : MethodId) (args : Array Value) (meth : Method) (c : Code) : Prop :=
  p.tables.exec = Jvm.exec ∧ c.code = M.2.1 ∧ meth.sig.returnType = M.2.2.2.1 ∧ c.maxLocals = M.2.2.1 ∧ s.vm.findClass M.1.cls = some m.cls ∧ (∀ w ∈ xm_tb, w.before args s = true) ∧ meth.locks = false ∧ meth.name = M.1.name ∧ va_K G.1 vwCl (xm_tys G) s ∧ base ≤ s.heap.size ∧ va_X b L xs s s.heap ∧ b < base ∧ xm_N s
/-- a pure value, as the machine holds it: cells by their numbers from base on; a float stands for the law's own script -/
def xm_r (base b : Nat) (v : Value) : Value := match v with
  | .ref a => .ref (base + a)
  | .float _ => .ref b
  | v => v
theorem xm_r_cat (base b : Nat) (v : Value) : (xm_r base b v).category = v.category := by cases v <;> rfl
def xm_L (base b : Nat) (ls : Array Slot) (n : Nat) (lv : List (Option Value)) : Prop := ∃ l : List (Nat × Value), lv_has ls n l ∧ ∀ (i : Nat) (v : Value), lv[i]? = some (some v) → (i, xm_r base b v) ∈ l
theorem xm_L.at {base b : Nat} {ls : Array Slot} {n : Nat} {lv : List (Option Value)} (h : xm_L base b ls n lv) {i : Nat} {v : Value} (hi : lv[i]? = some (some v)) : ls[i]? = some (.val (xm_r base b v)) := by
  obtain ⟨l, h1, h2⟩ := h
  exact h1.2.2 _ (h2 i v hi)
theorem xm_L.size {base b : Nat} {ls : Array Slot} {n : Nat} {lv : List (Option Value)} (h : xm_L base b ls n lv) : ls.size = n := by
  obtain ⟨l, h1, -⟩ := h
  exact h1.1
/-- a return of the fitting kind at pc -/
def xm_rt (M : xm_M) (pc : Nat) (v : Option Value) : Prop := match v with
  | some (.int x) => decode M.2.1 pc = .ok (.ireturn, 1) ∧ (M.2.2.2.1 = some .int ∨ (M.2.2.2.1 = some .boolean ∧ (x = 0 ∨ x = 1)))
  | some (.long _) => decode M.2.1 pc = .ok (.lreturn, 1) ∧ M.2.2.2.1 = some .long
  | none => decode M.2.1 pc = .ok (.return_, 1) ∧ M.2.2.2.1 = none
  | _ => False
/-- from pc on, with locals lv, stack st and memory σ, the method comes to a return with what o says, if it says anything -/
def xs_ {α S : Type} (em : α → Option Value) (sg : S → xm_S) (M : xm_M) (pc : Nat) (lv : List (Option Value)) (st : List Value) (σ : S) (bc bs : Nat) (o : Option (α × S)) : Prop :=
  ∀ (r : α) (σ' : S), o = some (r, σ') → ∀ (G : xm_G) (base b L : Nat) (xs : Nat → Int32) (l : Launch) (p : Program) (e : Env) (R : Room) (s : State) (m : MethodId) (args : Array Value) (below : List Frame) (meth : Method) (c : Code) (H : Heap) (locs : List Loc) (cells slots : Nat) (ls : Array Slot) (Q : State → Prop),
    xm_C G base b L xs M p s m args meth c → M.2.2.2.2.1 ≤ R.frames → M.2.2.2.2.2 ≤ R.locals → cells + bc ≤ R.cells → slots + bs ≤ R.slots → xm_L base b ls M.2.2.1 lv → xm_W G base (sg σ) H → s.heap.size + cells = base + (sg σ).1 → va_S (fun q => base ≤ q) s.heap H locs →
    (∀ (H1 : Heap) (locs1 : List Loc) (cells1 slots1 pc1 : Nat) (ls1 : Array Slot), cells1 ≤ cells + bc → slots1 ≤ slots + bs → xm_W G base (sg σ') H1 → va_S (fun q => base ≤ q) s.heap H1 locs1 → xm_rt M pc1 (em r) → W p l e R s m args below meth c H1 locs1 cells1 slots1 Q (F0 m pc1 ls1 ((em r).map (xm_r base b)).toList)) →
    W p l e R s m args below meth c H locs cells slots Q (F0 m pc ls (st.map (xm_r base b)))
