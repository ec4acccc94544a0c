def xm_let {α β : Type} (e : α) (f : α → β) : β := f e
def xm_chk {β : Type} (c : Prop) [Decidable c] (a : Option β) : Option β := if c then a else none
abbrev xm_in (i : Int32) (n : Nat) : Prop := 0 ≤ i.toInt ∧ i.toInt < (n : Int)
theorem xm_in_vp {i : Int32} {n : Nat} (h : xm_in i n) : vp_in i n := by
  rintro (q | q)
  · have := Int32.lt_iff_toInt_lt.mp q
    have h0 : (0 : Int32).toInt = 0 := rfl
    rw [h0] at this
    exact absurd h.1 (by omega)
  · have h1 := h.1
    have h2 := h.2
    have e1 : i.toNatClampNeg = i.toInt.toNat := rfl
    rw [e1] at q
    omega
def xm_kl (lv : List (Option Value)) (i : Nat) : List (Option Value) := match i with
  | 0 => lv
  | j + 1 => match lv[j]? with
    | some (some w) => if w.category = 2 then lv.set j none else lv
    | _ => lv
def xm_s1 (lv : List (Option Value)) (i : Nat) (v : Value) : List (Option Value) := (xm_kl lv i).set i (some v)
def xm_s2 (lv : List (Option Value)) (i : Nat) (v : Value) : List (Option Value) := ((xm_kl lv i).set (i + 1) none).set i (some v)
theorem xm_kl_at {lv : List (Option Value)} {i j : Nat} {w : Value} (h : (xm_kl lv i)[j]? = some (some w)) : lv[j]? = some (some w) ∧ ¬ (j + 1 = i ∧ w.category = 2) := by
  cases i with
  | zero => exact ⟨h, fun q => by omega⟩
  | succ t =>
    dsimp only [xm_kl] at h
    split at h
    · rename_i w' hw'
      split at h
      · rename_i hc
        rw [List.getElem?_set] at h
        split at h
        · split at h <;> cases h
        · rename_i hne
          exact ⟨h, fun q => hne (by omega)⟩
      · rename_i hc
        refine ⟨h, fun q => ?_⟩
        have e : j = t := by omega
        subst e
        rw [hw'] at h
        cases h
        exact hc q.2
    · rename_i hno
      refine ⟨h, fun q => ?_⟩
      have e : j = t := by omega
      subst e
      exact hno w h
theorem xm_L.st1 {base b : Nat} {ls' : Array Slot} {nn i : Nat} {v : Value} {l : List (Nat × Value)} {lv lv' : List (Option Value)} (hm : ∀ (i : Nat) (v : Value), lv[i]? = some (some v) → (i, xm_r base b v) ∈ l) (he : lv' = xm_s1 lv i v) (h' : lv_has ls' nn ((i, xm_r base b v) :: l.filter (fun q => !(q.1 == i) && !(q.1 + 1 == i && q.2.category == 2)))) : xm_L base b ls' nn lv' := by
  refine ⟨_, h', fun j w hj => ?_⟩
  rw [he, xm_s1, List.getElem?_set] at hj
  split at hj
  · rename_i hij
    subst hij
    split at hj
    · cases hj
      exact List.mem_cons_self
    · cases hj
  · rename_i hij
    obtain ⟨h1, h2⟩ := xm_kl_at hj
    refine List.mem_cons_of_mem _ (List.mem_filter.mpr ⟨hm j w h1, ?_⟩)
    simp only [Bool.and_eq_true, Bool.not_eq_true', beq_eq_false_iff_ne, Bool.and_eq_false_imp, beq_iff_eq, xm_r_cat]
    exact ⟨fun q => hij q.symm, fun q1 q2 => h2 ⟨q1, q2⟩⟩
theorem xm_L.st2 {base b : Nat} {ls' : Array Slot} {nn i : Nat} {v : Value} {l : List (Nat × Value)} {lv lv' : List (Option Value)} (hm : ∀ (i : Nat) (v : Value), lv[i]? = some (some v) → (i, xm_r base b v) ∈ l) (he : lv' = xm_s2 lv i v) (h' : lv_has ls' nn ((i, xm_r base b v) :: l.filter (fun q => !(q.1 == i) && (!(q.1 == i + 1) && !(q.1 + 1 == i && q.2.category == 2))))) : xm_L base b ls' nn lv' := by
  refine ⟨_, h', fun j w hj => ?_⟩
  rw [he, xm_s2, List.getElem?_set] at hj
  split at hj
  · rename_i hij
    subst hij
    split at hj
    · cases hj
      exact List.mem_cons_self
    · cases hj
  · rename_i hij
    rw [List.getElem?_set] at hj
    split at hj
    · split at hj <;> cases hj
    · rename_i hij2
      obtain ⟨h1, h2⟩ := xm_kl_at hj
      refine List.mem_cons_of_mem _ (List.mem_filter.mpr ⟨hm j w h1, ?_⟩)
      simp only [Bool.and_eq_true, Bool.not_eq_true', beq_eq_false_iff_ne, Bool.and_eq_false_imp, beq_iff_eq, xm_r_cat]
      exact ⟨fun q => hij q.symm, fun q => hij2 q.symm, fun q1 q2 => h2 ⟨q1, q2⟩⟩
theorem xm_cmp_ge (x y : Int64) : (0 ≤ lg_cmp x y) ↔ y ≤ x := lg_cmp_ge x y
theorem xm_cmp_lt (x y : Int64) : (lg_cmp x y < 0) ↔ x < y := by
  rw [← Int32.not_le, lg_cmp_ge, Int64.not_le]
theorem xm_cmp_gt (x y : Int64) : (0 < lg_cmp x y) ↔ y < x := by
  unfold lg_cmp
  by_cases h : y < x
  · simp [h]
  · by_cases h2 : x = y
    · simp [h2]
    · simp [h, h2]
theorem xm_cmp_le (x y : Int64) : (lg_cmp x y ≤ 0) ↔ x ≤ y := by
  rw [← Int32.not_lt, xm_cmp_gt, Int64.not_lt]
theorem xm_cmp_eq (x y : Int64) : (lg_cmp x y = 0) ↔ x = y := by
  unfold lg_cmp
  by_cases h : y < x
  · simp [h]
    intro e
    subst e
    exact absurd h (fun z => Int64.lt_irrefl z)
  · by_cases h2 : x = y
    · simp [h2]
    · simp [h, h2]
section XR_
variable {α S : Type} {em : α → Option Value} {sg : S → xm_S} {M : xm_M} {pc n : Nat} {lv : List (Option Value)} {st : List Value} {σ : S} {bc bs : Nat} {o : Option (α × S)}
theorem xs_iadd {x y : Int32} (hd : decode M.2.1 pc = .ok (.iadd, 1)) (hn : pc + 1 = n) (k : xs_ em sg M n lv (.int (x + y) :: st) σ bc bs o) : xs_ em sg M pc lv (.int y :: .int x :: st) σ bc bs o := by
  subst hn
  intro r σ' ho G base b L xs l p e R s m args below meth c H locs cells slots ls Q hC hf hlo hc hs hL hW hz hS kret
  exact lv_iadd hC.1 hC.2.1 hd (k r σ' ho G base b L xs l p e R s m args below meth c H locs cells slots ls Q hC hf hlo hc hs hL hW hz hS kret)
theorem xs_isub {x y : Int32} (hd : decode M.2.1 pc = .ok (.isub, 1)) (hn : pc + 1 = n) (k : xs_ em sg M n lv (.int (x - y) :: st) σ bc bs o) : xs_ em sg M pc lv (.int y :: .int x :: st) σ bc bs o := by
  subst hn
  intro r σ' ho G base b L xs l p e R s m args below meth c H locs cells slots ls Q hC hf hlo hc hs hL hW hz hS kret
  exact lv_isub hC.1 hC.2.1 hd (k r σ' ho G base b L xs l p e R s m args below meth c H locs cells slots ls Q hC hf hlo hc hs hL hW hz hS kret)
theorem xs_imul {x y : Int32} (hd : decode M.2.1 pc = .ok (.imul, 1)) (hn : pc + 1 = n) (k : xs_ em sg M n lv (.int (x * y) :: st) σ bc bs o) : xs_ em sg M pc lv (.int y :: .int x :: st) σ bc bs o := by
  subst hn
  intro r σ' ho G base b L xs l p e R s m args below meth c H locs cells slots ls Q hC hf hlo hc hs hL hW hz hS kret
  exact lv_imul hC.1 hC.2.1 hd (k r σ' ho G base b L xs l p e R s m args below meth c H locs cells slots ls Q hC hf hlo hc hs hL hW hz hS kret)
theorem xs_iand {x y : Int32} (hd : decode M.2.1 pc = .ok (.iand, 1)) (hn : pc + 1 = n) (k : xs_ em sg M n lv (.int (x &&& y) :: st) σ bc bs o) : xs_ em sg M pc lv (.int y :: .int x :: st) σ bc bs o := by
  subst hn
  intro r σ' ho G base b L xs l p e R s m args below meth c H locs cells slots ls Q hC hf hlo hc hs hL hW hz hS kret
  exact lv_iand hC.1 hC.2.1 hd (k r σ' ho G base b L xs l p e R s m args below meth c H locs cells slots ls Q hC hf hlo hc hs hL hW hz hS kret)
theorem xs_ior {x y : Int32} (hd : decode M.2.1 pc = .ok (.ior, 1)) (hn : pc + 1 = n) (k : xs_ em sg M n lv (.int (x ||| y) :: st) σ bc bs o) : xs_ em sg M pc lv (.int y :: .int x :: st) σ bc bs o := by
  subst hn
  intro r σ' ho G base b L xs l p e R s m args below meth c H locs cells slots ls Q hC hf hlo hc hs hL hW hz hS kret
  exact lv_ior hC.1 hC.2.1 hd (k r σ' ho G base b L xs l p e R s m args below meth c H locs cells slots ls Q hC hf hlo hc hs hL hW hz hS kret)
theorem xs_ishl {x y : Int32} (hd : decode M.2.1 pc = .ok (.ishl, 1)) (hn : pc + 1 = n) (k : xs_ em sg M n lv (.int (x <<< (y &&& 31)) :: st) σ bc bs o) : xs_ em sg M pc lv (.int y :: .int x :: st) σ bc bs o := by
  subst hn
  intro r σ' ho G base b L xs l p e R s m args below meth c H locs cells slots ls Q hC hf hlo hc hs hL hW hz hS kret
  exact lv_ishl hC.1 hC.2.1 hd (k r σ' ho G base b L xs l p e R s m args below meth c H locs cells slots ls Q hC hf hlo hc hs hL hW hz hS kret)
theorem xs_ishr {x y : Int32} (hd : decode M.2.1 pc = .ok (.ishr, 1)) (hn : pc + 1 = n) (k : xs_ em sg M n lv (.int (x >>> (y &&& 31)) :: st) σ bc bs o) : xs_ em sg M pc lv (.int y :: .int x :: st) σ bc bs o := by
  subst hn
  intro r σ' ho G base b L xs l p e R s m args below meth c H locs cells slots ls Q hC hf hlo hc hs hL hW hz hS kret
  exact lv_ishr hC.1 hC.2.1 hd (k r σ' ho G base b L xs l p e R s m args below meth c H locs cells slots ls Q hC hf hlo hc hs hL hW hz hS kret)
theorem xs_ineg {x : Int32} (hd : decode M.2.1 pc = .ok (.ineg, 1)) (hn : pc + 1 = n) (k : xs_ em sg M n lv (.int (-x) :: st) σ bc bs o) : xs_ em sg M pc lv (.int x :: st) σ bc bs o := by
  subst hn
  intro r σ' ho G base b L xs l p e R s m args below meth c H locs cells slots ls Q hC hf hlo hc hs hL hW hz hS kret
  exact lv_ineg hC.1 hC.2.1 hd (k r σ' ho G base b L xs l p e R s m args below meth c H locs cells slots ls Q hC hf hlo hc hs hL hW hz hS kret)
theorem xs_ladd {x y : Int64} (hd : decode M.2.1 pc = .ok (.ladd, 1)) (hn : pc + 1 = n) (k : xs_ em sg M n lv (.long (x + y) :: st) σ bc bs o) : xs_ em sg M pc lv (.long y :: .long x :: st) σ bc bs o := by
  subst hn
  intro r σ' ho G base b L xs l p e R s m args below meth c H locs cells slots ls Q hC hf hlo hc hs hL hW hz hS kret
  exact lv_ladd hC.1 hC.2.1 hd (k r σ' ho G base b L xs l p e R s m args below meth c H locs cells slots ls Q hC hf hlo hc hs hL hW hz hS kret)
theorem xs_lsub {x y : Int64} (hd : decode M.2.1 pc = .ok (.lsub, 1)) (hn : pc + 1 = n) (k : xs_ em sg M n lv (.long (x - y) :: st) σ bc bs o) : xs_ em sg M pc lv (.long y :: .long x :: st) σ bc bs o := by
  subst hn
  intro r σ' ho G base b L xs l p e R s m args below meth c H locs cells slots ls Q hC hf hlo hc hs hL hW hz hS kret
  exact lv_lsub hC.1 hC.2.1 hd (k r σ' ho G base b L xs l p e R s m args below meth c H locs cells slots ls Q hC hf hlo hc hs hL hW hz hS kret)
theorem xs_lmul {x y : Int64} (hd : decode M.2.1 pc = .ok (.lmul, 1)) (hn : pc + 1 = n) (k : xs_ em sg M n lv (.long (x * y) :: st) σ bc bs o) : xs_ em sg M pc lv (.long y :: .long x :: st) σ bc bs o := by
  subst hn
  intro r σ' ho G base b L xs l p e R s m args below meth c H locs cells slots ls Q hC hf hlo hc hs hL hW hz hS kret
  exact lv_lmul hC.1 hC.2.1 hd (k r σ' ho G base b L xs l p e R s m args below meth c H locs cells slots ls Q hC hf hlo hc hs hL hW hz hS kret)
theorem xs_land {x y : Int64} (hd : decode M.2.1 pc = .ok (.land, 1)) (hn : pc + 1 = n) (k : xs_ em sg M n lv (.long (x &&& y) :: st) σ bc bs o) : xs_ em sg M pc lv (.long y :: .long x :: st) σ bc bs o := by
  subst hn
  intro r σ' ho G base b L xs l p e R s m args below meth c H locs cells slots ls Q hC hf hlo hc hs hL hW hz hS kret
  exact lv_land hC.1 hC.2.1 hd (k r σ' ho G base b L xs l p e R s m args below meth c H locs cells slots ls Q hC hf hlo hc hs hL hW hz hS kret)
theorem xs_lor {x y : Int64} (hd : decode M.2.1 pc = .ok (.lor, 1)) (hn : pc + 1 = n) (k : xs_ em sg M n lv (.long (x ||| y) :: st) σ bc bs o) : xs_ em sg M pc lv (.long y :: .long x :: st) σ bc bs o := by
  subst hn
  intro r σ' ho G base b L xs l p e R s m args below meth c H locs cells slots ls Q hC hf hlo hc hs hL hW hz hS kret
  exact lv_lor hC.1 hC.2.1 hd (k r σ' ho G base b L xs l p e R s m args below meth c H locs cells slots ls Q hC hf hlo hc hs hL hW hz hS kret)
theorem xs_lxor {x y : Int64} (hd : decode M.2.1 pc = .ok (.lxor, 1)) (hn : pc + 1 = n) (k : xs_ em sg M n lv (.long (x ^^^ y) :: st) σ bc bs o) : xs_ em sg M pc lv (.long y :: .long x :: st) σ bc bs o := by
  subst hn
  intro r σ' ho G base b L xs l p e R s m args below meth c H locs cells slots ls Q hC hf hlo hc hs hL hW hz hS kret
  exact lv_lxor hC.1 hC.2.1 hd (k r σ' ho G base b L xs l p e R s m args below meth c H locs cells slots ls Q hC hf hlo hc hs hL hW hz hS kret)
theorem xs_lneg {x : Int64} (hd : decode M.2.1 pc = .ok (.lneg, 1)) (hn : pc + 1 = n) (k : xs_ em sg M n lv (.long (-x) :: st) σ bc bs o) : xs_ em sg M pc lv (.long x :: st) σ bc bs o := by
  subst hn
  intro r σ' ho G base b L xs l p e R s m args below meth c H locs cells slots ls Q hC hf hlo hc hs hL hW hz hS kret
  exact lv_lneg hC.1 hC.2.1 hd (k r σ' ho G base b L xs l p e R s m args below meth c H locs cells slots ls Q hC hf hlo hc hs hL hW hz hS kret)
theorem xs_i2l {x : Int32} (hd : decode M.2.1 pc = .ok (.i2l, 1)) (hn : pc + 1 = n) (k : xs_ em sg M n lv (.long x.toInt64 :: st) σ bc bs o) : xs_ em sg M pc lv (.int x :: st) σ bc bs o := by
  subst hn
  intro r σ' ho G base b L xs l p e R s m args below meth c H locs cells slots ls Q hC hf hlo hc hs hL hW hz hS kret
  exact lv_i2l hC.1 hC.2.1 hd rfl (k r σ' ho G base b L xs l p e R s m args below meth c H locs cells slots ls Q hC hf hlo hc hs hL hW hz hS kret)
theorem xs_l2i {x : Int64} (hd : decode M.2.1 pc = .ok (.l2i, 1)) (hn : pc + 1 = n) (k : xs_ em sg M n lv (.int x.toInt32 :: st) σ bc bs o) : xs_ em sg M pc lv (.long x :: st) σ bc bs o := by
  subst hn
  intro r σ' ho G base b L xs l p e R s m args below meth c H locs cells slots ls Q hC hf hlo hc hs hL hW hz hS kret
  exact lv_l2i hC.1 hC.2.1 hd rfl (k r σ' ho G base b L xs l p e R s m args below meth c H locs cells slots ls Q hC hf hlo hc hs hL hW hz hS kret)
theorem xs_lushr {x : Int64} {y : Int32} (hd : decode M.2.1 pc = .ok (.lushr, 1)) (hn : pc + 1 = n) (k : xs_ em sg M n lv (.long (x.toUInt64 >>> (y.toInt64.toUInt64 &&& Int64.toUInt64 63)).toInt64 :: st) σ bc bs o) : xs_ em sg M pc lv (.int y :: .long x :: st) σ bc bs o := by
  subst hn
  intro r σ' ho G base b L xs l p e R s m args below meth c H locs cells slots ls Q hC hf hlo hc hs hL hW hz hS kret
  exact lv_lushr hC.1 hC.2.1 hd rfl (k r σ' ho G base b L xs l p e R s m args below meth c H locs cells slots ls Q hC hf hlo hc hs hL hW hz hS kret)
theorem xs_lshl {x : Int64} {y : Int32} (hd : decode M.2.1 pc = .ok (.lshl, 1)) (hn : pc + 1 = n) (k : xs_ em sg M n lv (.long (x <<< (y.toInt64 &&& 63)) :: st) σ bc bs o) : xs_ em sg M pc lv (.int y :: .long x :: st) σ bc bs o := by
  subst hn
  intro r σ' ho G base b L xs l p e R s m args below meth c H locs cells slots ls Q hC hf hlo hc hs hL hW hz hS kret
  exact lv_lshl hC.1 hC.2.1 hd rfl (k r σ' ho G base b L xs l p e R s m args below meth c H locs cells slots ls Q hC hf hlo hc hs hL hW hz hS kret)
theorem xs_iconst {i : Int} {v : Int32} (hd : decode M.2.1 pc = .ok (.iconst i, 1)) (hn : pc + 1 = n) (hv : Int32.ofInt i = v) (k : xs_ em sg M n lv (.int v :: st) σ bc bs o) : xs_ em sg M pc lv (st) σ bc bs o := by
  subst hn
  intro r σ' ho G base b L xs l p e R s m args below meth c H locs cells slots ls Q hC hf hlo hc hs hL hW hz hS kret
  exact lv_iconst hC.1 hC.2.1 hd hv (k r σ' ho G base b L xs l p e R s m args below meth c H locs cells slots ls Q hC hf hlo hc hs hL hW hz hS kret)
theorem xs_bipush {i : Int} {v : Int32} (hd : decode M.2.1 pc = .ok (.bipush i, 2)) (hn : pc + 2 = n) (hv : (Int8.ofInt i).toInt32 = v) (k : xs_ em sg M n lv (.int v :: st) σ bc bs o) : xs_ em sg M pc lv (st) σ bc bs o := by
  subst hn
  intro r σ' ho G base b L xs l p e R s m args below meth c H locs cells slots ls Q hC hf hlo hc hs hL hW hz hS kret
  exact lv_bipush hC.1 hC.2.1 hd hv (k r σ' ho G base b L xs l p e R s m args below meth c H locs cells slots ls Q hC hf hlo hc hs hL hW hz hS kret)
theorem xs_sipush {i : Int} {v : Int32} (hd : decode M.2.1 pc = .ok (.sipush i, 3)) (hn : pc + 3 = n) (hv : (Int16.ofInt i).toInt32 = v) (k : xs_ em sg M n lv (.int v :: st) σ bc bs o) : xs_ em sg M pc lv (st) σ bc bs o := by
  subst hn
  intro r σ' ho G base b L xs l p e R s m args below meth c H locs cells slots ls Q hC hf hlo hc hs hL hW hz hS kret
  exact lv_sipush hC.1 hC.2.1 hd hv (k r σ' ho G base b L xs l p e R s m args below meth c H locs cells slots ls Q hC hf hlo hc hs hL hW hz hS kret)
theorem xs_lconst {i : Fin 2} {v : Int64} (hd : decode M.2.1 pc = .ok (.lconst i, 1)) (hn : pc + 1 = n) (hv : Int64.ofNat (i : Nat) = v) (k : xs_ em sg M n lv (.long v :: st) σ bc bs o) : xs_ em sg M pc lv (st) σ bc bs o := by
  subst hn
  intro r σ' ho G base b L xs l p e R s m args below meth c H locs cells slots ls Q hC hf hlo hc hs hL hW hz hS kret
  exact lv_lconst hC.1 hC.2.1 hd hv (k r σ' ho G base b L xs l p e R s m args below meth c H locs cells slots ls Q hC hf hlo hc hs hL hW hz hS kret)
theorem xs_iload_n {i : Fin 4} {x : Int32} (hd : decode M.2.1 pc = .ok (.iload_n i, 1)) (hn : pc + 1 = n) (hl : lv[(i : Nat)]? = some (some (.int x))) (k : xs_ em sg M n lv (.int x :: st) σ bc bs o) : xs_ em sg M pc lv (st) σ bc bs o := by
  subst hn
  intro r σ' ho G base b L xs l p e R s m args below meth c H locs cells slots ls Q hC hf hlo hc hs hL hW hz hS kret
  exact lv_iload_n hC.1 hC.2.1 hd rfl (hL.at hl) (k r σ' ho G base b L xs l p e R s m args below meth c H locs cells slots ls Q hC hf hlo hc hs hL hW hz hS kret)
theorem xs_iload {i : Nat} {x : Int32} (hd : decode M.2.1 pc = .ok (.iload i, 2)) (hn : pc + 2 = n) (hl : lv[i]? = some (some (.int x))) (k : xs_ em sg M n lv (.int x :: st) σ bc bs o) : xs_ em sg M pc lv (st) σ bc bs o := by
  subst hn
  intro r σ' ho G base b L xs l p e R s m args below meth c H locs cells slots ls Q hC hf hlo hc hs hL hW hz hS kret
  exact lv_iload hC.1 hC.2.1 hd (hL.at hl) (k r σ' ho G base b L xs l p e R s m args below meth c H locs cells slots ls Q hC hf hlo hc hs hL hW hz hS kret)
theorem xs_lload_n {i : Fin 4} {x : Int64} (hd : decode M.2.1 pc = .ok (.lload_n i, 1)) (hn : pc + 1 = n) (hl : lv[(i : Nat)]? = some (some (.long x))) (k : xs_ em sg M n lv (.long x :: st) σ bc bs o) : xs_ em sg M pc lv (st) σ bc bs o := by
  subst hn
  intro r σ' ho G base b L xs l p e R s m args below meth c H locs cells slots ls Q hC hf hlo hc hs hL hW hz hS kret
  exact lv_lload_n hC.1 hC.2.1 hd rfl (hL.at hl) (k r σ' ho G base b L xs l p e R s m args below meth c H locs cells slots ls Q hC hf hlo hc hs hL hW hz hS kret)
theorem xs_lload {i : Nat} {x : Int64} (hd : decode M.2.1 pc = .ok (.lload i, 2)) (hn : pc + 2 = n) (hl : lv[i]? = some (some (.long x))) (k : xs_ em sg M n lv (.long x :: st) σ bc bs o) : xs_ em sg M pc lv (st) σ bc bs o := by
  subst hn
  intro r σ' ho G base b L xs l p e R s m args below meth c H locs cells slots ls Q hC hf hlo hc hs hL hW hz hS kret
  exact lv_lload hC.1 hC.2.1 hd (hL.at hl) (k r σ' ho G base b L xs l p e R s m args below meth c H locs cells slots ls Q hC hf hlo hc hs hL hW hz hS kret)
theorem xs_aload_n {i : Fin 4} {x : Nat} (hd : decode M.2.1 pc = .ok (.aload_n i, 1)) (hn : pc + 1 = n) (hl : lv[(i : Nat)]? = some (some (.ref x))) (k : xs_ em sg M n lv (.ref x :: st) σ bc bs o) : xs_ em sg M pc lv (st) σ bc bs o := by
  subst hn
  intro r σ' ho G base b L xs l p e R s m args below meth c H locs cells slots ls Q hC hf hlo hc hs hL hW hz hS kret
  exact lv_aload_n hC.1 hC.2.1 hd rfl (hL.at hl) (k r σ' ho G base b L xs l p e R s m args below meth c H locs cells slots ls Q hC hf hlo hc hs hL hW hz hS kret)
theorem xs_aload {i : Nat} {x : Nat} (hd : decode M.2.1 pc = .ok (.aload i, 2)) (hn : pc + 2 = n) (hl : lv[i]? = some (some (.ref x))) (k : xs_ em sg M n lv (.ref x :: st) σ bc bs o) : xs_ em sg M pc lv (st) σ bc bs o := by
  subst hn
  intro r σ' ho G base b L xs l p e R s m args below meth c H locs cells slots ls Q hC hf hlo hc hs hL hW hz hS kret
  exact lv_aload hC.1 hC.2.1 hd (hL.at hl) (k r σ' ho G base b L xs l p e R s m args below meth c H locs cells slots ls Q hC hf hlo hc hs hL hW hz hS kret)
theorem xs_sload_n {i : Fin 4} {x : UInt32} (hd : decode M.2.1 pc = .ok (.aload_n i, 1)) (hn : pc + 1 = n) (hl : lv[(i : Nat)]? = some (some (.float x))) (k : xs_ em sg M n lv (.float x :: st) σ bc bs o) : xs_ em sg M pc lv (st) σ bc bs o := by
  subst hn
  intro r σ' ho G base b L xs l p e R s m args below meth c H locs cells slots ls Q hC hf hlo hc hs hL hW hz hS kret
  exact lv_aload_n hC.1 hC.2.1 hd rfl (hL.at hl) (k r σ' ho G base b L xs l p e R s m args below meth c H locs cells slots ls Q hC hf hlo hc hs hL hW hz hS kret)
theorem xs_istore_n {i : Fin 4} {x : Int32} {lv' : List (Option Value)} (hd : decode M.2.1 pc = .ok (.istore_n i, 1)) (hn : pc + 1 = n) (hi : (i : Nat) < M.2.2.1) (he : xm_s1 lv (i : Nat) (.int x) = lv') (k : xs_ em sg M n lv' st σ bc bs o) : xs_ em sg M pc lv (.int x :: st) σ bc bs o := by
  subst hn
  intro r σ' ho G base b L xs l p e R s m args below meth c H locs cells slots ls Q hC hf hlo hc hs hL hW hz hS kret
  obtain ⟨l0, hl0, hm⟩ := hL
  exact lv_istore_n hC.1 hC.2.1 hd rfl hl0 hi rfl (fun ls' h' => k r σ' ho G base b L xs l p e R s m args below meth c H locs cells slots ls' Q hC hf hlo hc hs (xm_L.st1 hm he.symm h') hW hz hS kret)
theorem xs_istore {i : Nat} {x : Int32} {lv' : List (Option Value)} (hd : decode M.2.1 pc = .ok (.istore i, 2)) (hn : pc + 2 = n) (hi : i < M.2.2.1) (he : xm_s1 lv i (.int x) = lv') (k : xs_ em sg M n lv' st σ bc bs o) : xs_ em sg M pc lv (.int x :: st) σ bc bs o := by
  subst hn
  intro r σ' ho G base b L xs l p e R s m args below meth c H locs cells slots ls Q hC hf hlo hc hs hL hW hz hS kret
  obtain ⟨l0, hl0, hm⟩ := hL
  exact lv_istore hC.1 hC.2.1 hd hl0 hi rfl (fun ls' h' => k r σ' ho G base b L xs l p e R s m args below meth c H locs cells slots ls' Q hC hf hlo hc hs (xm_L.st1 hm he.symm h') hW hz hS kret)
theorem xs_lstore_n {i : Fin 4} {x : Int64} {lv' : List (Option Value)} (hd : decode M.2.1 pc = .ok (.lstore_n i, 1)) (hn : pc + 1 = n) (hi : (i : Nat) + 1 < M.2.2.1) (he : xm_s2 lv (i : Nat) (.long x) = lv') (k : xs_ em sg M n lv' st σ bc bs o) : xs_ em sg M pc lv (.long x :: st) σ bc bs o := by
  subst hn
  intro r σ' ho G base b L xs l p e R s m args below meth c H locs cells slots ls Q hC hf hlo hc hs hL hW hz hS kret
  obtain ⟨l0, hl0, hm⟩ := hL
  exact lv_lstore_n hC.1 hC.2.1 hd rfl hl0 hi rfl (fun ls' h' => k r σ' ho G base b L xs l p e R s m args below meth c H locs cells slots ls' Q hC hf hlo hc hs (xm_L.st2 hm he.symm h') hW hz hS kret)
theorem xs_lstore {i : Nat} {x : Int64} {lv' : List (Option Value)} (hd : decode M.2.1 pc = .ok (.lstore i, 2)) (hn : pc + 2 = n) (hi : i + 1 < M.2.2.1) (he : xm_s2 lv i (.long x) = lv') (k : xs_ em sg M n lv' st σ bc bs o) : xs_ em sg M pc lv (.long x :: st) σ bc bs o := by
  subst hn
  intro r σ' ho G base b L xs l p e R s m args below meth c H locs cells slots ls Q hC hf hlo hc hs hL hW hz hS kret
  obtain ⟨l0, hl0, hm⟩ := hL
  exact lv_lstore hC.1 hC.2.1 hd hl0 hi rfl (fun ls' h' => k r σ' ho G base b L xs l p e R s m args below meth c H locs cells slots ls' Q hC hf hlo hc hs (xm_L.st2 hm he.symm h') hW hz hS kret)
theorem xs_astore_n {i : Fin 4} {x : Nat} {lv' : List (Option Value)} (hd : decode M.2.1 pc = .ok (.astore_n i, 1)) (hn : pc + 1 = n) (hi : (i : Nat) < M.2.2.1) (he : xm_s1 lv (i : Nat) (.ref x) = lv') (k : xs_ em sg M n lv' st σ bc bs o) : xs_ em sg M pc lv (.ref x :: st) σ bc bs o := by
  subst hn
  intro r σ' ho G base b L xs l p e R s m args below meth c H locs cells slots ls Q hC hf hlo hc hs hL hW hz hS kret
  obtain ⟨l0, hl0, hm⟩ := hL
  exact lv_astore_n hC.1 hC.2.1 hd rfl hl0 hi rfl (fun ls' h' => k r σ' ho G base b L xs l p e R s m args below meth c H locs cells slots ls' Q hC hf hlo hc hs (xm_L.st1 hm he.symm h') hW hz hS kret)
theorem xs_astore {i : Nat} {x : Nat} {lv' : List (Option Value)} (hd : decode M.2.1 pc = .ok (.astore i, 2)) (hn : pc + 2 = n) (hi : i < M.2.2.1) (he : xm_s1 lv i (.ref x) = lv') (k : xs_ em sg M n lv' st σ bc bs o) : xs_ em sg M pc lv (.ref x :: st) σ bc bs o := by
  subst hn
  intro r σ' ho G base b L xs l p e R s m args below meth c H locs cells slots ls Q hC hf hlo hc hs hL hW hz hS kret
  obtain ⟨l0, hl0, hm⟩ := hL
  exact lv_astore hC.1 hC.2.1 hd hl0 hi rfl (fun ls' h' => k r σ' ho G base b L xs l p e R s m args below meth c H locs cells slots ls' Q hC hf hlo hc hs (xm_L.st1 hm he.symm h') hW hz hS kret)
theorem xs_iinc {i : Nat} {d : Int} {x v : Int32} {lv' : List (Option Value)} (hd : decode M.2.1 pc = .ok (.iinc i d, 3)) (hn : pc + 3 = n) (hl : lv[i]? = some (some (.int x))) (hv : x + Int32.ofInt d = v) (hi : i < M.2.2.1) (he : xm_s1 lv i (.int v) = lv') (k : xs_ em sg M n lv' st σ bc bs o) : xs_ em sg M pc lv st σ bc bs o := by
  subst hn
  intro r σ' ho G base b L xs l p e R s m args below meth c H locs cells slots ls Q hC hf hlo hc hs hL hW hz hS kret
  obtain ⟨l0, hl0, hm⟩ := hL
  obtain ⟨kk, hkk⟩ := List.getElem?_of_mem (hm i _ hl)
  exact lv_iinc hC.1 hC.2.1 hd hl0 hkk hv hi rfl (fun ls' h' => k r σ' ho G base b L xs l p e R s m args below meth c H locs cells slots ls' Q hC hf hlo hc hs (xm_L.st1 hm he.symm h') hW hz hS kret)
theorem xs_dup {v : Value} (hd : decode M.2.1 pc = .ok (.dup, 1)) (hn : pc + 1 = n) (hv : v.category = 1) (k : xs_ em sg M n lv (v :: v :: st) σ bc bs o) : xs_ em sg M pc lv (v :: st) σ bc bs o := by
  subst hn
  intro r σ' ho G base b L xs l p e R s m args below meth c H locs cells slots ls Q hC hf hlo hc hs hL hW hz hS kret
  exact lv_dup hC.1 hC.2.1 hd ((xm_r_cat base b v).trans hv) (k r σ' ho G base b L xs l p e R s m args below meth c H locs cells slots ls Q hC hf hlo hc hs hL hW hz hS kret)
theorem xs_pop {v : Value} (hd : decode M.2.1 pc = .ok (.pop, 1)) (hn : pc + 1 = n) (hv : v.category = 1) (k : xs_ em sg M n lv (st) σ bc bs o) : xs_ em sg M pc lv (v :: st) σ bc bs o := by
  subst hn
  intro r σ' ho G base b L xs l p e R s m args below meth c H locs cells slots ls Q hC hf hlo hc hs hL hW hz hS kret
  exact lv_pop hC.1 hC.2.1 hd ((xm_r_cat base b v).trans hv) (k r σ' ho G base b L xs l p e R s m args below meth c H locs cells slots ls Q hC hf hlo hc hs hL hW hz hS kret)
theorem xs_dup2_11 {v w : Value} (hd : decode M.2.1 pc = .ok (.dup2, 1)) (hn : pc + 1 = n) (hv : v.category = 1) (hw : w.category = 1) (k : xs_ em sg M n lv (v :: w :: v :: w :: st) σ bc bs o) : xs_ em sg M pc lv (v :: w :: st) σ bc bs o := by
  subst hn
  intro r σ' ho G base b L xs l p e R s m args below meth c H locs cells slots ls Q hC hf hlo hc hs hL hW hz hS kret
  exact lv_dup2_11 hC.1 hC.2.1 hd ((xm_r_cat base b v).trans hv) ((xm_r_cat base b w).trans hw) (k r σ' ho G base b L xs l p e R s m args below meth c H locs cells slots ls Q hC hf hlo hc hs hL hW hz hS kret)
theorem xs_dup2_2 {v : Value} (hd : decode M.2.1 pc = .ok (.dup2, 1)) (hn : pc + 1 = n) (hv : v.category = 2) (k : xs_ em sg M n lv (v :: v :: st) σ bc bs o) : xs_ em sg M pc lv (v :: st) σ bc bs o := by
  subst hn
  intro r σ' ho G base b L xs l p e R s m args below meth c H locs cells slots ls Q hC hf hlo hc hs hL hW hz hS kret
  exact lv_dup2_2 hC.1 hC.2.1 hd ((xm_r_cat base b v).trans hv) (k r σ' ho G base b L xs l p e R s m args below meth c H locs cells slots ls Q hC hf hlo hc hs hL hW hz hS kret)
theorem xs_goto {off : Int} (hd : decode M.2.1 pc = .ok (.goto off, 3)) (ht : (pc : Int) + off = (n : Int)) (k : xs_ em sg M n lv st σ bc bs o) : xs_ em sg M pc lv st σ bc bs o := by
  intro r σ' ho G base b L xs l p e R s m args below meth c H locs cells slots ls Q hC hf hlo hc hs hL hW hz hS kret
  exact lv_goto hC.1 hC.2.1 hd ht (k r σ' ho G base b L xs l p e R s m args below meth c H locs cells slots ls Q hC hf hlo hc hs hL hW hz hS kret)
theorem xs_idiv {β : Type} {x y : Int32} {a : Option β} {f : β → Option (α × S)} (hd : decode M.2.1 pc = .ok (.idiv, 1)) (hn : pc + 1 = n) (k : ¬ y = 0 → xs_ em sg M n lv (.int (x / y) :: st) σ bc bs (a.bind f)) : xs_ em sg M pc lv (.int y :: .int x :: st) σ bc bs ((xm_chk (¬ y = 0) a).bind f) := by
  subst hn
  intro r σ' ho G base b L xs l p e R s m args below meth c H locs cells slots ls Q hC hf hlo hc hs hL hW hz hS kret
  by_cases hch : ¬ y = 0
  · rw [xm_chk, if_pos hch] at ho
    exact lv_idiv hC.1 hC.2.1 hd hch (k hch r σ' ho G base b L xs l p e R s m args below meth c H locs cells slots ls Q hC hf hlo hc hs hL hW hz hS kret)
  · rw [xm_chk, if_neg hch] at ho
    cases ho
theorem xs_ldiv {β : Type} {x y : Int64} {a : Option β} {f : β → Option (α × S)} (hd : decode M.2.1 pc = .ok (.ldiv, 1)) (hn : pc + 1 = n) (k : ¬ y = 0 → xs_ em sg M n lv (.long (x / y) :: st) σ bc bs (a.bind f)) : xs_ em sg M pc lv (.long y :: .long x :: st) σ bc bs ((xm_chk (¬ y = 0) a).bind f) := by
  subst hn
  intro r σ' ho G base b L xs l p e R s m args below meth c H locs cells slots ls Q hC hf hlo hc hs hL hW hz hS kret
  by_cases hch : ¬ y = 0
  · rw [xm_chk, if_pos hch] at ho
    exact lv_ldiv hC.1 hC.2.1 hd hch (k hch r σ' ho G base b L xs l p e R s m args below meth c H locs cells slots ls Q hC hf hlo hc hs hL hW hz hS kret)
  · rw [xm_chk, if_neg hch] at ho
    cases ho
theorem xs_irem {β : Type} {x y : Int32} {a : Option β} {f : β → Option (α × S)} (hd : decode M.2.1 pc = .ok (.irem, 1)) (hn : pc + 1 = n) (k : ¬ y = 0 → xs_ em sg M n lv (.int (x - x / y * y) :: st) σ bc bs (a.bind f)) : xs_ em sg M pc lv (.int y :: .int x :: st) σ bc bs ((xm_chk (¬ y = 0) a).bind f) := by
  subst hn
  intro r σ' ho G base b L xs l p e R s m args below meth c H locs cells slots ls Q hC hf hlo hc hs hL hW hz hS kret
  by_cases hch : ¬ y = 0
  · rw [xm_chk, if_pos hch] at ho
    exact lv_irem hC.1 hC.2.1 hd hch (k hch r σ' ho G base b L xs l p e R s m args below meth c H locs cells slots ls Q hC hf hlo hc hs hL hW hz hS kret)
  · rw [xm_chk, if_neg hch] at ho
    cases ho
theorem xs_lrem {β : Type} {x y : Int64} {a : Option β} {f : β → Option (α × S)} (hd : decode M.2.1 pc = .ok (.lrem, 1)) (hn : pc + 1 = n) (k : ¬ y = 0 → xs_ em sg M n lv (.long (x - x / y * y) :: st) σ bc bs (a.bind f)) : xs_ em sg M pc lv (.long y :: .long x :: st) σ bc bs ((xm_chk (¬ y = 0) a).bind f) := by
  subst hn
  intro r σ' ho G base b L xs l p e R s m args below meth c H locs cells slots ls Q hC hf hlo hc hs hL hW hz hS kret
  by_cases hch : ¬ y = 0
  · rw [xm_chk, if_pos hch] at ho
    exact lv_lrem hC.1 hC.2.1 hd hch (k hch r σ' ho G base b L xs l p e R s m args below meth c H locs cells slots ls Q hC hf hlo hc hs hL hW hz hS kret)
  · rw [xm_chk, if_neg hch] at ho
    cases ho
theorem xs_icmp_eq {β : Type} {x y : Int32} {off : Int} {tgt : Nat} {a1 a2 : Option β} {f : β → Option (α × S)} (hd : decode M.2.1 pc = .ok (.if_icmp .eq off, 3)) (ht : (pc : Int) + off = (tgt : Int)) (hn : pc + 3 = n) (k1 : x = y → xs_ em sg M tgt lv st σ bc bs (a1.bind f)) (k2 : ¬ (x = y) → xs_ em sg M n lv st σ bc bs (a2.bind f)) : xs_ em sg M pc lv (.int y :: .int x :: st) σ bc bs ((if x = y then a1 else a2).bind f) := by
  subst hn
  intro r σ' ho G base b L xs l p e R s m args below meth c H locs cells slots ls Q hC hf hlo hc hs hL hW hz hS kret
  refine lv_icmp_eq hC.1 hC.2.1 hd ht (fun hcd => ?_) (fun hcd => ?_)
  · exact k1 hcd r σ' (by rw [if_pos hcd] at ho; exact ho) G base b L xs l p e R s m args below meth c H locs cells slots ls Q hC hf hlo hc hs hL hW hz hS kret
  · exact k2 hcd r σ' (by rw [if_neg hcd] at ho; exact ho) G base b L xs l p e R s m args below meth c H locs cells slots ls Q hC hf hlo hc hs hL hW hz hS kret
theorem xs_icmp_lt {β : Type} {x y : Int32} {off : Int} {tgt : Nat} {a1 a2 : Option β} {f : β → Option (α × S)} (hd : decode M.2.1 pc = .ok (.if_icmp .lt off, 3)) (ht : (pc : Int) + off = (tgt : Int)) (hn : pc + 3 = n) (k1 : x < y → xs_ em sg M tgt lv st σ bc bs (a1.bind f)) (k2 : ¬ (x < y) → xs_ em sg M n lv st σ bc bs (a2.bind f)) : xs_ em sg M pc lv (.int y :: .int x :: st) σ bc bs ((if x < y then a1 else a2).bind f) := by
  subst hn
  intro r σ' ho G base b L xs l p e R s m args below meth c H locs cells slots ls Q hC hf hlo hc hs hL hW hz hS kret
  refine lv_icmp_lt hC.1 hC.2.1 hd ht (fun hcd => ?_) (fun hcd => ?_)
  · exact k1 hcd r σ' (by rw [if_pos hcd] at ho; exact ho) G base b L xs l p e R s m args below meth c H locs cells slots ls Q hC hf hlo hc hs hL hW hz hS kret
  · exact k2 hcd r σ' (by rw [if_neg hcd] at ho; exact ho) G base b L xs l p e R s m args below meth c H locs cells slots ls Q hC hf hlo hc hs hL hW hz hS kret
theorem xs_icmp_ge {β : Type} {x y : Int32} {off : Int} {tgt : Nat} {a1 a2 : Option β} {f : β → Option (α × S)} (hd : decode M.2.1 pc = .ok (.if_icmp .ge off, 3)) (ht : (pc : Int) + off = (tgt : Int)) (hn : pc + 3 = n) (k1 : y ≤ x → xs_ em sg M tgt lv st σ bc bs (a1.bind f)) (k2 : ¬ (y ≤ x) → xs_ em sg M n lv st σ bc bs (a2.bind f)) : xs_ em sg M pc lv (.int y :: .int x :: st) σ bc bs ((if y ≤ x then a1 else a2).bind f) := by
  subst hn
  intro r σ' ho G base b L xs l p e R s m args below meth c H locs cells slots ls Q hC hf hlo hc hs hL hW hz hS kret
  refine lv_icmp_ge hC.1 hC.2.1 hd ht (fun hcd => ?_) (fun hcd => ?_)
  · exact k1 hcd r σ' (by rw [if_pos hcd] at ho; exact ho) G base b L xs l p e R s m args below meth c H locs cells slots ls Q hC hf hlo hc hs hL hW hz hS kret
  · exact k2 hcd r σ' (by rw [if_neg hcd] at ho; exact ho) G base b L xs l p e R s m args below meth c H locs cells slots ls Q hC hf hlo hc hs hL hW hz hS kret
theorem xs_icmp_gt {β : Type} {x y : Int32} {off : Int} {tgt : Nat} {a1 a2 : Option β} {f : β → Option (α × S)} (hd : decode M.2.1 pc = .ok (.if_icmp .gt off, 3)) (ht : (pc : Int) + off = (tgt : Int)) (hn : pc + 3 = n) (k1 : y < x → xs_ em sg M tgt lv st σ bc bs (a1.bind f)) (k2 : ¬ (y < x) → xs_ em sg M n lv st σ bc bs (a2.bind f)) : xs_ em sg M pc lv (.int y :: .int x :: st) σ bc bs ((if y < x then a1 else a2).bind f) := by
  subst hn
  intro r σ' ho G base b L xs l p e R s m args below meth c H locs cells slots ls Q hC hf hlo hc hs hL hW hz hS kret
  refine lv_icmp_gt hC.1 hC.2.1 hd ht (fun hcd => ?_) (fun hcd => ?_)
  · exact k1 hcd r σ' (by rw [if_pos hcd] at ho; exact ho) G base b L xs l p e R s m args below meth c H locs cells slots ls Q hC hf hlo hc hs hL hW hz hS kret
  · exact k2 hcd r σ' (by rw [if_neg hcd] at ho; exact ho) G base b L xs l p e R s m args below meth c H locs cells slots ls Q hC hf hlo hc hs hL hW hz hS kret
theorem xs_icmp_le {β : Type} {x y : Int32} {off : Int} {tgt : Nat} {a1 a2 : Option β} {f : β → Option (α × S)} (hd : decode M.2.1 pc = .ok (.if_icmp .le off, 3)) (ht : (pc : Int) + off = (tgt : Int)) (hn : pc + 3 = n) (k1 : x ≤ y → xs_ em sg M tgt lv st σ bc bs (a1.bind f)) (k2 : ¬ (x ≤ y) → xs_ em sg M n lv st σ bc bs (a2.bind f)) : xs_ em sg M pc lv (.int y :: .int x :: st) σ bc bs ((if x ≤ y then a1 else a2).bind f) := by
  subst hn
  intro r σ' ho G base b L xs l p e R s m args below meth c H locs cells slots ls Q hC hf hlo hc hs hL hW hz hS kret
  refine lv_icmp_le hC.1 hC.2.1 hd ht (fun hcd => ?_) (fun hcd => ?_)
  · exact k1 hcd r σ' (by rw [if_pos hcd] at ho; exact ho) G base b L xs l p e R s m args below meth c H locs cells slots ls Q hC hf hlo hc hs hL hW hz hS kret
  · exact k2 hcd r σ' (by rw [if_neg hcd] at ho; exact ho) G base b L xs l p e R s m args below meth c H locs cells slots ls Q hC hf hlo hc hs hL hW hz hS kret
theorem xs_if_eq {β : Type} {x : Int32} {off : Int} {tgt : Nat} {a1 a2 : Option β} {f : β → Option (α × S)} (hd : decode M.2.1 pc = .ok (.ifCond .eq off, 3)) (ht : (pc : Int) + off = (tgt : Int)) (hn : pc + 3 = n) (k1 : x = 0 → xs_ em sg M tgt lv st σ bc bs (a1.bind f)) (k2 : ¬ (x = 0) → xs_ em sg M n lv st σ bc bs (a2.bind f)) : xs_ em sg M pc lv (.int x :: st) σ bc bs ((if x = 0 then a1 else a2).bind f) := by
  subst hn
  intro r σ' ho G base b L xs l p e R s m args below meth c H locs cells slots ls Q hC hf hlo hc hs hL hW hz hS kret
  refine lv_if_eq hC.1 hC.2.1 hd ht (fun hcd => ?_) (fun hcd => ?_)
  · exact k1 hcd r σ' (by rw [if_pos hcd] at ho; exact ho) G base b L xs l p e R s m args below meth c H locs cells slots ls Q hC hf hlo hc hs hL hW hz hS kret
  · exact k2 hcd r σ' (by rw [if_neg hcd] at ho; exact ho) G base b L xs l p e R s m args below meth c H locs cells slots ls Q hC hf hlo hc hs hL hW hz hS kret
theorem xs_if_lt {β : Type} {x : Int32} {off : Int} {tgt : Nat} {a1 a2 : Option β} {f : β → Option (α × S)} (hd : decode M.2.1 pc = .ok (.ifCond .lt off, 3)) (ht : (pc : Int) + off = (tgt : Int)) (hn : pc + 3 = n) (k1 : x < 0 → xs_ em sg M tgt lv st σ bc bs (a1.bind f)) (k2 : ¬ (x < 0) → xs_ em sg M n lv st σ bc bs (a2.bind f)) : xs_ em sg M pc lv (.int x :: st) σ bc bs ((if x < 0 then a1 else a2).bind f) := by
  subst hn
  intro r σ' ho G base b L xs l p e R s m args below meth c H locs cells slots ls Q hC hf hlo hc hs hL hW hz hS kret
  refine lv_if_lt hC.1 hC.2.1 hd ht (fun hcd => ?_) (fun hcd => ?_)
  · exact k1 hcd r σ' (by rw [if_pos hcd] at ho; exact ho) G base b L xs l p e R s m args below meth c H locs cells slots ls Q hC hf hlo hc hs hL hW hz hS kret
  · exact k2 hcd r σ' (by rw [if_neg hcd] at ho; exact ho) G base b L xs l p e R s m args below meth c H locs cells slots ls Q hC hf hlo hc hs hL hW hz hS kret
theorem xs_if_ge {β : Type} {x : Int32} {off : Int} {tgt : Nat} {a1 a2 : Option β} {f : β → Option (α × S)} (hd : decode M.2.1 pc = .ok (.ifCond .ge off, 3)) (ht : (pc : Int) + off = (tgt : Int)) (hn : pc + 3 = n) (k1 : 0 ≤ x → xs_ em sg M tgt lv st σ bc bs (a1.bind f)) (k2 : ¬ (0 ≤ x) → xs_ em sg M n lv st σ bc bs (a2.bind f)) : xs_ em sg M pc lv (.int x :: st) σ bc bs ((if 0 ≤ x then a1 else a2).bind f) := by
  subst hn
  intro r σ' ho G base b L xs l p e R s m args below meth c H locs cells slots ls Q hC hf hlo hc hs hL hW hz hS kret
  refine lv_if_ge hC.1 hC.2.1 hd ht (fun hcd => ?_) (fun hcd => ?_)
  · exact k1 hcd r σ' (by rw [if_pos hcd] at ho; exact ho) G base b L xs l p e R s m args below meth c H locs cells slots ls Q hC hf hlo hc hs hL hW hz hS kret
  · exact k2 hcd r σ' (by rw [if_neg hcd] at ho; exact ho) G base b L xs l p e R s m args below meth c H locs cells slots ls Q hC hf hlo hc hs hL hW hz hS kret
theorem xs_if_gt {β : Type} {x : Int32} {off : Int} {tgt : Nat} {a1 a2 : Option β} {f : β → Option (α × S)} (hd : decode M.2.1 pc = .ok (.ifCond .gt off, 3)) (ht : (pc : Int) + off = (tgt : Int)) (hn : pc + 3 = n) (k1 : 0 < x → xs_ em sg M tgt lv st σ bc bs (a1.bind f)) (k2 : ¬ (0 < x) → xs_ em sg M n lv st σ bc bs (a2.bind f)) : xs_ em sg M pc lv (.int x :: st) σ bc bs ((if 0 < x then a1 else a2).bind f) := by
  subst hn
  intro r σ' ho G base b L xs l p e R s m args below meth c H locs cells slots ls Q hC hf hlo hc hs hL hW hz hS kret
  refine lv_if_gt hC.1 hC.2.1 hd ht (fun hcd => ?_) (fun hcd => ?_)
  · exact k1 hcd r σ' (by rw [if_pos hcd] at ho; exact ho) G base b L xs l p e R s m args below meth c H locs cells slots ls Q hC hf hlo hc hs hL hW hz hS kret
  · exact k2 hcd r σ' (by rw [if_neg hcd] at ho; exact ho) G base b L xs l p e R s m args below meth c H locs cells slots ls Q hC hf hlo hc hs hL hW hz hS kret
theorem xs_if_le {β : Type} {x : Int32} {off : Int} {tgt : Nat} {a1 a2 : Option β} {f : β → Option (α × S)} (hd : decode M.2.1 pc = .ok (.ifCond .le off, 3)) (ht : (pc : Int) + off = (tgt : Int)) (hn : pc + 3 = n) (k1 : x ≤ 0 → xs_ em sg M tgt lv st σ bc bs (a1.bind f)) (k2 : ¬ (x ≤ 0) → xs_ em sg M n lv st σ bc bs (a2.bind f)) : xs_ em sg M pc lv (.int x :: st) σ bc bs ((if x ≤ 0 then a1 else a2).bind f) := by
  subst hn
  intro r σ' ho G base b L xs l p e R s m args below meth c H locs cells slots ls Q hC hf hlo hc hs hL hW hz hS kret
  refine lv_if_le hC.1 hC.2.1 hd ht (fun hcd => ?_) (fun hcd => ?_)
  · exact k1 hcd r σ' (by rw [if_pos hcd] at ho; exact ho) G base b L xs l p e R s m args below meth c H locs cells slots ls Q hC hf hlo hc hs hL hW hz hS kret
  · exact k2 hcd r σ' (by rw [if_neg hcd] at ho; exact ho) G base b L xs l p e R s m args below meth c H locs cells slots ls Q hC hf hlo hc hs hL hW hz hS kret
theorem xs_icmp_ne {β : Type} {x y : Int32} {off : Int} {tgt : Nat} {a1 a2 : Option β} {f : β → Option (α × S)} (hd : decode M.2.1 pc = .ok (.if_icmp .ne off, 3)) (ht : (pc : Int) + off = (tgt : Int)) (hn : pc + 3 = n) (k1 : x = y → xs_ em sg M n lv st σ bc bs (a1.bind f)) (k2 : ¬ (x = y) → xs_ em sg M tgt lv st σ bc bs (a2.bind f)) : xs_ em sg M pc lv (.int y :: .int x :: st) σ bc bs ((if x = y then a1 else a2).bind f) := by
  subst hn
  intro r σ' ho G base b L xs l p e R s m args below meth c H locs cells slots ls Q hC hf hlo hc hs hL hW hz hS kret
  refine lv_icmp_ne hC.1 hC.2.1 hd ht (fun hcd => ?_) (fun hcd => ?_)
  · exact k2 hcd r σ' (by rw [if_neg hcd] at ho; exact ho) G base b L xs l p e R s m args below meth c H locs cells slots ls Q hC hf hlo hc hs hL hW hz hS kret
  · exact k1 hcd r σ' (by rw [if_pos hcd] at ho; exact ho) G base b L xs l p e R s m args below meth c H locs cells slots ls Q hC hf hlo hc hs hL hW hz hS kret
theorem xs_if_ne {β : Type} {x : Int32} {off : Int} {tgt : Nat} {a1 a2 : Option β} {f : β → Option (α × S)} (hd : decode M.2.1 pc = .ok (.ifCond .ne off, 3)) (ht : (pc : Int) + off = (tgt : Int)) (hn : pc + 3 = n) (k1 : x = 0 → xs_ em sg M n lv st σ bc bs (a1.bind f)) (k2 : ¬ (x = 0) → xs_ em sg M tgt lv st σ bc bs (a2.bind f)) : xs_ em sg M pc lv (.int x :: st) σ bc bs ((if x = 0 then a1 else a2).bind f) := by
  subst hn
  intro r σ' ho G base b L xs l p e R s m args below meth c H locs cells slots ls Q hC hf hlo hc hs hL hW hz hS kret
  refine lv_if_ne hC.1 hC.2.1 hd ht (fun hcd => ?_) (fun hcd => ?_)
  · exact k2 hcd r σ' (by rw [if_neg hcd] at ho; exact ho) G base b L xs l p e R s m args below meth c H locs cells slots ls Q hC hf hlo hc hs hL hW hz hS kret
  · exact k1 hcd r σ' (by rw [if_pos hcd] at ho; exact ho) G base b L xs l p e R s m args below meth c H locs cells slots ls Q hC hf hlo hc hs hL hW hz hS kret
theorem xs_lif_ge {β : Type} {x y : Int64} {pc1 : Nat} {off : Int} {tgt : Nat} {a1 a2 : Option β} {f : β → Option (α × S)} (hd : decode M.2.1 pc = .ok (.lcmp, 1)) (hp : pc + 1 = pc1) (hd1 : decode M.2.1 pc1 = .ok (.ifCond .ge off, 3)) (ht : (pc1 : Int) + off = (tgt : Int)) (hn : pc1 + 3 = n) (k1 : y ≤ x → xs_ em sg M tgt lv st σ bc bs (a1.bind f)) (k2 : ¬ (y ≤ x) → xs_ em sg M n lv st σ bc bs (a2.bind f)) : xs_ em sg M pc lv (.long y :: .long x :: st) σ bc bs ((if y ≤ x then a1 else a2).bind f) := by
  subst hn
  subst hp
  intro r σ' ho G base b L xs l p e R s m args below meth c H locs cells slots ls Q hC hf hlo hc hs hL hW hz hS kret
  refine W.lcmp hC.1 hC.2.1 hd (lv_if_ge hC.1 hC.2.1 hd1 ht (fun hcd => ?_) (fun hcd => ?_))
  · have hq : y ≤ x := (xm_cmp_ge x y).mp hcd
    exact k1 hq r σ' (by rw [if_pos hq] at ho; exact ho) G base b L xs l p e R s m args below meth c H locs cells slots ls Q hC hf hlo hc hs hL hW hz hS kret
  · have hq : ¬ (y ≤ x) := fun z => hcd ((xm_cmp_ge x y).mpr z)
    exact k2 hq r σ' (by rw [if_neg hq] at ho; exact ho) G base b L xs l p e R s m args below meth c H locs cells slots ls Q hC hf hlo hc hs hL hW hz hS kret
theorem xs_lif_lt {β : Type} {x y : Int64} {pc1 : Nat} {off : Int} {tgt : Nat} {a1 a2 : Option β} {f : β → Option (α × S)} (hd : decode M.2.1 pc = .ok (.lcmp, 1)) (hp : pc + 1 = pc1) (hd1 : decode M.2.1 pc1 = .ok (.ifCond .lt off, 3)) (ht : (pc1 : Int) + off = (tgt : Int)) (hn : pc1 + 3 = n) (k1 : x < y → xs_ em sg M tgt lv st σ bc bs (a1.bind f)) (k2 : ¬ (x < y) → xs_ em sg M n lv st σ bc bs (a2.bind f)) : xs_ em sg M pc lv (.long y :: .long x :: st) σ bc bs ((if x < y then a1 else a2).bind f) := by
  subst hn
  subst hp
  intro r σ' ho G base b L xs l p e R s m args below meth c H locs cells slots ls Q hC hf hlo hc hs hL hW hz hS kret
  refine W.lcmp hC.1 hC.2.1 hd (lv_if_lt hC.1 hC.2.1 hd1 ht (fun hcd => ?_) (fun hcd => ?_))
  · have hq : x < y := (xm_cmp_lt x y).mp hcd
    exact k1 hq r σ' (by rw [if_pos hq] at ho; exact ho) G base b L xs l p e R s m args below meth c H locs cells slots ls Q hC hf hlo hc hs hL hW hz hS kret
  · have hq : ¬ (x < y) := fun z => hcd ((xm_cmp_lt x y).mpr z)
    exact k2 hq r σ' (by rw [if_neg hq] at ho; exact ho) G base b L xs l p e R s m args below meth c H locs cells slots ls Q hC hf hlo hc hs hL hW hz hS kret
theorem xs_lif_gt {β : Type} {x y : Int64} {pc1 : Nat} {off : Int} {tgt : Nat} {a1 a2 : Option β} {f : β → Option (α × S)} (hd : decode M.2.1 pc = .ok (.lcmp, 1)) (hp : pc + 1 = pc1) (hd1 : decode M.2.1 pc1 = .ok (.ifCond .gt off, 3)) (ht : (pc1 : Int) + off = (tgt : Int)) (hn : pc1 + 3 = n) (k1 : y < x → xs_ em sg M tgt lv st σ bc bs (a1.bind f)) (k2 : ¬ (y < x) → xs_ em sg M n lv st σ bc bs (a2.bind f)) : xs_ em sg M pc lv (.long y :: .long x :: st) σ bc bs ((if y < x then a1 else a2).bind f) := by
  subst hn
  subst hp
  intro r σ' ho G base b L xs l p e R s m args below meth c H locs cells slots ls Q hC hf hlo hc hs hL hW hz hS kret
  refine W.lcmp hC.1 hC.2.1 hd (lv_if_gt hC.1 hC.2.1 hd1 ht (fun hcd => ?_) (fun hcd => ?_))
  · have hq : y < x := (xm_cmp_gt x y).mp hcd
    exact k1 hq r σ' (by rw [if_pos hq] at ho; exact ho) G base b L xs l p e R s m args below meth c H locs cells slots ls Q hC hf hlo hc hs hL hW hz hS kret
  · have hq : ¬ (y < x) := fun z => hcd ((xm_cmp_gt x y).mpr z)
    exact k2 hq r σ' (by rw [if_neg hq] at ho; exact ho) G base b L xs l p e R s m args below meth c H locs cells slots ls Q hC hf hlo hc hs hL hW hz hS kret
theorem xs_lif_le {β : Type} {x y : Int64} {pc1 : Nat} {off : Int} {tgt : Nat} {a1 a2 : Option β} {f : β → Option (α × S)} (hd : decode M.2.1 pc = .ok (.lcmp, 1)) (hp : pc + 1 = pc1) (hd1 : decode M.2.1 pc1 = .ok (.ifCond .le off, 3)) (ht : (pc1 : Int) + off = (tgt : Int)) (hn : pc1 + 3 = n) (k1 : x ≤ y → xs_ em sg M tgt lv st σ bc bs (a1.bind f)) (k2 : ¬ (x ≤ y) → xs_ em sg M n lv st σ bc bs (a2.bind f)) : xs_ em sg M pc lv (.long y :: .long x :: st) σ bc bs ((if x ≤ y then a1 else a2).bind f) := by
  subst hn
  subst hp
  intro r σ' ho G base b L xs l p e R s m args below meth c H locs cells slots ls Q hC hf hlo hc hs hL hW hz hS kret
  refine W.lcmp hC.1 hC.2.1 hd (lv_if_le hC.1 hC.2.1 hd1 ht (fun hcd => ?_) (fun hcd => ?_))
  · have hq : x ≤ y := (xm_cmp_le x y).mp hcd
    exact k1 hq r σ' (by rw [if_pos hq] at ho; exact ho) G base b L xs l p e R s m args below meth c H locs cells slots ls Q hC hf hlo hc hs hL hW hz hS kret
  · have hq : ¬ (x ≤ y) := fun z => hcd ((xm_cmp_le x y).mpr z)
    exact k2 hq r σ' (by rw [if_neg hq] at ho; exact ho) G base b L xs l p e R s m args below meth c H locs cells slots ls Q hC hf hlo hc hs hL hW hz hS kret
theorem xs_lif_eq {β : Type} {x y : Int64} {pc1 : Nat} {off : Int} {tgt : Nat} {a1 a2 : Option β} {f : β → Option (α × S)} (hd : decode M.2.1 pc = .ok (.lcmp, 1)) (hp : pc + 1 = pc1) (hd1 : decode M.2.1 pc1 = .ok (.ifCond .eq off, 3)) (ht : (pc1 : Int) + off = (tgt : Int)) (hn : pc1 + 3 = n) (k1 : x = y → xs_ em sg M tgt lv st σ bc bs (a1.bind f)) (k2 : ¬ (x = y) → xs_ em sg M n lv st σ bc bs (a2.bind f)) : xs_ em sg M pc lv (.long y :: .long x :: st) σ bc bs ((if x = y then a1 else a2).bind f) := by
  subst hn
  subst hp
  intro r σ' ho G base b L xs l p e R s m args below meth c H locs cells slots ls Q hC hf hlo hc hs hL hW hz hS kret
  refine W.lcmp hC.1 hC.2.1 hd (lv_if_eq hC.1 hC.2.1 hd1 ht (fun hcd => ?_) (fun hcd => ?_))
  · have hq : x = y := (xm_cmp_eq x y).mp hcd
    exact k1 hq r σ' (by rw [if_pos hq] at ho; exact ho) G base b L xs l p e R s m args below meth c H locs cells slots ls Q hC hf hlo hc hs hL hW hz hS kret
  · have hq : ¬ (x = y) := fun z => hcd ((xm_cmp_eq x y).mpr z)
    exact k2 hq r σ' (by rw [if_neg hq] at ho; exact ho) G base b L xs l p e R s m args below meth c H locs cells slots ls Q hC hf hlo hc hs hL hW hz hS kret
theorem xs_lif_ne {β : Type} {x y : Int64} {pc1 : Nat} {off : Int} {tgt : Nat} {a1 a2 : Option β} {f : β → Option (α × S)} (hd : decode M.2.1 pc = .ok (.lcmp, 1)) (hp : pc + 1 = pc1) (hd1 : decode M.2.1 pc1 = .ok (.ifCond .ne off, 3)) (ht : (pc1 : Int) + off = (tgt : Int)) (hn : pc1 + 3 = n) (k1 : x = y → xs_ em sg M n lv st σ bc bs (a1.bind f)) (k2 : ¬ (x = y) → xs_ em sg M tgt lv st σ bc bs (a2.bind f)) : xs_ em sg M pc lv (.long y :: .long x :: st) σ bc bs ((if x = y then a1 else a2).bind f) := by
  subst hn
  subst hp
  intro r σ' ho G base b L xs l p e R s m args below meth c H locs cells slots ls Q hC hf hlo hc hs hL hW hz hS kret
  refine W.lcmp hC.1 hC.2.1 hd (lv_if_ne hC.1 hC.2.1 hd1 ht (fun hcd => ?_) (fun hcd => ?_))
  · have hq : ¬ (x = y) := fun z => hcd ((xm_cmp_eq x y).mpr z)
    exact k2 hq r σ' (by rw [if_neg hq] at ho; exact ho) G base b L xs l p e R s m args below meth c H locs cells slots ls Q hC hf hlo hc hs hL hW hz hS kret
  · have hq : x = y := (xm_cmp_eq x y).mp hcd
    exact k1 hq r σ' (by rw [if_pos hq] at ho; exact ho) G base b L xs l p e R s m args below meth c H locs cells slots ls Q hC hf hlo hc hs hL hW hz hS kret
theorem xs_none {β : Type} {f : β → Option (α × S)} : xs_ em sg M pc lv st σ bc bs ((none : Option β).bind f) := by
  intro r σ' ho
  cases ho
theorem xs_top (k : xs_ em sg M pc lv st σ bc bs (o.bind some)) : xs_ em sg M pc lv st σ bc bs o := by
  cases o <;> exact k
theorem xs_reg {β γ : Type} {B : Option β} {g : β → Option γ} {f : γ → Option (α × S)} (k : xs_ em sg M pc lv st σ bc bs (B.bind (fun v => (g v).bind f))) : xs_ em sg M pc lv st σ bc bs ((B.bind g).bind f) := by
  rwa [Option.bind_assoc]
theorem xs_end {β : Type} {v : β} {f : β → Option (α × S)} (k : xs_ em sg M pc lv st σ bc bs (f v)) : xs_ em sg M pc lv st σ bc bs ((some v).bind f) := k
theorem xs_leti {β : Type} {e : Int32} {g : Int32 → Option β} {f : β → Option (α × S)} (k : ∀ v : Int32, xs_ em sg M pc lv (.int v :: st) σ bc bs ((g v).bind f)) : xs_ em sg M pc lv (.int e :: st) σ bc bs ((xm_let e g).bind f) := k e
theorem xs_letl {β : Type} {e : Int64} {g : Int64 → Option β} {f : β → Option (α × S)} (k : ∀ v : Int64, xs_ em sg M pc lv (.long v :: st) σ bc bs ((g v).bind f)) : xs_ em sg M pc lv (.long e :: st) σ bc bs ((xm_let e g).bind f) := k e
theorem xs_lets {β : Type} {e : S} {g : S → Option β} {f : β → Option (α × S)} (k : ∀ v : S, xs_ em sg M pc lv st v bc bs ((g v).bind f)) : xs_ em sg M pc lv st e bc bs ((xm_let e g).bind f) := k e
/-- returns -/
theorem xs_iret {S : Type} {sg : S → xm_S} {σ : S} {x : Int32} {β : Type} {v : β} {f : β → Option (Int32 × S)} (hd : decode M.2.1 pc = .ok (.ireturn, 1)) (hr : M.2.2.2.1 = some .int) (hf : f v = some (x, σ)) : xs_ (fun x : Int32 => some (.int x)) sg M pc lv [.int x] σ bc bs ((some v).bind f) := by
  intro r σ' ho G base b L xs l p e R s m args below meth c H locs cells slots ls Q hC hfr hlo hc hs hL hW hz hS kret
  have ho2 : f v = some (r, σ') := ho
  rw [hf] at ho2
  cases ho2
  exact kret H locs cells slots pc ls (Nat.le_add_right _ _) (Nat.le_add_right _ _) hW hS ⟨hd, Or.inl hr⟩
theorem xs_zret {S : Type} {sg : S → xm_S} {σ : S} {x : Int32} {β : Type} {v : β} {f : β → Option (Int32 × S)} (hd : decode M.2.1 pc = .ok (.ireturn, 1)) (hr : M.2.2.2.1 = some .boolean) (hf : f v = some (x, σ)) : xs_ (fun x : Int32 => some (.int x)) sg M pc lv [.int x] σ bc bs ((xm_chk (x = 0 ∨ x = 1) (some v)).bind f) := by
  intro r σ' ho G base b L xs l p e R s m args below meth c H locs cells slots ls Q hC hfr hlo hc hs hL hW hz hS kret
  by_cases hch : x = 0 ∨ x = 1
  · rw [xm_chk, if_pos hch] at ho
    have ho2 : f v = some (r, σ') := ho
    rw [hf] at ho2
    cases ho2
    exact kret H locs cells slots pc ls (Nat.le_add_right _ _) (Nat.le_add_right _ _) hW hS ⟨hd, Or.inr ⟨hr, hch⟩⟩
  · rw [xm_chk, if_neg hch] at ho
    cases ho
theorem xs_lret {S : Type} {sg : S → xm_S} {σ : S} {x : Int64} {β : Type} {v : β} {f : β → Option (Int64 × S)} (hd : decode M.2.1 pc = .ok (.lreturn, 1)) (hr : M.2.2.2.1 = some .long) (hf : f v = some (x, σ)) : xs_ (fun x : Int64 => some (.long x)) sg M pc lv [.long x] σ bc bs ((some v).bind f) := by
  intro r σ' ho G base b L xs l p e R s m args below meth c H locs cells slots ls Q hC hfr hlo hc hs hL hW hz hS kret
  have ho2 : f v = some (r, σ') := ho
  rw [hf] at ho2
  cases ho2
  exact kret H locs cells slots pc ls (Nat.le_add_right _ _) (Nat.le_add_right _ _) hW hS ⟨hd, hr⟩
theorem xs_vret {S : Type} {sg : S → xm_S} {σ : S} {β : Type} {v : β} {f : β → Option (Unit × S)} (hd : decode M.2.1 pc = .ok (.return_, 1)) (hr : M.2.2.2.1 = none) (hf : f v = some ((), σ)) : xs_ (fun _ : Unit => none) sg M pc lv [] σ bc bs ((some v).bind f) := by
  intro r σ' ho G base b L xs l p e R s m args below meth c H locs cells slots ls Q hC hfr hlo hc hs hL hW hz hS kret
  have ho2 : f v = some (r, σ') := ho
  rw [hf] at ho2
  cases ho2
  exact kret H locs cells slots pc ls (Nat.le_add_right _ _) (Nat.le_add_right _ _) hW hS ⟨hd, hr⟩
end XR_
