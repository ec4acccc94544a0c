/-! the law's own body: the script is at hand -/
def xq_ (L : Nat) (xs : Nat → Int32) {α S : Type} (em : α → Option Value) (sg : S → xm_S) (M : xm_M) (pc : Nat) (lv : List (Option Value)) (st : List Value) (σ : S) (bc bs : Nat) (o : Option (α × S)) : Prop :=
  ∀ (r : α) (σ' : S), o = some (r, σ') → ∀ (G : xm_G) (base b : Nat) (l : Launch) (p : Program) (e : Env) (R : Room) (s : State) (m : MethodId) (args : Array Value) (below : List Frame) (meth : Method) (c : Code) (H : Heap) (locs : List Loc) (cells slots : Nat) (ls : Array Slot) (Q : State → Prop),
    xm_C G base b L xs M p s m args meth c → M.2.2.2.2.1 ≤ R.frames → M.2.2.2.2.2 ≤ R.locals → cells + bc ≤ R.cells → slots + bs ≤ R.slots → xm_L base b ls M.2.2.1 lv → xm_W G base (sg σ) H → s.heap.size + cells = base + (sg σ).1 → va_S (fun q => base ≤ q) s.heap H locs →
    (∀ (H1 : Heap) (locs1 : List Loc) (cells1 slots1 pc1 : Nat) (ls1 : Array Slot), cells1 ≤ cells + bc → slots1 ≤ slots + bs → xm_W G base (sg σ') H1 → va_S (fun q => base ≤ q) s.heap H1 locs1 → xm_rt M pc1 (em r) → W p l e R s m args below meth c H1 locs1 cells1 slots1 Q (F0 m pc1 ls1 ((em r).map (xm_r base b)).toList)) →
    W p l e R s m args below meth c H locs cells slots Q (F0 m pc ls (st.map (xm_r base b)))
section XR_
variable {α S : Type} {em : α → Option Value} {sg : S → xm_S} {M : xm_M} {pc n : Nat} {lv : List (Option Value)} {st : List Value} {σ : S} {bc bs : Nat} {o : Option (α × S)} {L : Nat} {xs : Nat → Int32}
theorem xq_iadd {x y : Int32} (hd : decode M.2.1 pc = .ok (.iadd, 1)) (hn : pc + 1 = n) (k : xq_ L xs em sg M n lv (.int (x + y) :: st) σ bc bs o) : xq_ L xs em sg M pc lv (.int y :: .int x :: st) σ bc bs o := by
  subst hn
  intro r σ' ho G base b l p e R s m args below meth c H locs cells slots ls Q hC hf hlo hc hs hL hW hz hS kret
  exact lv_iadd hC.1 hC.2.1 hd (k r σ' ho G base b l p e R s m args below meth c H locs cells slots ls Q hC hf hlo hc hs hL hW hz hS kret)
theorem xq_isub {x y : Int32} (hd : decode M.2.1 pc = .ok (.isub, 1)) (hn : pc + 1 = n) (k : xq_ L xs em sg M n lv (.int (x - y) :: st) σ bc bs o) : xq_ L xs em sg M pc lv (.int y :: .int x :: st) σ bc bs o := by
  subst hn
  intro r σ' ho G base b l p e R s m args below meth c H locs cells slots ls Q hC hf hlo hc hs hL hW hz hS kret
  exact lv_isub hC.1 hC.2.1 hd (k r σ' ho G base b l p e R s m args below meth c H locs cells slots ls Q hC hf hlo hc hs hL hW hz hS kret)
theorem xq_iand {x y : Int32} (hd : decode M.2.1 pc = .ok (.iand, 1)) (hn : pc + 1 = n) (k : xq_ L xs em sg M n lv (.int (x &&& y) :: st) σ bc bs o) : xq_ L xs em sg M pc lv (.int y :: .int x :: st) σ bc bs o := by
  subst hn
  intro r σ' ho G base b l p e R s m args below meth c H locs cells slots ls Q hC hf hlo hc hs hL hW hz hS kret
  exact lv_iand hC.1 hC.2.1 hd (k r σ' ho G base b l p e R s m args below meth c H locs cells slots ls Q hC hf hlo hc hs hL hW hz hS kret)
theorem xq_iconst {i : Int} {v : Int32} (hd : decode M.2.1 pc = .ok (.iconst i, 1)) (hn : pc + 1 = n) (hv : Int32.ofInt i = v) (k : xq_ L xs em sg M n lv (.int v :: st) σ bc bs o) : xq_ L xs em sg M pc lv (st) σ bc bs o := by
  subst hn
  intro r σ' ho G base b l p e R s m args below meth c H locs cells slots ls Q hC hf hlo hc hs hL hW hz hS kret
  exact lv_iconst hC.1 hC.2.1 hd hv (k r σ' ho G base b l p e R s m args below meth c H locs cells slots ls Q hC hf hlo hc hs hL hW hz hS kret)
theorem xq_bipush {i : Int} {v : Int32} (hd : decode M.2.1 pc = .ok (.bipush i, 2)) (hn : pc + 2 = n) (hv : (Int8.ofInt i).toInt32 = v) (k : xq_ L xs em sg M n lv (.int v :: st) σ bc bs o) : xq_ L xs em sg M pc lv (st) σ bc bs o := by
  subst hn
  intro r σ' ho G base b l p e R s m args below meth c H locs cells slots ls Q hC hf hlo hc hs hL hW hz hS kret
  exact lv_bipush hC.1 hC.2.1 hd hv (k r σ' ho G base b l p e R s m args below meth c H locs cells slots ls Q hC hf hlo hc hs hL hW hz hS kret)
theorem xq_iload_n {i : Fin 4} {x : Int32} (hd : decode M.2.1 pc = .ok (.iload_n i, 1)) (hn : pc + 1 = n) (hl : lv[(i : Nat)]? = some (some (.int x))) (k : xq_ L xs em sg M n lv (.int x :: st) σ bc bs o) : xq_ L xs em sg M pc lv (st) σ bc bs o := by
  subst hn
  intro r σ' ho G base b l p e R s m args below meth c H locs cells slots ls Q hC hf hlo hc hs hL hW hz hS kret
  exact lv_iload_n hC.1 hC.2.1 hd rfl (hL.at hl) (k r σ' ho G base b l p e R s m args below meth c H locs cells slots ls Q hC hf hlo hc hs hL hW hz hS kret)
theorem xq_aload_n {i : Fin 4} {x : Nat} (hd : decode M.2.1 pc = .ok (.aload_n i, 1)) (hn : pc + 1 = n) (hl : lv[(i : Nat)]? = some (some (.ref x))) (k : xq_ L xs em sg M n lv (.ref x :: st) σ bc bs o) : xq_ L xs em sg M pc lv (st) σ bc bs o := by
  subst hn
  intro r σ' ho G base b l p e R s m args below meth c H locs cells slots ls Q hC hf hlo hc hs hL hW hz hS kret
  exact lv_aload_n hC.1 hC.2.1 hd rfl (hL.at hl) (k r σ' ho G base b l p e R s m args below meth c H locs cells slots ls Q hC hf hlo hc hs hL hW hz hS kret)
theorem xq_sload_n {i : Fin 4} {x : UInt32} (hd : decode M.2.1 pc = .ok (.aload_n i, 1)) (hn : pc + 1 = n) (hl : lv[(i : Nat)]? = some (some (.float x))) (k : xq_ L xs em sg M n lv (.float x :: st) σ bc bs o) : xq_ L xs em sg M pc lv (st) σ bc bs o := by
  subst hn
  intro r σ' ho G base b l p e R s m args below meth c H locs cells slots ls Q hC hf hlo hc hs hL hW hz hS kret
  exact lv_aload_n hC.1 hC.2.1 hd rfl (hL.at hl) (k r σ' ho G base b l p e R s m args below meth c H locs cells slots ls Q hC hf hlo hc hs hL hW hz hS kret)
theorem xq_istore_n {i : Fin 4} {x : Int32} {lv' : List (Option Value)} (hd : decode M.2.1 pc = .ok (.istore_n i, 1)) (hn : pc + 1 = n) (hi : (i : Nat) < M.2.2.1) (he : xm_s1 lv (i : Nat) (.int x) = lv') (k : xq_ L xs em sg M n lv' st σ bc bs o) : xq_ L xs em sg M pc lv (.int x :: st) σ bc bs o := by
  subst hn
  intro r σ' ho G base b l p e R s m args below meth c H locs cells slots ls Q hC hf hlo hc hs hL hW hz hS kret
  obtain ⟨l0, hl0, hm⟩ := hL
  exact lv_istore_n hC.1 hC.2.1 hd rfl hl0 hi rfl (fun ls' h' => k r σ' ho G base b l p e R s m args below meth c H locs cells slots ls' Q hC hf hlo hc hs (xm_L.st1 hm he.symm h') hW hz hS kret)
theorem xq_astore_n {i : Fin 4} {x : Nat} {lv' : List (Option Value)} (hd : decode M.2.1 pc = .ok (.astore_n i, 1)) (hn : pc + 1 = n) (hi : (i : Nat) < M.2.2.1) (he : xm_s1 lv (i : Nat) (.ref x) = lv') (k : xq_ L xs em sg M n lv' st σ bc bs o) : xq_ L xs em sg M pc lv (.ref x :: st) σ bc bs o := by
  subst hn
  intro r σ' ho G base b l p e R s m args below meth c H locs cells slots ls Q hC hf hlo hc hs hL hW hz hS kret
  obtain ⟨l0, hl0, hm⟩ := hL
  exact lv_astore_n hC.1 hC.2.1 hd rfl hl0 hi rfl (fun ls' h' => k r σ' ho G base b l p e R s m args below meth c H locs cells slots ls' Q hC hf hlo hc hs (xm_L.st1 hm he.symm h') hW hz hS kret)
theorem xq_goto {off : Int} (hd : decode M.2.1 pc = .ok (.goto off, 3)) (ht : (pc : Int) + off = (n : Int)) (k : xq_ L xs em sg M n lv st σ bc bs o) : xq_ L xs em sg M pc lv st σ bc bs o := by
  intro r σ' ho G base b l p e R s m args below meth c H locs cells slots ls Q hC hf hlo hc hs hL hW hz hS kret
  exact lv_goto hC.1 hC.2.1 hd ht (k r σ' ho G base b l p e R s m args below meth c H locs cells slots ls Q hC hf hlo hc hs hL hW hz hS kret)
theorem xq_icmp_gt {β : Type} {x y : Int32} {off : Int} {tgt : Nat} {a1 a2 : Option β} {f : β → Option (α × S)} (hd : decode M.2.1 pc = .ok (.if_icmp .gt off, 3)) (ht : (pc : Int) + off = (tgt : Int)) (hn : pc + 3 = n) (k1 : y < x → xq_ L xs em sg M tgt lv st σ bc bs (a1.bind f)) (k2 : ¬ (y < x) → xq_ L xs em sg M n lv st σ bc bs (a2.bind f)) : xq_ L xs em sg M pc lv (.int y :: .int x :: st) σ bc bs ((if y < x then a1 else a2).bind f) := by
  subst hn
  intro r σ' ho G base b l p e R s m args below meth c H locs cells slots ls Q hC hf hlo hc hs hL hW hz hS kret
  refine lv_icmp_gt hC.1 hC.2.1 hd ht (fun hcd => ?_) (fun hcd => ?_)
  · exact k1 hcd r σ' (by rw [if_pos hcd] at ho; exact ho) G base b l p e R s m args below meth c H locs cells slots ls Q hC hf hlo hc hs hL hW hz hS kret
  · exact k2 hcd r σ' (by rw [if_neg hcd] at ho; exact ho) G base b l p e R s m args below meth c H locs cells slots ls Q hC hf hlo hc hs hL hW hz hS kret
theorem xq_icmp_eq {β : Type} {x y : Int32} {off : Int} {tgt : Nat} {a1 a2 : Option β} {f : β → Option (α × S)} (hd : decode M.2.1 pc = .ok (.if_icmp .eq off, 3)) (ht : (pc : Int) + off = (tgt : Int)) (hn : pc + 3 = n) (k1 : x = y → xq_ L xs em sg M tgt lv st σ bc bs (a1.bind f)) (k2 : ¬ (x = y) → xq_ L xs em sg M n lv st σ bc bs (a2.bind f)) : xq_ L xs em sg M pc lv (.int y :: .int x :: st) σ bc bs ((if x = y then a1 else a2).bind f) := by
  subst hn
  intro r σ' ho G base b l p e R s m args below meth c H locs cells slots ls Q hC hf hlo hc hs hL hW hz hS kret
  refine lv_icmp_eq hC.1 hC.2.1 hd ht (fun hcd => ?_) (fun hcd => ?_)
  · exact k1 hcd r σ' (by rw [if_pos hcd] at ho; exact ho) G base b l p e R s m args below meth c H locs cells slots ls Q hC hf hlo hc hs hL hW hz hS kret
  · exact k2 hcd r σ' (by rw [if_neg hcd] at ho; exact ho) G base b l p e R s m args below meth c H locs cells slots ls Q hC hf hlo hc hs hL hW hz hS kret
theorem xq_lif_eq {β : Type} {x y : Int64} {pc1 : Nat} {off : Int} {tgt : Nat} {a1 a2 : Option β} {f : β → Option (α × S)} (hd : decode M.2.1 pc = .ok (.lcmp, 1)) (hp : pc + 1 = pc1) (hd1 : decode M.2.1 pc1 = .ok (.ifCond .eq off, 3)) (ht : (pc1 : Int) + off = (tgt : Int)) (hn : pc1 + 3 = n) (k1 : x = y → xq_ L xs em sg M tgt lv st σ bc bs (a1.bind f)) (k2 : ¬ (x = y) → xq_ L xs em sg M n lv st σ bc bs (a2.bind f)) : xq_ L xs em sg M pc lv (.long y :: .long x :: st) σ bc bs ((if x = y then a1 else a2).bind f) := by
  subst hn
  subst hp
  intro r σ' ho G base b l p e R s m args below meth c H locs cells slots ls Q hC hf hlo hc hs hL hW hz hS kret
  refine W.lcmp hC.1 hC.2.1 hd (lv_if_eq hC.1 hC.2.1 hd1 ht (fun hcd => ?_) (fun hcd => ?_))
  · have hq : x = y := (xm_cmp_eq x y).mp hcd
    exact k1 hq r σ' (by rw [if_pos hq] at ho; exact ho) G base b l p e R s m args below meth c H locs cells slots ls Q hC hf hlo hc hs hL hW hz hS kret
  · have hq : ¬ (x = y) := fun z => hcd ((xm_cmp_eq x y).mpr z)
    exact k2 hq r σ' (by rw [if_neg hq] at ho; exact ho) G base b l p e R s m args below meth c H locs cells slots ls Q hC hf hlo hc hs hL hW hz hS kret
theorem xq_iinc {i : Nat} {d : Int} {x v : Int32} {lv' : List (Option Value)} (hd : decode M.2.1 pc = .ok (.iinc i d, 3)) (hn : pc + 3 = n) (hl : lv[i]? = some (some (.int x))) (hv : x + Int32.ofInt d = v) (hi : i < M.2.2.1) (he : xm_s1 lv i (.int v) = lv') (k : xq_ L xs em sg M n lv' st σ bc bs o) : xq_ L xs em sg M pc lv st σ bc bs o := by
  subst hn
  intro r σ' ho G base b l p e R s m args below meth c H locs cells slots ls Q hC hf hlo hc hs hL hW hz hS kret
  obtain ⟨l0, hl0, hm⟩ := hL
  obtain ⟨kk, hkk⟩ := List.getElem?_of_mem (hm i _ hl)
  exact lv_iinc hC.1 hC.2.1 hd hl0 hkk hv hi rfl (fun ls' h' => k r σ' ho G base b l p e R s m args below meth c H locs cells slots ls' Q hC hf hlo hc hs (xm_L.st1 hm he.symm h') hW hz hS kret)
theorem xq_dup {v : Value} (hd : decode M.2.1 pc = .ok (.dup, 1)) (hn : pc + 1 = n) (hv : v.category = 1) (k : xq_ L xs em sg M n lv (v :: v :: st) σ bc bs o) : xq_ L xs em sg M pc lv (v :: st) σ bc bs o := by
  subst hn
  intro r σ' ho G base b l p e R s m args below meth c H locs cells slots ls Q hC hf hlo hc hs hL hW hz hS kret
  exact lv_dup hC.1 hC.2.1 hd ((xm_r_cat base b v).trans hv) (k r σ' ho G base b l p e R s m args below meth c H locs cells slots ls Q hC hf hlo hc hs hL hW hz hS kret)
theorem xq_leti {β : Type} {e : Int32} {g : Int32 → Option β} {f : β → Option (α × S)} (k : ∀ v : Int32, xq_ L xs em sg M pc lv (.int v :: st) σ bc bs ((g v).bind f)) : xq_ L xs em sg M pc lv (.int e :: st) σ bc bs ((xm_let e g).bind f) := k e
theorem xq_reg {β γ : Type} {B : Option β} {g : β → Option γ} {f : γ → Option (α × S)} (k : xq_ L xs em sg M pc lv st σ bc bs (B.bind (fun v => (g v).bind f))) : xq_ L xs em sg M pc lv st σ bc bs ((B.bind g).bind f) := by
  rwa [Option.bind_assoc]
theorem xq_none {β : Type} {f : β → Option (α × S)} : xq_ L xs em sg M pc lv st σ bc bs ((none : Option β).bind f) := by
  intro r σ' ho
  cases ho
theorem xq_top (k : xq_ L xs em sg M pc lv st σ bc bs (o.bind some)) : xq_ L xs em sg M pc lv st σ bc bs o := by
  cases o <;> exact k
theorem xq_end {β : Type} {v : β} {f : β → Option (α × S)} (k : xq_ L xs em sg M pc lv st σ bc bs (f v)) : xq_ L xs em sg M pc lv st σ bc bs ((some v).bind f) := k
theorem xq_zret {S : Type} {sg : S → xm_S} {σ : S} {x : Int32} {β : Type} {v : β} {f : β → Option (Int32 × S)} (hd : decode M.2.1 pc = .ok (.ireturn, 1)) (hr : M.2.2.2.1 = some .boolean) (hf : f v = some (x, σ)) : xq_ L xs (fun x : Int32 => some (.int x)) sg M pc lv [.int x] σ bc bs ((xm_chk (x = 0 ∨ x = 1) (some v)).bind f) := by
  intro r σ' ho G base b l p e R s m args below meth c H locs cells slots ls Q hC hfr hlo hc hs hL hW hz hS kret
  by_cases hch : x = 0 ∨ x = 1
  · rw [xm_chk, if_pos hch] at ho
    have ho2 : f v = some (r, σ') := ho
    rw [hf] at ho2
    cases ho2
    exact kret H locs cells slots pc ls (Nat.le_add_right _ _) (Nat.le_add_right _ _) hW hS ⟨hd, Or.inr ⟨hr, hch⟩⟩
  · rw [xm_chk, if_neg hch] at ho
    cases ho
theorem xq_zretc {S : Type} {sg : S → xm_S} {σ : S} {x : Int32} {β : Type} {v : β} {f : β → Option (Int32 × S)} (hd : decode M.2.1 pc = .ok (.ireturn, 1)) (hr : M.2.2.2.1 = some .boolean) (hx : x = 0 ∨ x = 1) (hf : f v = some (x, σ)) : xq_ L xs (fun x : Int32 => some (.int x)) sg M pc lv [.int x] σ bc bs ((some v).bind f) := by
  have := xq_zret (L := L) (xs := xs) (bc := bc) (bs := bs) (lv := lv) (sg := sg) hd hr hf
  rwa [xm_chk, if_pos hx] at this
theorem xq_iincl {β : Type} {i : Nat} {d : Int} {x dv : Int32} {g : Int32 → Option β} {f : β → Option (α × S)} (lvf : Int32 → List (Option Value)) (hd : decode M.2.1 pc = .ok (.iinc i d, 3)) (hn : pc + 3 = n) (hl : lv[i]? = some (some (.int x))) (hv : Int32.ofInt d = dv) (hi : i < M.2.2.1) (he : ∀ v : Int32, xm_s1 lv i (.int v) = lvf v) (k : ∀ v : Int32, xq_ L xs em sg M n (lvf v) st σ bc bs ((g v).bind f)) : xq_ L xs em sg M pc lv st σ bc bs ((xm_let (x + dv) g).bind f) := by
  subst hv
  exact xq_iinc hd hn hl rfl hi (he _) (k _)
theorem xq_fg {lv' : List (Option Value)} (h : xm_sb lv' lv) (k : xq_ L xs em sg M pc lv' st σ bc bs o) : xq_ L xs em sg M pc lv st σ bc bs o := by
  intro r σ' ho G base b l p e R s m args below meth c H locs cells slots ls Q hC hf hlo hc hs hL hW hz hS kret
  obtain ⟨l0, h1, h2⟩ := hL
  exact k r σ' ho G base b l p e R s m args below meth c H locs cells slots ls Q hC hf hlo hc hs ⟨l0, h1, fun i v hi => h2 i v (xm_sb_at h i v hi)⟩ hW hz hS kret
theorem xq_gf {lv' : List (Option Value)} (k : xq_ L xs em sg M pc lv' st σ bc bs o) (h : xm_sb lv' lv) : xq_ L xs em sg M pc lv st σ bc bs o := xq_fg h k
theorem xq_ite {β : Type} {c : Prop} [Decidable c] {a1 a2 : Option β} {f : β → Option (α × S)} (k1 : c → xq_ L xs em sg M pc lv st σ bc bs (a1.bind f)) (k2 : ¬ c → xq_ L xs em sg M pc lv st σ bc bs (a2.bind f)) : xq_ L xs em sg M pc lv st σ bc bs ((if c then a1 else a2).bind f) := by
  by_cases h : c
  · rw [if_pos h]; exact k1 h
  · rw [if_neg h]; exact k2 h
theorem xq_chk {β : Type} {c : Prop} [Decidable c] {a : Option β} {f : β → Option (α × S)} (k : c → xq_ L xs em sg M pc lv st σ bc bs (a.bind f)) : xq_ L xs em sg M pc lv st σ bc bs ((xm_chk c a).bind f) := by
  by_cases h : c
  · rw [xm_chk, if_pos h]; exact k h
  · rw [xm_chk, if_neg h]; exact xq_none
theorem xq_tsIn {dflt lo hi : Int} {offs : Array Int} {len : Nat} {x c : Int32} {off : Int} {tgt : Nat} (hd : decode M.2.1 pc = .ok (.tableswitch dflt lo hi offs, len)) (hx : x = c) (h1 : ¬ c.toInt < lo) (h2 : ¬ hi < c.toInt) (h3 : offs[(c.toInt - lo).toNat]? = some off) (ht : (pc : Int) + off = (tgt : Int)) (k : xq_ L xs em sg M tgt lv st σ bc bs o) : xq_ L xs em sg M pc lv (.int x :: st) σ bc bs o := by
  subst hx
  intro r σ' ho G base b l p e R s m args below meth c H locs cells slots ls Q hC hf hlo hc hs hL hW hz hS kret
  exact lv_tableIn hC.1 hC.2.1 hd h1 h2 h3 ht (k r σ' ho G base b l p e R s m args below meth c H locs cells slots ls Q hC hf hlo hc hs hL hW hz hS kret)
theorem xq_tsOut {dflt lo hi : Int} {offs : Array Int} {len : Nat} {x : Int32} {tgt : Nat} (hd : decode M.2.1 pc = .ok (.tableswitch dflt lo hi offs, len)) (hx : x.toInt < lo ∨ hi < x.toInt) (ht : (pc : Int) + dflt = (tgt : Int)) (k : xq_ L xs em sg M tgt lv st σ bc bs o) : xq_ L xs em sg M pc lv (.int x :: st) σ bc bs o := by
  intro r σ' ho G base b l p e R s m args below meth c H locs cells slots ls Q hC hf hlo hc hs hL hW hz hS kret
  exact lv_tableOut hC.1 hC.2.1 hd hx ht (k r σ' ho G base b l p e R s m args below meth c H locs cells slots ls Q hC hf hlo hc hs hL hW hz hS kret)
theorem xq_sld {β : Type} {i : Int32} {w : UInt32} {a : Option β} {f : β → Option (α × S)} (hd : decode M.2.1 pc = .ok (.iaload, 1)) (hn : pc + 1 = n) (k : xq_ L xs em sg M n lv (.int (xs i.toNatClampNeg) :: st) σ bc bs (a.bind f)) : xq_ L xs em sg M pc lv (.int i :: .float w :: st) σ bc bs ((xm_chk (xm_in i L) a).bind f) := by
  subst hn
  refine xq_chk (fun hch => ?_)
  intro r σ' ho G base b l p e R s m args below meth c H locs cells slots ls Q hC hf hlo hc hs hL hW hz hS kret
  exact va_sld hC.1 hC.2.1 hC.2.2.2.2.2.2.2.2.2.2.1 (Nat.lt_of_lt_of_le hC.2.2.2.2.2.2.2.2.2.2.2.1 hC.2.2.2.2.2.2.2.2.2.1) (Nat.not_le.mpr hC.2.2.2.2.2.2.2.2.2.2.2.1) hS (xm_in_vp hch) hd (k r σ' ho G base b l p e R s m args below meth c H locs cells slots ls Q hC hf hlo hc hs hL hW hz hS kret)
theorem xq_slen {w : UInt32} (hd : decode M.2.1 pc = .ok (.arraylength, 1)) (hn : pc + 1 = n) (k : xq_ L xs em sg M n lv (.int (Int32.ofNat L) :: st) σ bc bs o) : xq_ L xs em sg M pc lv (.float w :: st) σ bc bs o := by
  subst hn
  intro r σ' ho G base b l p e R s m args below meth c H locs cells slots ls Q hC hf hlo hc hs hL hW hz hS kret
  exact va_slen hC.1 hC.2.1 hC.2.2.2.2.2.2.2.2.2.2.1 (Nat.lt_of_lt_of_le hC.2.2.2.2.2.2.2.2.2.2.2.1 hC.2.2.2.2.2.2.2.2.2.1) (Nat.not_le.mpr hC.2.2.2.2.2.2.2.2.2.2.2.1) hS hd (k r σ' ho G base b l p e R s m args below meth c H locs cells slots ls Q hC hf hlo hc hs hL hW hz hS kret)
end XR_
section XR_
variable {α β S αN : Type} {em : α → Option Value} {emN : αN → Option Value} {sg : S → xm_S} {M N : xm_M} {pc n na idx mc ms bc bs bc' bs' : Nat} {lv lv0 : List (Option Value)} {stk rest As : List Value} {σ : S} {oN : Option (αN × S)} {F : αN × S → Option β} {f : β → Option (α × S)} {L : Nat} {xs : Nat → Int32}
theorem xq_callv {kk ci nn : Nat} {T : u_T} {NF : Nat} (hd : decode M.2.1 pc = .ok (.invokevirtual idx, 3)) (hn : pc + 3 = n) (hok : xm_ok N na) (hw : Cond.methodLink M.1.cls idx N.1 ∈ xm_tb) (hin : Cond.instanceMethod N.1 ∈ xm_tb) (hse : Cond.selects N.1.cls N.1 N.1 ∈ xm_tb) (hR : N.2.2.2.2.1 + 1 ≤ M.2.2.2.2.1 ∧ 8 + (N.2.2.1 + 11) + N.2.2.2.2.2 ≤ M.2.2.2.2.2) (As : List Value) (rest : List Value) (hstk : stk = As.reverse ++ .ref kk :: rest) (hla : As.length = na) (hlen : (lg_sl (.ref kk :: As)).length ≤ N.2.2.1) (he : xm_en N.2.2.1 (.ref kk :: As) = lv0) (hrest : (rest.map fun v => v.category).sum ≤ 8) (hb : bc' + mc ≤ bc ∧ bs' + ms ≤ bs) (hKm : ∀ q, oN = some q → (sg q.2).1 = (sg σ).1 + mc) (hN : xs_ emN sg N 0 lv0 [] σ mc ms oN) (hk : xm_is (sg σ) kk ci nn) (hc13 : ci < 13) (hcl : vwCl[ci]? = some (N.1.cls, T, NF)) (k : ∀ (v : αN) (σ1 : S), xq_ L xs em sg M n lv ((emN v).toList ++ rest) σ1 bc' bs' ((F (v, σ1)).bind f)) : xq_ L xs em sg M pc lv stk σ bc bs ((oN.bind F).bind f) := by
  subst hn
  intro r σ' ho G base b l p e R s m args below meth c H locs cells slots ls Q hC hf hlo hc hs hL hW hz hS kret
  cases hoN : oN with
  | none => rw [hoN] at ho; cases ho
  | some q =>
    obtain ⟨v, σ1⟩ := q
    rw [hoN] at ho
    have hM := xm_met hok hN he hlen hoN G base b L xs l
    have hKv := hKm _ hoN
    obtain ⟨hx, hbb, hrt, hml, hown, hts, hlk, hnm, hK, hbs, hX, hbl, hNw⟩ := id hC
    intro T0 hT0 X0
    have hsz := xm_size X0 hT0 hW hz hbs
    refine (?_ : W p l e R s m args below meth c H locs cells slots Q (F0 m pc ls (stk.map (xm_r base b)))) T0 hT0 X0
    refine xm_after (G := G) (base := base) (b := b) (v := emN v) (σ' := sg σ1) (mc := mc) (ms := ms) (rest := rest.map (xm_r base b)) (a := (Value.ref (base + kk) :: As.map (xm_r base b)).toArray) ?_ hS (fun H1 locs1 hW1 hS1 => ?_)
    · exact va_runV (As := As.map (xm_r base b)) (rest := rest.map (xm_r base b)) ⟨hx, hbb, hml, hown, hts⟩ hM ⟨callB_of na hts (xm_goodin hok.2.1) rfl rfl rfl (hts _ hok.2.2.1) (hts _ hw) hok.2.2.2 ⟨Nat.le_trans hR.1 hf, Nat.le_trans hR.2 hlo⟩, hts _ hin, hts _ hse⟩ ⟨xm_blind, va_recv hK hW hcl (xm_atob hc13 hk), fun U hU hWm => ⟨rfl, by rw [hU]; exact hsz, by rw [hU]; exact hW, va_K.moved hWm.alike hK, by rw [hU]; exact (hX.kept (hS.2.1 b (Nat.lt_of_lt_of_le hbl hbs) (Nat.not_le.mpr hbl))).moved hWm.alike, hbl, hNw.moved hWm⟩⟩ rfl (by rw [List.length_map]; exact hla) hL.size (by subst hstk; simp [xm_r]) (by show 2 * 0 + _ ≤ 8; rw [xm_cats]; omega) hd ⟨by show cells + mc ≤ R.cells; omega, by show slots + ms ≤ R.slots; omega⟩
    · have hk2 := k v σ1 r σ' ho G base b l p e R s m args below meth c H1 locs1 (cells + mc) (slots + ms) ls Q hC hf hlo (by omega) (by omega) hL hW1 (by rw [hKv]; omega) hS1 (fun H2 locs2 cells2 slots2 pc2 ls2 h1 h2 => kret H2 locs2 cells2 slots2 pc2 ls2 (by omega) (by omega))
      cases hem : emN v <;> rw [hem] at hk2 <;> exact hk2
theorem xq_callc {kk : Nat} (hd : decode M.2.1 pc = .ok (.invokespecial idx, 3)) (hn : pc + 3 = n) (hok : xm_ok N na) (hw : Cond.methodLink M.1.cls idx N.1 ∈ xm_tb) (hin : Cond.instanceMethod N.1 ∈ xm_tb) (hname : N.1.name = "<init>") (hret : N.2.2.2.1 = none) (hR : N.2.2.2.2.1 + 1 ≤ M.2.2.2.2.1 ∧ 8 + (N.2.2.1 + 11) + N.2.2.2.2.2 ≤ M.2.2.2.2.2) (As : List Value) (rest : List Value) (hstk : stk = As.reverse ++ .ref kk :: rest) (hla : As.length = na) (hlen : (lg_sl (.ref kk :: As)).length ≤ N.2.2.1) (he : xm_en N.2.2.1 (.ref kk :: As) = lv0) (hrest : (rest.map fun v => v.category).sum ≤ 8) (hb : bc' + mc ≤ bc ∧ bs' + ms ≤ bs) (hKm : ∀ q, oN = some q → (sg q.2).1 = (sg σ).1 + mc) (hN : xs_ emN sg N 0 lv0 [] σ mc ms oN) (k : ∀ (v : αN) (σ1 : S), xq_ L xs em sg M n lv ((emN v).toList ++ rest) σ1 bc' bs' ((F (v, σ1)).bind f)) : xq_ L xs em sg M pc lv stk σ bc bs ((oN.bind F).bind f) := by
  subst hn
  intro r σ' ho G base b l p e R s m args below meth c H locs cells slots ls Q hC hf hlo hc hs hL hW hz hS kret
  cases hoN : oN with
  | none => rw [hoN] at ho; cases ho
  | some q =>
    obtain ⟨v, σ1⟩ := q
    rw [hoN] at ho
    have hM := xm_met hok hN he hlen hoN G base b L xs l
    have hKv := hKm _ hoN
    obtain ⟨hx, hbb, hrt, hml, hown, hts, hlk, hnm, hK, hbs, hX, hbl, hNw⟩ := id hC
    intro T0 hT0 X0
    have hsz := xm_size X0 hT0 hW hz hbs
    refine (?_ : W p l e R s m args below meth c H locs cells slots Q (F0 m pc ls (stk.map (xm_r base b)))) T0 hT0 X0
    refine xm_after (G := G) (base := base) (b := b) (v := emN v) (σ' := sg σ1) (mc := mc) (ms := ms) (rest := rest.map (xm_r base b)) (a := (Value.ref (base + kk) :: As.map (xm_r base b)).toArray) ?_ hS (fun H1 locs1 hW1 hS1 => ?_)
    · exact va_runI (As := As.map (xm_r base b)) (rest := rest.map (xm_r base b)) ⟨hx, hbb, hml, hown, hts⟩ hM ⟨callB_of na hts (xm_goodin hok.2.1) (by rw [xm_wsM, hret]) rfl rfl (hts _ hok.2.2.1) (hts _ hw) hok.2.2.2 ⟨Nat.le_trans hR.1 hf, Nat.le_trans hR.2 hlo⟩, hname, hts _ hin⟩ ⟨xm_blind, fun U hU hWm => ⟨rfl, by rw [hU]; exact hsz, by rw [hU]; exact hW, va_K.moved hWm.alike hK, by rw [hU]; exact (hX.kept (hS.2.1 b (Nat.lt_of_lt_of_le hbl hbs) (Nat.not_le.mpr hbl))).moved hWm.alike, hbl, hNw.moved hWm⟩⟩ rfl (by rw [List.length_map]; exact hla) hL.size (by subst hstk; simp [xm_r]) (by show 2 * 0 + _ ≤ 8; rw [xm_cats]; omega) hd ⟨by show cells + mc ≤ R.cells; omega, by show slots + ms ≤ R.slots; omega⟩
    · have hk2 := k v σ1 r σ' ho G base b l p e R s m args below meth c H1 locs1 (cells + mc) (slots + ms) ls Q hC hf hlo (by omega) (by omega) hL hW1 (by rw [hKv]; omega) hS1 (fun H2 locs2 cells2 slots2 pc2 ls2 h1 h2 => kret H2 locs2 cells2 slots2 pc2 ls2 (by omega) (by omega))
      cases hem : emN v <;> rw [hem] at hk2 <;> exact hk2
end XR_
section XR_
variable {α β : Type} {em : α → Option Value} {M : xm_M} {pc n : Nat} {lv : List (Option Value)} {bc bs : Nat} {f : β → Option (α × xm_Y)} {μ : xm_Y} {L : Nat} {xs : Nat → Int32}
theorem yq_callvi {N : xm_M} {na idx : Nat} {oN : Option (Int32 × xm_Y)} {F : Int32 × xm_Y → Option β} {stk : List Value} {lv0 : List (Option Value)} {kk ci nn : Nat} {T : u_T} {NF : Nat} (hd : decode M.2.1 pc = .ok (.invokevirtual idx, 3)) (hn : pc + 3 = n) (hok : xm_ok N na) (hw : Cond.methodLink M.1.cls idx N.1 ∈ xm_tb) (hin : Cond.instanceMethod N.1 ∈ xm_tb) (hse : Cond.selects N.1.cls N.1 N.1 ∈ xm_tb) (hR : N.2.2.2.2.1 + 1 ≤ M.2.2.2.2.1 ∧ 8 + (N.2.2.1 + 11) + N.2.2.2.2.2 ≤ M.2.2.2.2.2) (As : List Value) (rest : List Value) (hstk : stk = As.reverse ++ .ref kk :: rest) (hla : As.length = na) (hlen : (lg_sl (.ref kk :: As)).length ≤ N.2.2.1) (he : xm_en N.2.2.1 (.ref kk :: As) = lv0) (hrest : (rest.map fun v => v.category).sum ≤ 8) (hN : xs_ (fun x : Int32 => some (.int x)) sg_0 N 0 lv0 [] μ 0 0 oN) (hk : xsh_ kk ci nn) (hc13 : ci < 13) (hcl : vwCl[ci]? = some (N.1.cls, T, NF)) (k : ∀ q : Int32 × xm_Y, xq_ L xs em sg_0 M n lv (.int q.1 :: rest) q.2 bc bs ((F q).bind f)) : xq_ L xs em sg_0 M pc lv stk μ bc bs ((oN.bind F).bind f) := xq_callv (mc := 0) (ms := 0) (bc' := bc) (bs' := bs) hd hn hok hw hin hse hR As rest hstk hla hlen he hrest ⟨Nat.le_refl _, Nat.le_refl _⟩ (fun _ _ => rfl) hN (hk.is μ) hc13 hcl (fun v σ1 => k (v, σ1))
theorem yq_callvl {N : xm_M} {na idx : Nat} {oN : Option (Int64 × xm_Y)} {F : Int64 × xm_Y → Option β} {stk : List Value} {lv0 : List (Option Value)} {kk ci nn : Nat} {T : u_T} {NF : Nat} (hd : decode M.2.1 pc = .ok (.invokevirtual idx, 3)) (hn : pc + 3 = n) (hok : xm_ok N na) (hw : Cond.methodLink M.1.cls idx N.1 ∈ xm_tb) (hin : Cond.instanceMethod N.1 ∈ xm_tb) (hse : Cond.selects N.1.cls N.1 N.1 ∈ xm_tb) (hR : N.2.2.2.2.1 + 1 ≤ M.2.2.2.2.1 ∧ 8 + (N.2.2.1 + 11) + N.2.2.2.2.2 ≤ M.2.2.2.2.2) (As : List Value) (rest : List Value) (hstk : stk = As.reverse ++ .ref kk :: rest) (hla : As.length = na) (hlen : (lg_sl (.ref kk :: As)).length ≤ N.2.2.1) (he : xm_en N.2.2.1 (.ref kk :: As) = lv0) (hrest : (rest.map fun v => v.category).sum ≤ 8) (hN : xs_ (fun x : Int64 => some (.long x)) sg_0 N 0 lv0 [] μ 0 0 oN) (hk : xsh_ kk ci nn) (hc13 : ci < 13) (hcl : vwCl[ci]? = some (N.1.cls, T, NF)) (k : ∀ q : Int64 × xm_Y, xq_ L xs em sg_0 M n lv (.long q.1 :: rest) q.2 bc bs ((F q).bind f)) : xq_ L xs em sg_0 M pc lv stk μ bc bs ((oN.bind F).bind f) := xq_callv (mc := 0) (ms := 0) (bc' := bc) (bs' := bs) hd hn hok hw hin hse hR As rest hstk hla hlen he hrest ⟨Nat.le_refl _, Nat.le_refl _⟩ (fun _ _ => rfl) hN (hk.is μ) hc13 hcl (fun v σ1 => k (v, σ1))
end XR_
