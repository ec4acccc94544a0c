theorem tb_nat : Cond.native arraycopyName ∈ xm_tb := by decide +kernel
theorem tb_sta : Cond.static arraycopyName ∈ xm_tb := by decide +kernel
theorem tb_sys : Cond.initialized "java/lang/System" ∈ xm_tb := by decide +kernel
/-! arrays -/
section XR_
variable {α S β : Type} {em : α → Option Value} {sg : S → xm_S} {M : xm_M} {pc n : Nat} {lv : List (Option Value)} {st : List Value} {σ : S} {bc bs : Nat} {a : Option β} {f : β → Option (α × S)}
theorem xs_iaload {kk nn : Nat} {i : Int32} (hd : decode M.2.1 pc = .ok (.iaload, 1)) (hn : pc + 1 = n) (hk : xm_is (sg σ) kk 13 nn) (k : xs_ em sg M n lv (.int ((sg σ).2.2.2.1 kk i.toNatClampNeg) :: st) σ bc bs (a.bind f)) : xs_ em sg M pc lv (.int i :: .ref kk :: st) σ bc bs ((xm_chk (xm_in i nn) a).bind f) := by
  subst hn
  intro r σ' ho G base b L xs l p e R s m args below meth c H locs cells slots ls Q hC hf hlo hc hs hL hW hz hS kret
  by_cases hch : xm_in i nn
  · rw [xm_chk, if_pos hch] at ho
    exact va_iald hC.1 hC.2.1 hC.2.2.2.2.2.2.2.2.1 hW kk 0 (xm_at13 hk) rfl (xm_in_vp hch) hd (k r σ' ho G base b L xs l p e R s m args below meth c H locs cells slots ls Q hC hf hlo hc hs hL hW hz hS kret)
  · rw [xm_chk, if_neg hch] at ho
    cases ho
theorem xs_baload {kk nn : Nat} {i : Int32} (hd : decode M.2.1 pc = .ok (.baload, 1)) (hn : pc + 1 = n) (hk : xm_is (sg σ) kk 15 nn) (k : xs_ em sg M n lv (.int ((sg σ).2.2.2.1 kk i.toNatClampNeg) :: st) σ bc bs (a.bind f)) : xs_ em sg M pc lv (.int i :: .ref kk :: st) σ bc bs ((xm_chk (xm_in i nn) a).bind f) := by
  subst hn
  intro r σ' ho G base b L xs l p e R s m args below meth c H locs cells slots ls Q hC hf hlo hc hs hL hW hz hS kret
  by_cases hch : xm_in i nn
  · rw [xm_chk, if_pos hch] at ho
    exact va_zald hC.1 hC.2.1 hC.2.2.2.2.2.2.2.2.1 hW kk 2 (xm_at15 hk) rfl (xm_in_vp hch) hd (k r σ' ho G base b L xs l p e R s m args below meth c H locs cells slots ls Q hC hf hlo hc hs hL hW hz hS kret)
  · rw [xm_chk, if_neg hch] at ho
    cases ho
theorem xs_laload {kk nn : Nat} {i : Int32} (hd : decode M.2.1 pc = .ok (.laload, 1)) (hn : pc + 1 = n) (hk : xm_is (sg σ) kk 14 nn) (k : xs_ em sg M n lv (.long ((sg σ).2.2.2.2 kk i.toNatClampNeg) :: st) σ bc bs (a.bind f)) : xs_ em sg M pc lv (.int i :: .ref kk :: st) σ bc bs ((xm_chk (xm_in i nn) a).bind f) := by
  subst hn
  intro r σ' ho G base b L xs l p e R s m args below meth c H locs cells slots ls Q hC hf hlo hc hs hL hW hz hS kret
  by_cases hch : xm_in i nn
  · rw [xm_chk, if_pos hch] at ho
    exact va_lald hC.1 hC.2.1 hC.2.2.2.2.2.2.2.2.1 hW kk 1 (xm_at14 hk) rfl (xm_in_vp hch) hd (k r σ' ho G base b L xs l p e R s m args below meth c H locs cells slots ls Q hC hf hlo hc hs hL hW hz hS kret)
  · rw [xm_chk, if_neg hch] at ho
    cases ho
theorem xs_aaload16 {kk nn aa : Nat} {i : Int32} (hd : decode M.2.1 pc = .ok (.aaload, 1)) (hn : pc + 1 = n) (hk : xm_is (sg σ) kk 16 nn) (hr : xm_in i nn → (sg σ).2.2.1 kk i.toNatClampNeg = some aa) (k : xm_in i nn → xs_ em sg M n lv (.ref aa :: st) σ bc bs (a.bind f)) : xs_ em sg M pc lv (.int i :: .ref kk :: st) σ bc bs ((xm_chk (xm_in i nn) a).bind f) := by
  subst hn
  intro r σ' ho G base b L xs l p e R s m args below meth c H locs cells slots ls Q hC hf hlo hc hs hL hW hz hS kret
  by_cases hch : xm_in i nn
  · rw [xm_chk, if_pos hch] at ho
    refine va_aldq hC.1 hC.2.1 hC.2.2.2.2.2.2.2.2.1 hW kk 3 (xm_at16 hk) rfl (xm_in_vp hch) hd ?_
    have hq := k hch r σ' ho G base b L xs l p e R s m args below meth c H locs cells slots ls Q hC hf hlo hc hs hL hW hz hS kret
    rw [hr hch]
    exact hq
  · rw [xm_chk, if_neg hch] at ho
    cases ho
theorem xs_aaload17 {kk nn aa : Nat} {i : Int32} (hd : decode M.2.1 pc = .ok (.aaload, 1)) (hn : pc + 1 = n) (hk : xm_is (sg σ) kk 17 nn) (hr : xm_in i nn → (sg σ).2.2.1 kk i.toNatClampNeg = some aa) (k : xm_in i nn → xs_ em sg M n lv (.ref aa :: st) σ bc bs (a.bind f)) : xs_ em sg M pc lv (.int i :: .ref kk :: st) σ bc bs ((xm_chk (xm_in i nn) a).bind f) := by
  subst hn
  intro r σ' ho G base b L xs l p e R s m args below meth c H locs cells slots ls Q hC hf hlo hc hs hL hW hz hS kret
  by_cases hch : xm_in i nn
  · rw [xm_chk, if_pos hch] at ho
    refine va_aldq hC.1 hC.2.1 hC.2.2.2.2.2.2.2.2.1 hW kk 4 (xm_at17 hk) rfl (xm_in_vp hch) hd ?_
    have hq := k hch r σ' ho G base b L xs l p e R s m args below meth c H locs cells slots ls Q hC hf hlo hc hs hL hW hz hS kret
    rw [hr hch]
    exact hq
  · rw [xm_chk, if_neg hch] at ho
    cases ho
theorem xs_iastore {kk nn : Nat} {i : Int32} {v : Int32} {σ1 : S} (hd : decode M.2.1 pc = .ok (.iastore, 1)) (hn : pc + 1 = n) (hk : xm_is (sg σ) kk 13 nn) (h1 : sg σ1 = ((sg σ).1, (sg σ).2.1, (sg σ).2.2.1, xm_u2 (sg σ).2.2.2.1 kk i.toNatClampNeg (v), (sg σ).2.2.2.2)) (k : xs_ em sg M n lv st σ1 bc bs (a.bind f)) : xs_ em sg M pc lv (.int v :: .int i :: .ref kk :: st) σ bc bs ((xm_chk (xm_in i nn) a).bind f) := by
  subst hn
  intro r σ' ho G base b L xs l p e R s m args below meth c H locs cells slots ls Q hC hf hlo hc hs hL hW hz hS kret
  by_cases hch : xm_in i nn
  · rw [xm_chk, if_pos hch] at ho
    have hset : (xm_ws G base (sg σ)).set kk (base + kk, .inl (G.2.1, nn, .inl (upd ((sg σ).2.2.2.1 kk) i.toNatClampNeg (v)))) = xm_ws G base (sg σ1) := by
      refine xm_set (by rw [h1]) hk.1 ?_ (fun k' hk' => ?_)
      · rw [h1]
        unfold xm_ent
        dsimp only
        rw [hk.2, xm_u2_i]
        rfl
      · have hq : (sg σ1).2.2.1 k' = (sg σ).2.2.1 k' ∧ (sg σ1).2.2.2.1 k' = (sg σ).2.2.2.1 k' ∧ (sg σ1).2.2.2.2 k' = (sg σ).2.2.2.2 k' := by
          rw [h1]; exact ⟨rfl, xm_u2_ne hk', rfl⟩
        exact xm_ent_congr (by rw [h1]) hq.1 hq.2.1 hq.2.2
    refine va_iast hC.1 hC.2.1 hC.2.2.2.2.2.2.2.2.1 hW xm_D hS kk 0 (xm_at13 hk) rfl (xm_in_vp hch) hd (fun H1 locs1 hP1 _ hS1 => ?_)
    rw [hset] at hP1
    exact k r σ' ho G base b L xs l p e R s m args below meth c H1 locs1 cells slots ls Q hC hf hlo hc hs hL hP1 (by rw [hz, h1]) hS1 kret
  · rw [xm_chk, if_neg hch] at ho
    cases ho
theorem xs_bastore {kk nn : Nat} {i : Int32} {v : Int32} {σ1 : S} (hd : decode M.2.1 pc = .ok (.bastore, 1)) (hn : pc + 1 = n) (hk : xm_is (sg σ) kk 15 nn) (h1 : sg σ1 = ((sg σ).1, (sg σ).2.1, (sg σ).2.2.1, xm_u2 (sg σ).2.2.2.1 kk i.toNatClampNeg (vp_nar .boolean v), (sg σ).2.2.2.2)) (k : xs_ em sg M n lv st σ1 bc bs (a.bind f)) : xs_ em sg M pc lv (.int v :: .int i :: .ref kk :: st) σ bc bs ((xm_chk (xm_in i nn) a).bind f) := by
  subst hn
  intro r σ' ho G base b L xs l p e R s m args below meth c H locs cells slots ls Q hC hf hlo hc hs hL hW hz hS kret
  by_cases hch : xm_in i nn
  · rw [xm_chk, if_pos hch] at ho
    have hset : (xm_ws G base (sg σ)).set kk (base + kk, .inl (G.2.2.2.1, nn, .inl (upd ((sg σ).2.2.2.1 kk) i.toNatClampNeg (vp_nar .boolean v)))) = xm_ws G base (sg σ1) := by
      refine xm_set (by rw [h1]) hk.1 ?_ (fun k' hk' => ?_)
      · rw [h1]
        unfold xm_ent
        dsimp only
        rw [hk.2, xm_u2_i]
        rfl
      · have hq : (sg σ1).2.2.1 k' = (sg σ).2.2.1 k' ∧ (sg σ1).2.2.2.1 k' = (sg σ).2.2.2.1 k' ∧ (sg σ1).2.2.2.2 k' = (sg σ).2.2.2.2 k' := by
          rw [h1]; exact ⟨rfl, xm_u2_ne hk', rfl⟩
        exact xm_ent_congr (by rw [h1]) hq.1 hq.2.1 hq.2.2
    refine va_zast hC.1 hC.2.1 hC.2.2.2.2.2.2.2.2.1 hW xm_D hS kk 2 (xm_at15 hk) rfl (xm_in_vp hch) hd (fun H1 locs1 hP1 _ hS1 => ?_)
    rw [hset] at hP1
    exact k r σ' ho G base b L xs l p e R s m args below meth c H1 locs1 cells slots ls Q hC hf hlo hc hs hL hP1 (by rw [hz, h1]) hS1 kret
  · rw [xm_chk, if_neg hch] at ho
    cases ho
theorem xs_lastore {kk nn : Nat} {i : Int32} {v : Int64} {σ1 : S} (hd : decode M.2.1 pc = .ok (.lastore, 1)) (hn : pc + 1 = n) (hk : xm_is (sg σ) kk 14 nn) (h1 : sg σ1 = ((sg σ).1, (sg σ).2.1, (sg σ).2.2.1, (sg σ).2.2.2.1, xm_u2 (sg σ).2.2.2.2 kk i.toNatClampNeg v)) (k : xs_ em sg M n lv st σ1 bc bs (a.bind f)) : xs_ em sg M pc lv (.long v :: .int i :: .ref kk :: st) σ bc bs ((xm_chk (xm_in i nn) a).bind f) := by
  subst hn
  intro r σ' ho G base b L xs l p e R s m args below meth c H locs cells slots ls Q hC hf hlo hc hs hL hW hz hS kret
  by_cases hch : xm_in i nn
  · rw [xm_chk, if_pos hch] at ho
    have hset : (xm_ws G base (sg σ)).set kk (base + kk, .inl (G.2.2.1, nn, .inr (.inl (vp_updL ((sg σ).2.2.2.2 kk) i.toNatClampNeg v)))) = xm_ws G base (sg σ1) := by
      refine xm_set (by rw [h1]) hk.1 ?_ (fun k' hk' => ?_)
      · rw [h1]
        unfold xm_ent
        dsimp only
        rw [hk.2, xm_u2_l]
        rfl
      · have hq : (sg σ1).2.2.1 k' = (sg σ).2.2.1 k' ∧ (sg σ1).2.2.2.1 k' = (sg σ).2.2.2.1 k' ∧ (sg σ1).2.2.2.2 k' = (sg σ).2.2.2.2 k' := by
          rw [h1]; exact ⟨rfl, rfl, xm_u2_ne hk'⟩
        exact xm_ent_congr (by rw [h1]) hq.1 hq.2.1 hq.2.2
    refine va_last hC.1 hC.2.1 hC.2.2.2.2.2.2.2.2.1 hW xm_D hS kk 1 (xm_at14 hk) rfl (xm_in_vp hch) hd (fun H1 locs1 hP1 _ hS1 => ?_)
    rw [hset] at hP1
    exact k r σ' ho G base b L xs l p e R s m args below meth c H1 locs1 cells slots ls Q hC hf hlo hc hs hL hP1 (by rw [hz, h1]) hS1 kret
  · rw [xm_chk, if_neg hch] at ho
    cases ho
theorem xs_aastore16 {kk nn v n2 : Nat} {i : Int32} {σ1 : S} (hd : decode M.2.1 pc = .ok (.aastore, 1)) (hn : pc + 1 = n) (hk : xm_is (sg σ) kk 16 nn) (hv : xm_is (sg σ) v 0 n2) (h1 : sg σ1 = ((sg σ).1, (sg σ).2.1, xm_u2 (sg σ).2.2.1 kk i.toNatClampNeg (some v), (sg σ).2.2.2.1, (sg σ).2.2.2.2)) (k : xs_ em sg M n lv st σ1 bc bs (a.bind f)) : xs_ em sg M pc lv (.ref v :: .int i :: .ref kk :: st) σ bc bs ((xm_chk (xm_in i nn) a).bind f) := by
  subst hn
  intro r σ' ho G base b L xs l p e R s m args below meth c H locs cells slots ls Q hC hf hlo hc hs hL hW hz hS kret
  by_cases hch : xm_in i nn
  · rw [xm_chk, if_pos hch] at ho
    have hset : (xm_ws G base (sg σ)).set kk (base + kk, .inl (G.2.2.2.2.1, nn, .inr (.inr (.inr (.inr (va_up (fun j => ((sg σ).2.2.1 kk j).map (fun a => base + a)) i.toNatClampNeg (some (base + v)))))))) = xm_ws G base (sg σ1) := by
      refine xm_set (by rw [h1]) hk.1 ?_ (fun k' hk' => ?_)
      · rw [h1]
        unfold xm_ent
        dsimp only
        rw [hk.2]
        have e1 : (fun j => (xm_u2 (sg σ).2.2.1 kk i.toNatClampNeg (some v) kk j).map (fun a => base + a)) = va_up (fun j => ((sg σ).2.2.1 kk j).map (fun a => base + a)) i.toNatClampNeg (some (base + v)) := by
          funext j
          by_cases hj : j = i.toNatClampNeg <;> simp [xm_u2, va_up, hj]
        rw [e1]
        rfl
      · have hq : (sg σ1).2.2.1 k' = (sg σ).2.2.1 k' ∧ (sg σ1).2.2.2.1 k' = (sg σ).2.2.2.1 k' ∧ (sg σ1).2.2.2.2 k' = (sg σ).2.2.2.2 k' := by
          rw [h1]; exact ⟨xm_u2_ne hk', rfl, rfl⟩
        exact xm_ent_congr (by rw [h1]) hq.1 hq.2.1 hq.2.2
    refine va_astq hC.1 hC.2.1 hC.2.2.2.2.2.2.2.2.1 hW xm_D hS kk 3 v 0 (xm_at16 hk) rfl (xm_atob (by decide) hv) rfl (xm_in_vp hch) hd (fun H1 locs1 hP1 _ hS1 => ?_)
    rw [hset] at hP1
    exact k r σ' ho G base b L xs l p e R s m args below meth c H1 locs1 cells slots ls Q hC hf hlo hc hs hL hP1 (by rw [hz, h1]) hS1 kret
  · rw [xm_chk, if_neg hch] at ho
    cases ho
theorem xs_aastore17 {kk nn v n2 : Nat} {i : Int32} {σ1 : S} (hd : decode M.2.1 pc = .ok (.aastore, 1)) (hn : pc + 1 = n) (hk : xm_is (sg σ) kk 17 nn) (hv : xm_is (sg σ) v 1 n2) (h1 : sg σ1 = ((sg σ).1, (sg σ).2.1, xm_u2 (sg σ).2.2.1 kk i.toNatClampNeg (some v), (sg σ).2.2.2.1, (sg σ).2.2.2.2)) (k : xs_ em sg M n lv st σ1 bc bs (a.bind f)) : xs_ em sg M pc lv (.ref v :: .int i :: .ref kk :: st) σ bc bs ((xm_chk (xm_in i nn) a).bind f) := by
  subst hn
  intro r σ' ho G base b L xs l p e R s m args below meth c H locs cells slots ls Q hC hf hlo hc hs hL hW hz hS kret
  by_cases hch : xm_in i nn
  · rw [xm_chk, if_pos hch] at ho
    have hset : (xm_ws G base (sg σ)).set kk (base + kk, .inl (G.2.2.2.2.2, nn, .inr (.inr (.inr (.inr (va_up (fun j => ((sg σ).2.2.1 kk j).map (fun a => base + a)) i.toNatClampNeg (some (base + v)))))))) = xm_ws G base (sg σ1) := by
      refine xm_set (by rw [h1]) hk.1 ?_ (fun k' hk' => ?_)
      · rw [h1]
        unfold xm_ent
        dsimp only
        rw [hk.2]
        have e1 : (fun j => (xm_u2 (sg σ).2.2.1 kk i.toNatClampNeg (some v) kk j).map (fun a => base + a)) = va_up (fun j => ((sg σ).2.2.1 kk j).map (fun a => base + a)) i.toNatClampNeg (some (base + v)) := by
          funext j
          by_cases hj : j = i.toNatClampNeg <;> simp [xm_u2, va_up, hj]
        rw [e1]
        rfl
      · have hq : (sg σ1).2.2.1 k' = (sg σ).2.2.1 k' ∧ (sg σ1).2.2.2.1 k' = (sg σ).2.2.2.1 k' ∧ (sg σ1).2.2.2.2 k' = (sg σ).2.2.2.2 k' := by
          rw [h1]; exact ⟨xm_u2_ne hk', rfl, rfl⟩
        exact xm_ent_congr (by rw [h1]) hq.1 hq.2.1 hq.2.2
    refine va_astq hC.1 hC.2.1 hC.2.2.2.2.2.2.2.2.1 hW xm_D hS kk 4 v 1 (xm_at17 hk) rfl (xm_atob (by decide) hv) rfl (xm_in_vp hch) hd (fun H1 locs1 hP1 _ hS1 => ?_)
    rw [hset] at hP1
    exact k r σ' ho G base b L xs l p e R s m args below meth c H1 locs1 cells slots ls Q hC hf hlo hc hs hL hP1 (by rw [hz, h1]) hS1 kret
  · rw [xm_chk, if_neg hch] at ho
    cases ho
theorem xs_alen13 {kk nn : Nat} {v : Int32} {o : Option (α × S)} (hd : decode M.2.1 pc = .ok (.arraylength, 1)) (hn : pc + 1 = n) (hk : xm_is (sg σ) kk 13 nn) (hv : Int32.ofNat nn = v) (k : xs_ em sg M n lv (.int v :: st) σ bc bs o) : xs_ em sg M pc lv (.ref kk :: st) σ bc bs o := by
  subst hn
  intro r σ' ho G base b L xs l p e R s m args below meth c H locs cells slots ls Q hC hf hlo hc hs hL hW hz hS kret
  exact va_alen hC.1 hC.2.1 hC.2.2.2.2.2.2.2.2.1 hW kk 0 (xm_at13 hk) rfl hv hd (k r σ' ho G base b L xs l p e R s m args below meth c H locs cells slots ls Q hC hf hlo hc hs hL hW hz hS kret)
theorem xs_alen14 {kk nn : Nat} {v : Int32} {o : Option (α × S)} (hd : decode M.2.1 pc = .ok (.arraylength, 1)) (hn : pc + 1 = n) (hk : xm_is (sg σ) kk 14 nn) (hv : Int32.ofNat nn = v) (k : xs_ em sg M n lv (.int v :: st) σ bc bs o) : xs_ em sg M pc lv (.ref kk :: st) σ bc bs o := by
  subst hn
  intro r σ' ho G base b L xs l p e R s m args below meth c H locs cells slots ls Q hC hf hlo hc hs hL hW hz hS kret
  exact va_alen hC.1 hC.2.1 hC.2.2.2.2.2.2.2.2.1 hW kk 1 (xm_at14 hk) rfl hv hd (k r σ' ho G base b L xs l p e R s m args below meth c H locs cells slots ls Q hC hf hlo hc hs hL hW hz hS kret)
theorem xs_copyl {k0 k1 n0 n1 idx : Nat} {sp dp nn : Int32} {σ1 : S} (hd : decode M.2.1 pc = .ok (.invokestatic idx, 3)) (hn : pc + 3 = n) (hw : Cond.methodLink M.1.cls idx arraycopyName ∈ xm_tb) (h0 : xm_is (sg σ) k0 14 n0) (hk1 : xm_is (sg σ) k1 14 n1) (hfr : 1 ≤ M.2.2.2.2.1) (hlc : (st.map fun v => v.category).sum + 18 ≤ M.2.2.2.2.2) (h1 : sg σ1 = ((sg σ).1, (sg σ).2.1, (sg σ).2.2.1, (sg σ).2.2.2.1, xm_u1 (sg σ).2.2.2.2 k1 (va_cpy ((sg σ).2.2.2.2 k0) ((sg σ).2.2.2.2 k1) sp.toNatClampNeg dp.toNatClampNeg nn.toNatClampNeg)))
    (k : xs_ em sg M n lv st σ1 bc bs (a.bind f)) : xs_ em sg M pc lv (.int nn :: .int dp :: .ref k1 :: .int sp :: .ref k0 :: st) σ bc bs ((xm_chk (0 ≤ sp ∧ 0 ≤ dp ∧ 0 ≤ nn ∧ sp.toNatClampNeg + nn.toNatClampNeg ≤ n0 ∧ dp.toNatClampNeg + nn.toNatClampNeg ≤ n1) a).bind f) := by
  subst hn
  intro r σ' ho G base b L xs l p e R s m args below meth c H locs cells slots ls Q hC hf hlo hc hs hL hW hz hS kret
  by_cases hch : 0 ≤ sp ∧ 0 ≤ dp ∧ 0 ≤ nn ∧ sp.toNatClampNeg + nn.toNatClampNeg ≤ n0 ∧ dp.toNatClampNeg + nn.toNatClampNeg ≤ n1
  · rw [xm_chk, if_pos hch] at ho
    have hset : (xm_ws G base (sg σ)).set k1 (base + k1, .inl (G.2.2.1, n1, .inr (.inl (va_cpy ((sg σ).2.2.2.2 k0) ((sg σ).2.2.2.2 k1) sp.toNatClampNeg dp.toNatClampNeg nn.toNatClampNeg)))) = xm_ws G base (sg σ1) := by
      refine xm_set (by rw [h1]) hk1.1 ?_ (fun k' hk' => ?_)
      · rw [h1]
        unfold xm_ent
        dsimp only
        rw [hk1.2, xm_u1_eq]
        rfl
      · have hq : (sg σ1).2.2.1 k' = (sg σ).2.2.1 k' ∧ (sg σ1).2.2.2.1 k' = (sg σ).2.2.2.1 k' ∧ (sg σ1).2.2.2.2 k' = (sg σ).2.2.2.2 k' := by
          rw [h1]; exact ⟨rfl, rfl, xm_u1_ne hk'⟩
        exact xm_ent_congr (by rw [h1]) hq.1 hq.2.1 hq.2.2
    have hcat : ((st.map (xm_r base b)).map fun v => v.category).sum = (st.map fun v => v.category).sum := by
      rw [List.map_map]
      congr 1
      exact List.map_congr_left (fun v _ => xm_r_cat base b v)
    refine va_copyl hC.1 hC.2.1 (by rw [hL.size]; exact hC.2.2.2.1) hC.2.2.2.2.1 (hC.2.2.2.2.2.1 _ hw) (hC.2.2.2.2.2.1 _ tb_nat) (hC.2.2.2.2.2.1 _ tb_sta) (hC.2.2.2.2.2.1 _ tb_sys) hC.2.2.2.2.2.2.2.2.1 hW xm_D hS k0 k1 1 1 (xm_at14 h0) (xm_at14 hk1) rfl rfl rfl (Int32.not_lt.mpr hch.1) (Int32.not_lt.mpr hch.2.1) (Int32.not_lt.mpr hch.2.2.1) hch.2.2.2.1 hch.2.2.2.2 (fun _ _ => rfl) (Nat.le_trans hfr hf) (by rw [hcat]; exact Nat.le_trans hlc hlo) hd (fun H1 locs1 hP1 _ hS1 => ?_)
    rw [hset] at hP1
    exact k r σ' ho G base b L xs l p e R s m args below meth c H1 locs1 cells slots ls Q hC hf hlo hc hs hL hP1 (by rw [hz, h1]) hS1 kret
  · rw [xm_chk, if_neg hch] at ho
    cases ho
theorem xs_copyi {k0 k1 n0 n1 idx : Nat} {sp dp nn : Int32} {σ1 : S} (hd : decode M.2.1 pc = .ok (.invokestatic idx, 3)) (hn : pc + 3 = n) (hw : Cond.methodLink M.1.cls idx arraycopyName ∈ xm_tb) (h0 : xm_is (sg σ) k0 13 n0) (hk1 : xm_is (sg σ) k1 13 n1) (hfr : 1 ≤ M.2.2.2.2.1) (hlc : (st.map fun v => v.category).sum + 18 ≤ M.2.2.2.2.2) (h1 : sg σ1 = ((sg σ).1, (sg σ).2.1, (sg σ).2.2.1, xm_u1 (sg σ).2.2.2.1 k1 (va_cpy ((sg σ).2.2.2.1 k0) ((sg σ).2.2.2.1 k1) sp.toNatClampNeg dp.toNatClampNeg nn.toNatClampNeg), (sg σ).2.2.2.2))
    (k : xs_ em sg M n lv st σ1 bc bs (a.bind f)) : xs_ em sg M pc lv (.int nn :: .int dp :: .ref k1 :: .int sp :: .ref k0 :: st) σ bc bs ((xm_chk (0 ≤ sp ∧ 0 ≤ dp ∧ 0 ≤ nn ∧ sp.toNatClampNeg + nn.toNatClampNeg ≤ n0 ∧ dp.toNatClampNeg + nn.toNatClampNeg ≤ n1) a).bind f) := by
  subst hn
  intro r σ' ho G base b L xs l p e R s m args below meth c H locs cells slots ls Q hC hf hlo hc hs hL hW hz hS kret
  by_cases hch : 0 ≤ sp ∧ 0 ≤ dp ∧ 0 ≤ nn ∧ sp.toNatClampNeg + nn.toNatClampNeg ≤ n0 ∧ dp.toNatClampNeg + nn.toNatClampNeg ≤ n1
  · rw [xm_chk, if_pos hch] at ho
    have hset : (xm_ws G base (sg σ)).set k1 (base + k1, .inl (G.2.1, n1, .inl (va_cpy ((sg σ).2.2.2.1 k0) ((sg σ).2.2.2.1 k1) sp.toNatClampNeg dp.toNatClampNeg nn.toNatClampNeg))) = xm_ws G base (sg σ1) := by
      refine xm_set (by rw [h1]) hk1.1 ?_ (fun k' hk' => ?_)
      · rw [h1]
        unfold xm_ent
        dsimp only
        rw [hk1.2, xm_u1_eq]
        rfl
      · have hq : (sg σ1).2.2.1 k' = (sg σ).2.2.1 k' ∧ (sg σ1).2.2.2.1 k' = (sg σ).2.2.2.1 k' ∧ (sg σ1).2.2.2.2 k' = (sg σ).2.2.2.2 k' := by
          rw [h1]; exact ⟨rfl, xm_u1_ne hk', rfl⟩
        exact xm_ent_congr (by rw [h1]) hq.1 hq.2.1 hq.2.2
    have hcat : ((st.map (xm_r base b)).map fun v => v.category).sum = (st.map fun v => v.category).sum := by
      rw [List.map_map]
      congr 1
      exact List.map_congr_left (fun v _ => xm_r_cat base b v)
    refine va_copyi hC.1 hC.2.1 (by rw [hL.size]; exact hC.2.2.2.1) hC.2.2.2.2.1 (hC.2.2.2.2.2.1 _ hw) (hC.2.2.2.2.2.1 _ tb_nat) (hC.2.2.2.2.2.1 _ tb_sta) (hC.2.2.2.2.2.1 _ tb_sys) hC.2.2.2.2.2.2.2.2.1 hW xm_D hS k0 k1 0 0 (xm_at13 h0) (xm_at13 hk1) rfl rfl rfl (Int32.not_lt.mpr hch.1) (Int32.not_lt.mpr hch.2.1) (Int32.not_lt.mpr hch.2.2.1) hch.2.2.2.1 hch.2.2.2.2 (fun _ _ => rfl) (Nat.le_trans hfr hf) (by rw [hcat]; exact Nat.le_trans hlc hlo) hd (fun H1 locs1 hP1 _ hS1 => ?_)
    rw [hset] at hP1
    exact k r σ' ho G base b L xs l p e R s m args below meth c H1 locs1 cells slots ls Q hC hf hlo hc hs hL hP1 (by rw [hz, h1]) hS1 kret
  · rw [xm_chk, if_neg hch] at ho
    cases ho
end XR_
