section CALLS
variable {σ : Scr} {α β : Type} {cc cc' : ByteArray} {nL nL' : Nat} {own : String} {d d' : Nat} {rt rt' : Option FieldType} {w : α → Option mV × Mem} {w' : β → Option mV × Mem} {pc : Nat} {lv : List (Nat × mV)} {st stk vs : List mV} {μ : Mem} {o : Option β} {F : β → Option α} {y : MethodName} {idx : Nat}
theorem S_call0 (hc : Con σ y cc' nL' rt' d' vs μ o w') (hvs : okS stk → okS vs ∧ okS st)
    (hrun : ∀ {kc nc : Nat} {Qe : State → Prop} {oe : Option mV × Mem} (p : Program) (l : Launch) (e : Env) (R : Room) (s : State) (m : MethodId) (args : Array Value) (below : List Frame) (meth : Method) (c : Code) (G : wC) (A : Nat → Prop) (H : Heap) (locs : List Loc) (ls : Array Slot) (Qc : Array Value → State → Outcome → State → Prop),
      Fx σ cc nL own d rt oe G A kc nc Qe p l e R s m args below meth c → lv_has ls nL (cvL G lv) → Wd G μ A s.heap H locs → Met l y (Cond.code y cc' nL' rt' :: gd_tbl) (rmD d') (PreC σ G vs μ H.size) Qc 0 0 (va_A (ws G μ) H.size) →
      (∀ U : State, U.heap = H → s.WarmedH U.vm → PreC σ G vs μ H.size (vs.map (cv G)).toArray U) →
      va_Run p l e R s m args below meth c H locs kc nc 0 0 (F0 m pc ls (stk.map (cv G))) (st.map (cv G)) (Qc (vs.map (cv G)).toArray) (va_A (ws G μ) H.size))
    (kk : ∀ b : β, Sim σ cc nL own d rt w (pc + 3) lv ((w' b).1.toList ++ st) (w' b).2 (F b)) : Sim σ cc nL own d rt w pc lv stk μ (o.bind F) := by
  intro a ha hE hS hM kc nc Qe p l e R s m args below meth c G A H locs ls hF hL hW
  obtain ⟨b, hb1, hb2⟩ := Option.bind_eq_some_iff.mp ha
  obtain ⟨hv1, hv2⟩ := hvs hS
  obtain ⟨hP, hD, hS9⟩ := hW
  have hA := hF.2.2.2.2.2.2.2.2.2.1
  have hK := hF.2.2.2.2.2.2.2.2.1
  have hNs := hF.2.2.2.2.2.1
  have hsc := hF.2.2.2.2.2.2.2.2.2.2.2.2.1
  have hf : ∀ q : Nat, va_A (ws G μ) H.size q → A q := by
    intro q hq
    rcases hq with ⟨k, e9, h⟩ | h
    · exact hD.2 k _ h
    · exact hA q (Nat.le_trans hS9.1 h)
  have hr := hrun p l e R s m args below meth c G A H locs ls _ hF hL ⟨hP, hD, hS9⟩ (hc b hb1 hv1 hM l G H.size) (fun U hU hWm => ⟨rfl, by rw [hU], by rw [hU]; exact hP, va_K.moved hWm.alike hK, hD.weaken (fun _ _ _ _ => trivial), fun u hu => ns_warm hu hWm (hNs u hu), va_X.moved hWm.alike (va_X.kept hsc.1 (by rw [hU]; exact hS9.2.1 _ hsc.2.1 hsc.2.2.1)), by rw [hU]; exact Nat.lt_of_lt_of_le hsc.2.1 hS9.1, fun z => hsc.2.2.1 (hf _ z), hsc.2.2.2⟩)
  intro T hT X
  obtain ⟨v, st₀, t, T', L, h0, X', hLo, e1, e2, ⟨⟨hv, hP1, hK1, hD1, hM1, hR1⟩, hz, hk⟩, stp⟩ := hr T hT X
  cases hv
  rw [h0] at hz hk
  have hok : okS ((w' b).1.toList ++ st) := by
    intro u hu
    rcases List.mem_append.mp hu with h | h
    · cases hwb : (w' b).1 with
      | none => rw [hwb] at h; cases h
      | some x =>
        rw [hwb] at h hR1
        rw [List.mem_singleton.mp h]
        exact hR1
    · exact hv2 u h
  have hst : ((w' b).1.toList ++ st).map (cv G) = ((w' b).1.map (cv G)).toList ++ st.map (cv G) := by
    cases (w' b).1 <;> simp
  have k9 := kk b a hb2 hE hok hM1 p l e R s m args below meth c G A T'.heap (locs ++ L) ls hF hL ⟨by rw [e1]; exact hP1, ws_D hD, ⟨Nat.le_trans hS9.1 (by rw [e1]; exact hz), fun q h1 h2 => by rw [e1, hk q (Nat.lt_of_lt_of_le h1 hS9.1) (fun z => h2 (hf q z))]; exact hS9.2.1 q h1 h2, fun q hq => by
      rcases List.mem_append.mp hq with h | h
      · exact hS9.2.2 q h
      · exact hf _ (hLo q h)⟩⟩
  obtain ⟨t2, a1, b1⟩ := k9 T' rfl X'
  rw [hst] at a1
  exact ⟨t2, stp t2 a1, b1⟩
theorem ok_split (hst : stk = vs.reverse ++ st) (h : okS stk) : okS vs ∧ okS st := by
  subst hst
  exact ⟨fun u hu => h u (List.mem_append_left _ (List.mem_reverse.mpr hu)), fun u hu => h u (List.mem_append_right _ hu)⟩
theorem cat_le {G : wC} (h : Nat.ble (st.map mcat).sum 8 = true) : ((st.map (cv G)).map fun v => v.category).sum ≤ 8 := by
  rw [List.map_map, show ((fun v : Value => v.category) ∘ cv G) = mcat from funext (mcat_cv G)]
  exact Nat.le_of_ble_eq_true h
theorem stk_map {G : wC} (hst : stk = vs.reverse ++ st) : stk.map (cv G) = (vs.map (cv G)).reverse ++ st.map (cv G) := by
  rw [hst, List.map_append, List.map_reverse]
def dOk (d d' nL' : Nat) : Bool := Nat.ble (d' + 1) d && Nat.ble nL' 20
theorem dOk_ok {d d' nL' : Nat} (h : dOk d d' nL' = true) : d' + 1 ≤ d ∧ nL' ≤ 20 := by
  unfold dOk at h
  rw [Bool.and_eq_true] at h
  exact ⟨Nat.le_of_ble_eq_true h.1, Nat.le_of_ble_eq_true h.2⟩
/-- a static method of the same class -/
def mlS (own : String) (idx : Nat) (y : MethodName) (cc : ByteArray) (nL : Nat) (rt : Option FieldType) : Prop := Cond.methodLink own idx y ∈ gd_tbl ∧ Cond.static y ∈ gd_tbl ∧ Cond.initialized y.cls ∈ gd_tbl ∧ Cond.code y cc nL rt ∈ gd_tbl
def mlN (own : String) (idx : Nat) (y : MethodName) (cc : ByteArray) (nL : Nat) (rt : Option FieldType) (host : String) : Prop := Cond.methodLinkNest own idx y host ∈ ns_tbl ∧ Cond.static y ∈ gd_tbl ∧ Cond.initialized y.cls ∈ gd_tbl ∧ Cond.code y cc nL rt ∈ gd_tbl
def mlV (own : String) (idx : Nat) (y : MethodName) (cc : ByteArray) (nL : Nat) (rt : Option FieldType) : Prop := Cond.methodLink own idx y ∈ gd_tbl ∧ (Cond.instanceMethod y ∈ gd_tbl ∧ Cond.selects y.cls y y ∈ gd_tbl) ∧ Cond.initialized y.cls ∈ gd_tbl ∧ Cond.code y cc nL rt ∈ gd_tbl
def mlW (own : String) (idx : Nat) (y : MethodName) (cc : ByteArray) (nL : Nat) (rt : Option FieldType) (host : String) : Prop := Cond.methodLinkNest own idx y host ∈ ns_tbl ∧ (Cond.instanceMethod y ∈ gd_tbl ∧ Cond.selects y.cls y y ∈ gd_tbl) ∧ Cond.initialized y.cls ∈ gd_tbl ∧ Cond.code y cc nL rt ∈ gd_tbl
def yOk (y : MethodName) (n : Nat) : Prop := y.cls ≠ "java/lang/invoke/MethodHandle" ∧ y.cls ≠ "java/lang/invoke/VarHandle" ∧ (parseMethodDescriptor y.desc).map (fun d => d.parameters.length) = some n
theorem S_callS0 (hd : decode cc pc = .ok (.invokestatic idx, 3)) (hc : Con σ y cc' nL' rt' d' vs μ o w') (hm : mlS own idx y cc' nL' rt') (hy : yOk y vs.length) (hdd : dOk d d' nL' = true) (hst : stk = vs.reverse ++ st) (hcat : Nat.ble (st.map mcat).sum 8 = true)
    (kk : ∀ b : β, Sim σ cc nL own d rt w (pc + 3) lv ((w' b).1.toList ++ st) (w' b).2 (F b)) : Sim σ cc nL own d rt w pc lv stk μ (o.bind F) := by
  refine S_call0 hc (ok_split hst) (fun p l e R s m args below meth c G A H locs ls Qc hF hL hW hMet hPre => ?_) kk
  obtain ⟨hx, hb, hml, ho, hg, hn0, hlk, hrt, hK, hA, hfr, hlo, hsc, hkc, hnc, hend⟩ := hF
  have h1 := dOk_ok hdd
  exact va_runS (As := vs.map (cv G)) (index := idx) (n := vs.length) ⟨hx, hb, hml, ho, hg⟩ hMet ⟨callB_of vs.length hg (gd_cons hm.2.2.2) rfl rfl rfl (hg _ hm.2.2.1) (hg _ hm.1) hy ⟨by show d' + 1 ≤ _; omega, by show 8 + (nL' + 11) + 40 * d' ≤ _; omega⟩, hg _ hm.2.1⟩ ⟨PreC_blind σ G vs μ H.size, hPre⟩ rfl (by simp) hL.1 (stk_map hst) (lv_room (cat_le hcat)) hd ⟨hkc, hnc⟩
theorem S_callN0 {host : String} (hd : decode cc pc = .ok (.invokestatic idx, 3)) (hc : Con σ y cc' nL' rt' d' vs μ o w') (hm : mlN own idx y cc' nL' rt' host) (hy : yOk y vs.length) (hdd : dOk d d' nL' = true) (hst : stk = vs.reverse ++ st) (hcat : Nat.ble (st.map mcat).sum 8 = true)
    (kk : ∀ b : β, Sim σ cc nL own d rt w (pc + 3) lv ((w' b).1.toList ++ st) (w' b).2 (F b)) : Sim σ cc nL own d rt w pc lv stk μ (o.bind F) := by
  refine S_call0 hc (ok_split hst) (fun p l e R s m args below meth c G A H locs ls Qc hF hL hW hMet hPre => ?_) kk
  obtain ⟨hx, hb, hml, ho, hg, hn0, hlk, hrt, hK, hA, hfr, hlo, hsc, hkc, hnc, hend⟩ := hF
  have h1 := dOk_ok hdd
  exact va_runSN (As := vs.map (cv G)) (index := idx) (n := vs.length) (host := host) ⟨hx, hb, hml, ho, hg⟩ hMet ⟨va_cnB vs.length hg (gd_cons hm.2.2.2) rfl rfl rfl (hn0 _ hm.1) (hg _ hm.2.2.1) hy ⟨by show d' + 1 ≤ _; omega, by show 8 + (nL' + 11) + 40 * d' ≤ _; omega⟩, hg _ hm.2.1, trivial⟩ ⟨PreC_blind σ G vs μ H.size, hPre⟩ rfl (by simp) hL.1 (stk_map hst) (lv_room (cat_le hcat)) hd ⟨hkc, hnc⟩
theorem S_callV0 {b0 ci : Nat} {us : List mV} (hd : decode cc pc = .ok (.invokevirtual idx, 3)) (hc : Con σ y cc' nL' rt' d' (.inr (.inr b0) :: us) μ o w') (hm : mlV own idx y cc' nL' rt') (hy : yOk y us.length) (hkd : kd b0 = .inr ci) (hcl : y.cls = clR ci) (hdd : dOk d d' nL' = true) (hst : stk = (.inr (.inr b0) :: us).reverse ++ st) (hcat : Nat.ble (st.map mcat).sum 8 = true)
    (kk : ∀ b : β, Sim σ cc nL own d rt w (pc + 3) lv ((w' b).1.toList ++ st) (w' b).2 (F b)) : Sim σ cc nL own d rt w pc lv stk μ (o.bind F) := by
  refine S_call0 hc (ok_split hst) (fun p l e R s m args below meth c G A H locs ls Qc hF hL hW hMet hPre => ?_) kk
  obtain ⟨hx, hb, hml, ho, hg, hn0, hlk, hrt, hK, hA, hfr, hlo, hsc, hkc, hnc, hend⟩ := hF
  have h1 := dOk_ok hdd
  have hrec := va_recv hK hW.1 (ci_cls (kd_ci hkd)) ((ws_at G μ (kd_lt hkd)).trans (by rw [cE_obj hkd]))
  refine va_runV (C := y.cls) (As := us.map (cv G)) (index := idx) (n := us.length) (b := G.2.2 b0) ⟨hx, hb, hml, ho, hg⟩ hMet ⟨callB_of us.length hg (gd_cons hm.2.2.2) rfl rfl rfl (hg _ hm.2.2.1) (hg _ hm.1) hy ⟨by show d' + 1 ≤ _; omega, by show 8 + (nL' + 11) + 40 * d' ≤ _; omega⟩, hg _ hm.2.1.1, hg _ hm.2.1.2⟩ ⟨PreC_blind σ G _ μ H.size, by rw [hcl]; exact hrec, hPre⟩ rfl (by simp) hL.1 ?_ (lv_room (cat_le hcat)) hd ⟨hkc, hnc⟩
  rw [hst]
  simp [cv]
theorem S_callW0 {host : String} {b0 ci : Nat} {us : List mV} (hd : decode cc pc = .ok (.invokevirtual idx, 3)) (hc : Con σ y cc' nL' rt' d' (.inr (.inr b0) :: us) μ o w') (hm : mlW own idx y cc' nL' rt' host) (hy : yOk y us.length) (hkd : kd b0 = .inr ci) (hcl : y.cls = clR ci) (hdd : dOk d d' nL' = true) (hst : stk = (.inr (.inr b0) :: us).reverse ++ st) (hcat : Nat.ble (st.map mcat).sum 8 = true)
    (kk : ∀ b : β, Sim σ cc nL own d rt w (pc + 3) lv ((w' b).1.toList ++ st) (w' b).2 (F b)) : Sim σ cc nL own d rt w pc lv stk μ (o.bind F) := by
  refine S_call0 hc (ok_split hst) (fun p l e R s m args below meth c G A H locs ls Qc hF hL hW hMet hPre => ?_) kk
  obtain ⟨hx, hb, hml, ho, hg, hn0, hlk, hrt, hK, hA, hfr, hlo, hsc, hkc, hnc, hend⟩ := hF
  have h1 := dOk_ok hdd
  have hrec := va_recv hK hW.1 (ci_cls (kd_ci hkd)) ((ws_at G μ (kd_lt hkd)).trans (by rw [cE_obj hkd]))
  refine va_runVN (C := y.cls) (As := us.map (cv G)) (index := idx) (n := us.length) (b := G.2.2 b0) (host := host) ⟨hx, hb, hml, ho, hg⟩ hMet ⟨va_cnB us.length hg (gd_cons hm.2.2.2) rfl rfl rfl (hn0 _ hm.1) (hg _ hm.2.2.1) hy ⟨by show d' + 1 ≤ _; omega, by show 8 + (nL' + 11) + 40 * d' ≤ _; omega⟩, hg _ hm.2.1.1, hg _ hm.2.1.2⟩ ⟨PreC_blind σ G _ μ H.size, by rw [hcl]; exact hrec, hPre⟩ rfl (by simp) hL.1 ?_ (lv_room (cat_le hcat)) hd ⟨hkc, hnc⟩
  rw [hst]
  simp [cv]
end CALLS
/-! what a method gives, by its kind: a reader's answer; a writer's answer and memory; a memory alone -/
abbrev rI (μ : Mem) (z : Int) : Option mV × Mem := (some (.inl z), μ)
abbrev rL (μ : Mem) (z : Int) : Option mV × Mem := (some (.inr (.inl z)), μ)
abbrev wI (q : Int × Mem) : Option mV × Mem := (some (.inl q.1), q.2)
abbrev wV (q : Mem) : Option mV × Mem := (none, q)
section CALLK
variable {σ : Scr} {α : Type} {cc cc' : ByteArray} {nL nL' : Nat} {own : String} {d d' : Nat} {rt rt' : Option FieldType} {w : α → Option mV × Mem} {pc : Nat} {lv : List (Nat × mV)} {st stk vs : List mV} {μ : Mem} {y : MethodName} {idx : Nat}
theorem S_callS_I {o : Option Int} {F : Int → Option α} (hd : decode cc pc = .ok (.invokestatic idx, 3)) (vs : List mV) (hc : Con σ y cc' nL' rt' d' vs μ o (rI μ)) (hm : mlS own idx y cc' nL' rt') (hy : yOk y vs.length) (hdd : dOk d d' nL' = true) (hst : stk = vs.reverse ++ st) (hcat : Nat.ble (st.map mcat).sum 8 = true) (kk : ∀ r : Int, Sim σ cc nL own d rt w (pc + 3) lv (.inl r :: st) μ (F r)) : Sim σ cc nL own d rt w pc lv stk μ (o.bind F) := S_callS0 hd hc hm hy hdd hst hcat (fun r => kk r)
theorem S_callN_I {host : String} {o : Option Int} {F : Int → Option α} (hd : decode cc pc = .ok (.invokestatic idx, 3)) (vs : List mV) (hc : Con σ y cc' nL' rt' d' vs μ o (rI μ)) (hm : mlN own idx y cc' nL' rt' host) (hy : yOk y vs.length) (hdd : dOk d d' nL' = true) (hst : stk = vs.reverse ++ st) (hcat : Nat.ble (st.map mcat).sum 8 = true) (kk : ∀ r : Int, Sim σ cc nL own d rt w (pc + 3) lv (.inl r :: st) μ (F r)) : Sim σ cc nL own d rt w pc lv stk μ (o.bind F) := S_callN0 hd hc hm hy hdd hst hcat (fun r => kk r)
theorem S_callV_I {b0 ci : Nat} {o : Option Int} {F : Int → Option α} (hd : decode cc pc = .ok (.invokevirtual idx, 3)) (us : List mV) (hc : Con σ y cc' nL' rt' d' (.inr (.inr b0) :: us) μ o (rI μ)) (hm : mlV own idx y cc' nL' rt') (hy : yOk y us.length) (hkd : kd b0 = .inr ci) (hcl : y.cls = clR ci) (hdd : dOk d d' nL' = true) (hst : stk = (.inr (.inr b0) :: us).reverse ++ st) (hcat : Nat.ble (st.map mcat).sum 8 = true) (kk : ∀ r : Int, Sim σ cc nL own d rt w (pc + 3) lv (.inl r :: st) μ (F r)) : Sim σ cc nL own d rt w pc lv stk μ (o.bind F) := S_callV0 hd hc hm hy hkd hcl hdd hst hcat (fun r => kk r)
theorem S_callW_I {host : String} {b0 ci : Nat} {o : Option Int} {F : Int → Option α} (hd : decode cc pc = .ok (.invokevirtual idx, 3)) (us : List mV) (hc : Con σ y cc' nL' rt' d' (.inr (.inr b0) :: us) μ o (rI μ)) (hm : mlW own idx y cc' nL' rt' host) (hy : yOk y us.length) (hkd : kd b0 = .inr ci) (hcl : y.cls = clR ci) (hdd : dOk d d' nL' = true) (hst : stk = (.inr (.inr b0) :: us).reverse ++ st) (hcat : Nat.ble (st.map mcat).sum 8 = true) (kk : ∀ r : Int, Sim σ cc nL own d rt w (pc + 3) lv (.inl r :: st) μ (F r)) : Sim σ cc nL own d rt w pc lv stk μ (o.bind F) := S_callW0 hd hc hm hy hkd hcl hdd hst hcat (fun r => kk r)
theorem S_callS_L {o : Option Int} {F : Int → Option α} (hd : decode cc pc = .ok (.invokestatic idx, 3)) (vs : List mV) (hc : Con σ y cc' nL' rt' d' vs μ o (rL μ)) (hm : mlS own idx y cc' nL' rt') (hy : yOk y vs.length) (hdd : dOk d d' nL' = true) (hst : stk = vs.reverse ++ st) (hcat : Nat.ble (st.map mcat).sum 8 = true) (kk : ∀ r : Int, Sim σ cc nL own d rt w (pc + 3) lv (.inr (.inl r) :: st) μ (F r)) : Sim σ cc nL own d rt w pc lv stk μ (o.bind F) := S_callS0 hd hc hm hy hdd hst hcat (fun r => kk r)
theorem S_callN_L {host : String} {o : Option Int} {F : Int → Option α} (hd : decode cc pc = .ok (.invokestatic idx, 3)) (vs : List mV) (hc : Con σ y cc' nL' rt' d' vs μ o (rL μ)) (hm : mlN own idx y cc' nL' rt' host) (hy : yOk y vs.length) (hdd : dOk d d' nL' = true) (hst : stk = vs.reverse ++ st) (hcat : Nat.ble (st.map mcat).sum 8 = true) (kk : ∀ r : Int, Sim σ cc nL own d rt w (pc + 3) lv (.inr (.inl r) :: st) μ (F r)) : Sim σ cc nL own d rt w pc lv stk μ (o.bind F) := S_callN0 hd hc hm hy hdd hst hcat (fun r => kk r)
theorem S_callV_L {b0 ci : Nat} {o : Option Int} {F : Int → Option α} (hd : decode cc pc = .ok (.invokevirtual idx, 3)) (us : List mV) (hc : Con σ y cc' nL' rt' d' (.inr (.inr b0) :: us) μ o (rL μ)) (hm : mlV own idx y cc' nL' rt') (hy : yOk y us.length) (hkd : kd b0 = .inr ci) (hcl : y.cls = clR ci) (hdd : dOk d d' nL' = true) (hst : stk = (.inr (.inr b0) :: us).reverse ++ st) (hcat : Nat.ble (st.map mcat).sum 8 = true) (kk : ∀ r : Int, Sim σ cc nL own d rt w (pc + 3) lv (.inr (.inl r) :: st) μ (F r)) : Sim σ cc nL own d rt w pc lv stk μ (o.bind F) := S_callV0 hd hc hm hy hkd hcl hdd hst hcat (fun r => kk r)
theorem S_callW_L {host : String} {b0 ci : Nat} {o : Option Int} {F : Int → Option α} (hd : decode cc pc = .ok (.invokevirtual idx, 3)) (us : List mV) (hc : Con σ y cc' nL' rt' d' (.inr (.inr b0) :: us) μ o (rL μ)) (hm : mlW own idx y cc' nL' rt' host) (hy : yOk y us.length) (hkd : kd b0 = .inr ci) (hcl : y.cls = clR ci) (hdd : dOk d d' nL' = true) (hst : stk = (.inr (.inr b0) :: us).reverse ++ st) (hcat : Nat.ble (st.map mcat).sum 8 = true) (kk : ∀ r : Int, Sim σ cc nL own d rt w (pc + 3) lv (.inr (.inl r) :: st) μ (F r)) : Sim σ cc nL own d rt w pc lv stk μ (o.bind F) := S_callW0 hd hc hm hy hkd hcl hdd hst hcat (fun r => kk r)
theorem S_callS_M {o : Option (Int × Mem)} {F : (Int × Mem) → Option α} (hd : decode cc pc = .ok (.invokestatic idx, 3)) (vs : List mV) (hc : Con σ y cc' nL' rt' d' vs μ o (wI)) (hm : mlS own idx y cc' nL' rt') (hy : yOk y vs.length) (hdd : dOk d d' nL' = true) (hst : stk = vs.reverse ++ st) (hcat : Nat.ble (st.map mcat).sum 8 = true) (kk : ∀ (r : Int) (μ2 : Mem), Sim σ cc nL own d rt w (pc + 3) lv (.inl r :: st) μ2 (F (r, μ2))) : Sim σ cc nL own d rt w pc lv stk μ (o.bind F) := S_callS0 hd hc hm hy hdd hst hcat (fun r => kk r.1 r.2)
theorem S_callN_M {host : String} {o : Option (Int × Mem)} {F : (Int × Mem) → Option α} (hd : decode cc pc = .ok (.invokestatic idx, 3)) (vs : List mV) (hc : Con σ y cc' nL' rt' d' vs μ o (wI)) (hm : mlN own idx y cc' nL' rt' host) (hy : yOk y vs.length) (hdd : dOk d d' nL' = true) (hst : stk = vs.reverse ++ st) (hcat : Nat.ble (st.map mcat).sum 8 = true) (kk : ∀ (r : Int) (μ2 : Mem), Sim σ cc nL own d rt w (pc + 3) lv (.inl r :: st) μ2 (F (r, μ2))) : Sim σ cc nL own d rt w pc lv stk μ (o.bind F) := S_callN0 hd hc hm hy hdd hst hcat (fun r => kk r.1 r.2)
theorem S_callV_M {b0 ci : Nat} {o : Option (Int × Mem)} {F : (Int × Mem) → Option α} (hd : decode cc pc = .ok (.invokevirtual idx, 3)) (us : List mV) (hc : Con σ y cc' nL' rt' d' (.inr (.inr b0) :: us) μ o (wI)) (hm : mlV own idx y cc' nL' rt') (hy : yOk y us.length) (hkd : kd b0 = .inr ci) (hcl : y.cls = clR ci) (hdd : dOk d d' nL' = true) (hst : stk = (.inr (.inr b0) :: us).reverse ++ st) (hcat : Nat.ble (st.map mcat).sum 8 = true) (kk : ∀ (r : Int) (μ2 : Mem), Sim σ cc nL own d rt w (pc + 3) lv (.inl r :: st) μ2 (F (r, μ2))) : Sim σ cc nL own d rt w pc lv stk μ (o.bind F) := S_callV0 hd hc hm hy hkd hcl hdd hst hcat (fun r => kk r.1 r.2)
theorem S_callW_M {host : String} {b0 ci : Nat} {o : Option (Int × Mem)} {F : (Int × Mem) → Option α} (hd : decode cc pc = .ok (.invokevirtual idx, 3)) (us : List mV) (hc : Con σ y cc' nL' rt' d' (.inr (.inr b0) :: us) μ o (wI)) (hm : mlW own idx y cc' nL' rt' host) (hy : yOk y us.length) (hkd : kd b0 = .inr ci) (hcl : y.cls = clR ci) (hdd : dOk d d' nL' = true) (hst : stk = (.inr (.inr b0) :: us).reverse ++ st) (hcat : Nat.ble (st.map mcat).sum 8 = true) (kk : ∀ (r : Int) (μ2 : Mem), Sim σ cc nL own d rt w (pc + 3) lv (.inl r :: st) μ2 (F (r, μ2))) : Sim σ cc nL own d rt w pc lv stk μ (o.bind F) := S_callW0 hd hc hm hy hkd hcl hdd hst hcat (fun r => kk r.1 r.2)
theorem S_callS_V {o : Option Mem} {F : Mem → Option α} (hd : decode cc pc = .ok (.invokestatic idx, 3)) (vs : List mV) (hc : Con σ y cc' nL' rt' d' vs μ o (wV)) (hm : mlS own idx y cc' nL' rt') (hy : yOk y vs.length) (hdd : dOk d d' nL' = true) (hst : stk = vs.reverse ++ st) (hcat : Nat.ble (st.map mcat).sum 8 = true) (kk : ∀ μ2 : Mem, Sim σ cc nL own d rt w (pc + 3) lv st μ2 (F μ2)) : Sim σ cc nL own d rt w pc lv stk μ (o.bind F) := S_callS0 hd hc hm hy hdd hst hcat (fun r => kk r)
theorem S_callN_V {host : String} {o : Option Mem} {F : Mem → Option α} (hd : decode cc pc = .ok (.invokestatic idx, 3)) (vs : List mV) (hc : Con σ y cc' nL' rt' d' vs μ o (wV)) (hm : mlN own idx y cc' nL' rt' host) (hy : yOk y vs.length) (hdd : dOk d d' nL' = true) (hst : stk = vs.reverse ++ st) (hcat : Nat.ble (st.map mcat).sum 8 = true) (kk : ∀ μ2 : Mem, Sim σ cc nL own d rt w (pc + 3) lv st μ2 (F μ2)) : Sim σ cc nL own d rt w pc lv stk μ (o.bind F) := S_callN0 hd hc hm hy hdd hst hcat (fun r => kk r)
theorem S_callV_V {b0 ci : Nat} {o : Option Mem} {F : Mem → Option α} (hd : decode cc pc = .ok (.invokevirtual idx, 3)) (us : List mV) (hc : Con σ y cc' nL' rt' d' (.inr (.inr b0) :: us) μ o (wV)) (hm : mlV own idx y cc' nL' rt') (hy : yOk y us.length) (hkd : kd b0 = .inr ci) (hcl : y.cls = clR ci) (hdd : dOk d d' nL' = true) (hst : stk = (.inr (.inr b0) :: us).reverse ++ st) (hcat : Nat.ble (st.map mcat).sum 8 = true) (kk : ∀ μ2 : Mem, Sim σ cc nL own d rt w (pc + 3) lv st μ2 (F μ2)) : Sim σ cc nL own d rt w pc lv stk μ (o.bind F) := S_callV0 hd hc hm hy hkd hcl hdd hst hcat (fun r => kk r)
theorem S_callW_V {host : String} {b0 ci : Nat} {o : Option Mem} {F : Mem → Option α} (hd : decode cc pc = .ok (.invokevirtual idx, 3)) (us : List mV) (hc : Con σ y cc' nL' rt' d' (.inr (.inr b0) :: us) μ o (wV)) (hm : mlW own idx y cc' nL' rt' host) (hy : yOk y us.length) (hkd : kd b0 = .inr ci) (hcl : y.cls = clR ci) (hdd : dOk d d' nL' = true) (hst : stk = (.inr (.inr b0) :: us).reverse ++ st) (hcat : Nat.ble (st.map mcat).sum 8 = true) (kk : ∀ μ2 : Mem, Sim σ cc nL own d rt w (pc + 3) lv st μ2 (F μ2)) : Sim σ cc nL own d rt w pc lv stk μ (o.bind F) := S_callW0 hd hc hm hy hkd hcl hdd hst hcat (fun r => kk r)
end CALLK
