abbrev grd {α : Type} (c : Prop) [inst : Decidable c] (o : Option α) : Option α := if c then o else none
def bnd2 {α : Type} (o : Option (Int × Mem)) (F : Int → Mem → Option α) : Option α := o.bind (fun q => F q.1 q.2)
def fuel : Nat := 10000
abbrev wL (q : Int × Mem) : Option mV × Mem := (some (.inr (.inl q.1)), q.2)
section ROWS4
variable {σ : Scr} {α : Type} {cc cc' : ByteArray} {nL nL' : Nat} {own : String} {d d' : Nat} {rt rt' : Option FieldType} {w : α → Option mV × Mem} {pc : Nat} {lv : List (Nat × mV)} {st stk vs : List mV} {μ : Mem} {o : Option α} {y : MethodName} {idx : Nat}
theorem S_ialdK {c0 n k : Nat} {i : Int} (hd : decode cc pc = .ok (.iaload, 1)) (hkd : kd c0 = .inl (0, n)) (hc : c0 < 64) (hi : i = (k : Int) ∧ k < n) (kk : Sim σ cc nL own d rt w (pc + 1) lv (.inl (μ c0 k) :: st) μ o) : Sim σ cc nL own d rt w pc lv (.inl i :: .inr (.inr c0) :: st) μ o := by
  obtain ⟨rfl, hk⟩ := hi
  have h := S_iald (i := (k : Int)) hd hkd hc rfl kk
  rwa [if_pos ⟨by omega, by omega⟩] at h
theorem S_baldK {c0 n k : Nat} {i : Int} (hd : decode cc pc = .ok (.baload, 1)) (hkd : kd c0 = .inl (1, n)) (hc : c0 < 64) (hi : i = (k : Int) ∧ k < n) (kk : Sim σ cc nL own d rt w (pc + 1) lv (.inl (μ c0 k) :: st) μ o) : Sim σ cc nL own d rt w pc lv (.inl i :: .inr (.inr c0) :: st) μ o := by
  obtain ⟨rfl, hk⟩ := hi
  have h := S_bald (i := (k : Int)) hd hkd hc rfl kk
  rwa [if_pos ⟨by omega, by omega⟩] at h
theorem S_iastK {c0 n k : Nat} {i v : Int} {F : Mem → Option α} (hd : decode cc pc = .ok (.iastore, 1)) (hkd : kd c0 = .inl (0, n)) (hc : c0 < 64) (hi : i = (k : Int) ∧ k < n) (kk : ∀ μ' : Mem, Sim σ cc nL own d rt w (pc + 1) lv st μ' (F μ')) : Sim σ cc nL own d rt w pc lv (.inl v :: .inl i :: .inr (.inr c0) :: st) μ (mlet (wr μ c0 k v) F) := by
  obtain ⟨rfl, hk⟩ := hi
  have h := S_iast (μ := μ) (i := (k : Int)) (v := v) hd hkd hc rfl kk
  rwa [if_pos ⟨by omega, by omega⟩] at h
theorem S_idivK {x y : Int} (hd : decode cc pc = .ok (.idiv, 1)) (hy : ¬ y = 0) (k : Sim σ cc nL own d rt w (pc + 1) lv (.inl (w32 (x.tdiv y)) :: st) μ o) : Sim σ cc nL own d rt w pc lv (.inl y :: .inl x :: st) μ o := by
  have h := S_idiv hd k
  rwa [if_pos hy] at h
theorem S_iremK {x y : Int} (hd : decode cc pc = .ok (.irem, 1)) (hy : ¬ y = 0) (k : Sim σ cc nL own d rt w (pc + 1) lv (.inl (x.tmod y) :: st) μ o) : Sim σ cc nL own d rt w pc lv (.inl y :: .inl x :: st) μ o := by
  have h := S_irem hd k
  rwa [if_pos hy] at h
theorem S_ldivK {x y : Int} (hd : decode cc pc = .ok (.ldiv, 1)) (hy : ¬ y = 0) (k : Sim σ cc nL own d rt w (pc + 1) lv (.inr (.inl (w64 (x.tdiv y))) :: st) μ o) : Sim σ cc nL own d rt w pc lv (.inr (.inl y) :: .inr (.inl x) :: st) μ o := by
  have h := S_ldiv hd k
  rwa [if_pos hy] at h
theorem S_lremK {x y : Int} (hd : decode cc pc = .ok (.lrem, 1)) (hy : ¬ y = 0) (k : Sim σ cc nL own d rt w (pc + 1) lv (.inr (.inl (x.tmod y)) :: st) μ o) : Sim σ cc nL own d rt w pc lv (.inr (.inl y) :: .inr (.inl x) :: st) μ o := by
  have h := S_lrem hd k
  rwa [if_pos hy] at h
theorem S_acopyK {c0 c1 nA nB k1 k2 k3 : Nat} {sp dp n N0 N1 : Int} {F : Mem → Option α} (hd : decode cc pc = .ok (.invokestatic idx, 3)) (hl : Cond.methodLink own idx arraycopyName ∈ gd_tbl) (hnat : Cond.native arraycopyName ∈ gd_tbl) (hs : Cond.static arraycopyName ∈ gd_tbl) (hi : Cond.initialized "java/lang/System" ∈ gd_tbl) (hk0 : kd c0 = .inl (0, nA)) (hc0 : c0 < 64) (hk1 : kd c1 = .inl (0, nB)) (hc1 : c1 < 64) (hN0 : (nA : Int) = N0) (hN1 : (nB : Int) = N1) (hd1 : Nat.ble 1 d = true) (hcat : Nat.ble (st.map mcat).sum 10 = true) (hw40 : nativeFrameWords "java/lang/System" "arraycopy" 5 + 11 ≤ 30)
    (hq : (sp = (k1 : Int) ∧ dp = (k2 : Int) ∧ n = (k3 : Int)) ∧ k1 + k3 ≤ nA ∧ k2 + k3 ≤ nB) (kk : ∀ μ' : Mem, Sim σ cc nL own d rt w (pc + 3) lv st μ' (F μ')) : Sim σ cc nL own d rt w pc lv (.inl n :: .inl dp :: .inr (.inr c1) :: .inl sp :: .inr (.inr c0) :: st) μ (mlet (cpy μ c0 k1 c1 k2 k3) F) := by
  obtain ⟨⟨rfl, rfl, rfl⟩, h1, h2⟩ := hq
  have h := S_acopy (μ := μ) (sp := (k1 : Int)) (dp := (k2 : Int)) (n := (k3 : Int)) hd hl hnat hs hi hk0 hc0 hk1 hc1 hN0 hN1 hd1 hcat hw40 kk
  subst hN0; subst hN1
  rwa [if_pos ⟨by omega, by omega, by omega, by omega, by omega⟩] at h
theorem S_alenN {c0 n : Nat} (hd : decode cc pc = .ok (.arraylength, 1)) {t : Nat} (hkd : kd c0 = .inl (t, n)) (hc : c0 < 64) (ht : t < 4) (hn : n ≤ 4000) (kk : Sim σ cc nL own d rt w (pc + 1) lv (.inl (n : Int) :: st) μ o) : Sim σ cc nL own d rt w pc lv (.inr (.inr c0) :: st) μ o :=
  S_alen hd hkd hc ht rfl (by unfold okIb; rw [Bool.and_eq_true, decide_eq_true_eq, decide_eq_true_eq]; omega) kk
theorem S_tsD {x : Int} {dflt lo hi : Int} {offs : Array Int} {len tgt : Nat} (cs : List Int) (hd : decode cc pc = .ok (.tableswitch dflt lo hi offs, len)) (ht : (pc : Int) + dflt = (tgt : Int)) (hoff : ((List.range (hi - lo + 1).toNat).all fun k => cs.contains (lo + (k : Int)) || offs[k]? == some dflt) = true) (hcs : ∀ v ∈ cs, ¬ x = v) (k : Sim σ cc nL own d rt w tgt lv st μ o) : Sim σ cc nL own d rt w pc lv (.inl x :: st) μ o := by
  by_cases h1 : x < lo
  · exact S_tsOut hd (Or.inl h1) ht k
  · by_cases h2 : hi < x
    · exact S_tsOut hd (Or.inr h2) ht k
    · have h3 := List.all_eq_true.mp hoff (x - lo).toNat (List.mem_range.mpr (by omega))
      rw [show lo + (((x - lo).toNat : Nat) : Int) = x by omega] at h3
      rw [Bool.or_eq_true] at h3
      rcases h3 with h3 | h3
      · exact absurd rfl (hcs x (List.contains_iff_mem.mp h3))
      · exact S_tsIn (n := x) hd rfl h1 h2 (eq_of_beq h3) ht k
theorem S_callS_M2 {o : Option (Int × Mem)} {F : Int → Mem → Option α} (hd : decode cc pc = .ok (.invokestatic idx, 3)) (vs : List mV) (hc : Con σ y cc' nL' rt' d' vs μ o wI) (hm : mlS own idx y cc' nL' rt') (hy : yOk y vs.length) (hdd : dOk d d' nL' = true) (hst : stk = vs.reverse ++ st) (hcat : Nat.ble (st.map mcat).sum 8 = true) (kk : ∀ (r : Int) (μ2 : Mem), Sim σ cc nL own d rt w (pc + 3) lv (.inl r :: st) μ2 (F r μ2)) : Sim σ cc nL own d rt w pc lv stk μ (bnd2 o F) := S_callS0 hd hc hm hy hdd hst hcat (fun r => kk r.1 r.2)
theorem S_callN_M2 {host : String} {o : Option (Int × Mem)} {F : Int → Mem → Option α} (hd : decode cc pc = .ok (.invokestatic idx, 3)) (vs : List mV) (hc : Con σ y cc' nL' rt' d' vs μ o wI) (hm : mlN own idx y cc' nL' rt' host) (hy : yOk y vs.length) (hdd : dOk d d' nL' = true) (hst : stk = vs.reverse ++ st) (hcat : Nat.ble (st.map mcat).sum 8 = true) (kk : ∀ (r : Int) (μ2 : Mem), Sim σ cc nL own d rt w (pc + 3) lv (.inl r :: st) μ2 (F r μ2)) : Sim σ cc nL own d rt w pc lv stk μ (bnd2 o F) := S_callN0 hd hc hm hy hdd hst hcat (fun r => kk r.1 r.2)
theorem S_callV_M2 {b0 ci : Nat} {o : Option (Int × Mem)} {F : Int → Mem → Option α} (hd : decode cc pc = .ok (.invokevirtual idx, 3)) (us : List mV) (hc : Con σ y cc' nL' rt' d' (.inr (.inr b0) :: us) μ o wI) (hm : mlV own idx y cc' nL' rt') (hy : yOk y us.length) (hkd : kd b0 = .inr ci) (hcl : y.cls = clR ci) (hdd : dOk d d' nL' = true) (hst : stk = (.inr (.inr b0) :: us).reverse ++ st) (hcat : Nat.ble (st.map mcat).sum 8 = true) (kk : ∀ (r : Int) (μ2 : Mem), Sim σ cc nL own d rt w (pc + 3) lv (.inl r :: st) μ2 (F r μ2)) : Sim σ cc nL own d rt w pc lv stk μ (bnd2 o F) := S_callV0 hd hc hm hy hkd hcl hdd hst hcat (fun r => kk r.1 r.2)
theorem S_callW_M2 {host : String} {b0 ci : Nat} {o : Option (Int × Mem)} {F : Int → Mem → Option α} (hd : decode cc pc = .ok (.invokevirtual idx, 3)) (us : List mV) (hc : Con σ y cc' nL' rt' d' (.inr (.inr b0) :: us) μ o wI) (hm : mlW own idx y cc' nL' rt' host) (hy : yOk y us.length) (hkd : kd b0 = .inr ci) (hcl : y.cls = clR ci) (hdd : dOk d d' nL' = true) (hst : stk = (.inr (.inr b0) :: us).reverse ++ st) (hcat : Nat.ble (st.map mcat).sum 8 = true) (kk : ∀ (r : Int) (μ2 : Mem), Sim σ cc nL own d rt w (pc + 3) lv (.inl r :: st) μ2 (F r μ2)) : Sim σ cc nL own d rt w pc lv stk μ (bnd2 o F) := S_callW0 hd hc hm hy hkd hcl hdd hst hcat (fun r => kk r.1 r.2)
theorem S_callS_N2 {o : Option (Int × Mem)} {F : Int → Mem → Option α} (hd : decode cc pc = .ok (.invokestatic idx, 3)) (vs : List mV) (hc : Con σ y cc' nL' rt' d' vs μ o wL) (hm : mlS own idx y cc' nL' rt') (hy : yOk y vs.length) (hdd : dOk d d' nL' = true) (hst : stk = vs.reverse ++ st) (hcat : Nat.ble (st.map mcat).sum 8 = true) (kk : ∀ (r : Int) (μ2 : Mem), Sim σ cc nL own d rt w (pc + 3) lv (.inr (.inl r) :: st) μ2 (F r μ2)) : Sim σ cc nL own d rt w pc lv stk μ (bnd2 o F) := S_callS0 hd hc hm hy hdd hst hcat (fun r => kk r.1 r.2)
theorem S_callN_N2 {host : String} {o : Option (Int × Mem)} {F : Int → Mem → Option α} (hd : decode cc pc = .ok (.invokestatic idx, 3)) (vs : List mV) (hc : Con σ y cc' nL' rt' d' vs μ o wL) (hm : mlN own idx y cc' nL' rt' host) (hy : yOk y vs.length) (hdd : dOk d d' nL' = true) (hst : stk = vs.reverse ++ st) (hcat : Nat.ble (st.map mcat).sum 8 = true) (kk : ∀ (r : Int) (μ2 : Mem), Sim σ cc nL own d rt w (pc + 3) lv (.inr (.inl r) :: st) μ2 (F r μ2)) : Sim σ cc nL own d rt w pc lv stk μ (bnd2 o F) := S_callN0 hd hc hm hy hdd hst hcat (fun r => kk r.1 r.2)
theorem S_callV_N2 {b0 ci : Nat} {o : Option (Int × Mem)} {F : Int → Mem → Option α} (hd : decode cc pc = .ok (.invokevirtual idx, 3)) (us : List mV) (hc : Con σ y cc' nL' rt' d' (.inr (.inr b0) :: us) μ o wL) (hm : mlV own idx y cc' nL' rt') (hy : yOk y us.length) (hkd : kd b0 = .inr ci) (hcl : y.cls = clR ci) (hdd : dOk d d' nL' = true) (hst : stk = (.inr (.inr b0) :: us).reverse ++ st) (hcat : Nat.ble (st.map mcat).sum 8 = true) (kk : ∀ (r : Int) (μ2 : Mem), Sim σ cc nL own d rt w (pc + 3) lv (.inr (.inl r) :: st) μ2 (F r μ2)) : Sim σ cc nL own d rt w pc lv stk μ (bnd2 o F) := S_callV0 hd hc hm hy hkd hcl hdd hst hcat (fun r => kk r.1 r.2)
theorem S_callW_N2 {host : String} {b0 ci : Nat} {o : Option (Int × Mem)} {F : Int → Mem → Option α} (hd : decode cc pc = .ok (.invokevirtual idx, 3)) (us : List mV) (hc : Con σ y cc' nL' rt' d' (.inr (.inr b0) :: us) μ o wL) (hm : mlW own idx y cc' nL' rt' host) (hy : yOk y us.length) (hkd : kd b0 = .inr ci) (hcl : y.cls = clR ci) (hdd : dOk d d' nL' = true) (hst : stk = (.inr (.inr b0) :: us).reverse ++ st) (hcat : Nat.ble (st.map mcat).sum 8 = true) (kk : ∀ (r : Int) (μ2 : Mem), Sim σ cc nL own d rt w (pc + 3) lv (.inr (.inl r) :: st) μ2 (F r μ2)) : Sim σ cc nL own d rt w pc lv stk μ (bnd2 o F) := S_callW0 hd hc hm hy hkd hcl hdd hst hcat (fun r => kk r.1 r.2)
end ROWS4
section ROWS5
variable {σ : Scr} {α : Type} {cc cc' : ByteArray} {nL nL' : Nat} {own : String} {d d' : Nat} {rt rt' : Option FieldType} {w : α → Option mV × Mem} {pc : Nat} {lv : List (Nat × mV)} {st stk vs : List mV} {μ : Mem} {o : Option α} {y : MethodName} {idx : Nat}
theorem S_iastE {c0 n k : Nat} {i v : Int} (hd : decode cc pc = .ok (.iastore, 1)) (hkd : kd c0 = .inl (0, n)) (hc : c0 < 64) (hi : i = (k : Int) ∧ k < n) (kk : Sim σ cc nL own d rt w (pc + 1) lv st (wr μ c0 k v) o) : Sim σ cc nL own d rt w pc lv (.inl v :: .inl i :: .inr (.inr c0) :: st) μ o := by
  obtain ⟨rfl, hk⟩ := hi
  intro a ha hE hS hM kc nc Qe p l e R s m args below meth c G A H locs ls hF hL hW
  refine va_iast hF.1 hF.2.1 hF.2.2.2.2.2.2.2.2.1 hW.1 hW.2.1 hW.2.2 c0 0 (kd_ltA hkd hc) rfl (n_in (okS_h (okS_t hS)) (by omega) (by omega)) hd (fun H1 locs1 hP hD hS1 => ?_)
  rw [n_clamp (okS_h (okS_t hS)) (by omega)] at hP hD
  have e9 := ws_wr (G := G) (μ := μ) (k := (k : Int).toNat) (v := v) hkd hc (by decide)
  rw [e9] at hP hD
  exact kk a ha hE (okS_t (okS_t (okS_t hS))) (okM_wr hM (by rw [mk_A hkd]; exact okS_h hS)) p l e R s m args below meth c G A H1 locs1 ls hF hL ⟨hP, hD, hS1⟩
theorem S_bastE {c0 n k : Nat} {i v : Int} (hd : decode cc pc = .ok (.bastore, 1)) (hkd : kd c0 = .inl (1, n)) (hc : c0 < 64) (hi : i = (k : Int) ∧ k < n) (kk : Sim σ cc nL own d rt w (pc + 1) lv st (wr μ c0 k (w8 v)) o) : Sim σ cc nL own d rt w pc lv (.inl v :: .inl i :: .inr (.inr c0) :: st) μ o := by
  obtain ⟨rfl, hk⟩ := hi
  intro a ha hE hS hM kc nc Qe p l e R s m args below meth c G A H locs ls hF hL hW
  refine va_bast hF.1 hF.2.1 hF.2.2.2.2.2.2.2.2.1 hW.1 hW.2.1 hW.2.2 c0 1 (kd_ltA hkd hc) rfl (n_in (okS_h (okS_t hS)) (by omega) (by omega)) hd (fun H1 locs1 hP hD hS1 => ?_)
  rw [n_clamp (okS_h (okS_t hS)) (by omega), nar_b (okS_h hS)] at hP hD
  have e9 := ws_wr (G := G) (μ := μ) (k := (k : Int).toNat) (v := w8 v) hkd hc (by decide)
  rw [e9] at hP hD
  exact kk a ha hE (okS_t (okS_t (okS_t hS))) (okM_wr hM (by rw [mk_B hkd]; exact w8_ok v)) p l e R s m args below meth c G A H1 locs1 ls hF hL ⟨hP, hD, hS1⟩
theorem S_iincE {i : Nat} {n x : Int} {lv' : List (Nat × mV)} (hd : decode cc pc = .ok (.iinc i n, 3)) (hn : okIb n = true) (hi : Nat.blt i nL = true) (hx : lkp lv i = some (.inl x)) (hl : sto lv i (.inl (w32 (x + n))) = lv') (k : Sim σ cc nL own d rt w (pc + 3) lv' st μ o) : Sim σ cc nL own d rt w pc lv st μ o := by
  intro a ha hE hS hM kc nc Qe p l e R s m args below meth c G A H locs ls hF hL hW
  obtain ⟨q, hq⟩ := lkp_place hx G
  subst hl
  refine lv_iinc hF.1 hF.2.1 hd hL hq (n_add (lkp_ok hE hx) (okIb_ok hn)) (Nat.le_of_ble_eq_true hi) (sto_cv G lv i (.inl (w32 (x + n)))) (fun ls' hL' => ?_)
  exact k a ha (sto_ok hE (w32_ok _)) hS hM p l e R s m args below meth c G A H locs ls' hF hL' hW
end ROWS5
theorem dOk_s {n0 B d' nL' : Nat} (h1 : Nat.ble (d' + 1) B = true) (h2 : Nat.ble nL' 20 = true) : dOk (n0 + B) d' nL' = true := by
  have h3 := Nat.le_of_ble_eq_true h1
  unfold dOk
  rw [Bool.and_eq_true]
  exact ⟨Nat.ble_eq_true_of_le (by omega), h2⟩
theorem dOk_r {n0 B nL' : Nat} (h2 : Nat.ble nL' 20 = true) : dOk (n0 + (B + 1)) (n0 + B) nL' = true := by
  unfold dOk
  rw [Bool.and_eq_true]
  exact ⟨Nat.ble_eq_true_of_le (by omega), h2⟩
theorem ble1 {n0 B : Nat} : Nat.ble 1 (n0 + (B + 1)) = true := Nat.ble_eq_true_of_le (by omega)
theorem fam_lt {c a b : Nat} (h : a ≤ c ∧ c < b) (hb : b ≤ 64) : c < 64 := by omega
theorem tx_lt {c : Nat} (h : isTx c) : c < 64 := by unfold isTx at h; omega
theorem jm_an : Cond.native arraycopyName ∈ gd_tbl := in_gd (i := 227) (by decide +kernel) rfl
theorem jm_as : Cond.static arraycopyName ∈ gd_tbl := in_gd (i := 226) (by decide +kernel) rfl
theorem jm_S : Cond.initialized "java/lang/System" ∈ gd_tbl := in_gd (i := 39) (by decide +kernel) rfl
theorem jm_M : Cond.initialized "java/lang/Math" ∈ gd_tbl := in_gd (i := 40) (by decide +kernel) rfl
theorem jm_w : nativeFrameWords "java/lang/System" "arraycopy" 5 + 11 ≤ 30 := by decide +kernel
theorem jm_abs : Cond.static Lib.Math.abs.name ∈ gd_tbl := in_gd (i := 245) (by decide +kernel) rfl
theorem jc_abs : Cond.code Lib.Math.abs.name Lib.Math.abs.code 1 (some .int) ∈ gd_tbl := in_gd (i := 246) (by decide +kernel) rfl
theorem jm_max : Cond.static Lib.Math.max.name ∈ gd_tbl := in_gd (i := 257) (by decide +kernel) rfl
theorem jc_max : Cond.code Lib.Math.max.name Lib.Math.max.code 2 (some .int) ∈ gd_tbl := in_gd (i := 258) (by decide +kernel) rfl
theorem jm_min : Cond.static Lib.Math.min.name ∈ gd_tbl := in_gd (i := 291) (by decide +kernel) rfl
theorem jc_min : Cond.code Lib.Math.min.name Lib.Math.min.code 2 (some .int) ∈ gd_tbl := in_gd (i := 292) (by decide +kernel) rfl
theorem dJ7_fill_53178_0 : decode cJ7_fill_53178 0 = .ok (.iconst 0, 1) := by decide +kernel
theorem dJ7_fill_53178_1 : decode cJ7_fill_53178 1 = .ok (.istore_n 2, 1) := by decide +kernel
theorem dJ7_fill_53178_2 : decode cJ7_fill_53178 2 = .ok (.aload_n 0, 1) := by decide +kernel
theorem dJ7_fill_53178_3 : decode cJ7_fill_53178 3 = .ok (.arraylength, 1) := by decide +kernel
theorem dJ7_fill_53178_4 : decode cJ7_fill_53178 4 = .ok (.istore_n 3, 1) := by decide +kernel
theorem dJ7_fill_53178_5 : decode cJ7_fill_53178 5 = .ok (.iload_n 2, 1) := by decide +kernel
theorem dJ7_fill_53178_6 : decode cJ7_fill_53178 6 = .ok (.iload_n 3, 1) := by decide +kernel
theorem dJ7_fill_53178_7 : decode cJ7_fill_53178 7 = .ok (.if_icmp .ge 13, 3) := by decide +kernel
theorem dJ7_fill_53178_10 : decode cJ7_fill_53178 10 = .ok (.aload_n 0, 1) := by decide +kernel
theorem dJ7_fill_53178_11 : decode cJ7_fill_53178 11 = .ok (.iload_n 2, 1) := by decide +kernel
theorem dJ7_fill_53178_12 : decode cJ7_fill_53178 12 = .ok (.iload_n 1, 1) := by decide +kernel
theorem dJ7_fill_53178_13 : decode cJ7_fill_53178 13 = .ok (.iastore, 1) := by decide +kernel
theorem dJ7_fill_53178_14 : decode cJ7_fill_53178 14 = .ok (.iinc 2 1, 3) := by decide +kernel
theorem dJ7_fill_53178_17 : decode cJ7_fill_53178 17 = .ok (.goto (-12), 3) := by decide +kernel
theorem dJ7_fill_53178_20 : decode cJ7_fill_53178 20 = .ok (.return_, 1) := by decide +kernel
theorem jy_fillI : yOk yJ7_fill_53178 2 := ⟨by decide, by decide, by decide +kernel⟩
theorem filM_step_I {μ : Mem} {c i : Nat} {z : Int} : wr (filM μ c i z) c i z = filM μ c (i + 1) z := by
  funext c' k'
  unfold wr filM
  by_cases h : c' = c ∧ k' = i
  · rw [if_pos h, if_pos ⟨h.1, by omega⟩]
  · rw [if_neg h]
    by_cases h2 : c' = c ∧ k' < i
    · rw [if_pos h2, if_pos ⟨h2.1, by omega⟩]
    · rw [if_neg h2, if_neg (fun q => by
        rcases Nat.lt_or_ge k' i with q1 | q1
        · exact h2 ⟨q.1, q1⟩
        · exact h ⟨q.1, by omega⟩)]
theorem K_fillI {σ : Scr} {c n : Nat} (hk : kd c = .inl (0, n)) (hc : c < 64) (hn : n ≤ 4000) (v : Int) (μ : Mem) : Con σ yJ7_fill_53178 cJ7_fill_53178 4 none 1 [.inr (.inr c), .inl v] μ (some (filM μ c n v)) wV := by
  refine con_of (own := RJ7) (by decide) rfl (Nat.le_of_ble_eq_true rfl) ?_
  show Sim σ cJ7_fill_53178 4 RJ7 1 none wV 0 [(0, .inr (.inr c)), (1, .inl v)] [] μ (some (filM μ c n v))
  refine S_iconst dJ7_fill_53178_0 rfl ?_
  refine S_istore_n (lv' := [(2, .inl 0), (0, .inr (.inr c)), (1, .inl v)]) dJ7_fill_53178_1 rfl rfl ?_
  refine S_aload_n dJ7_fill_53178_2 rfl ?_
  refine S_alenN dJ7_fill_53178_3 hk hc (by decide) hn ?_
  refine S_istore_n (lv' := [(3, .inl (n : Int)), (2, .inl 0), (0, .inr (.inr c)), (1, .inl v)]) dJ7_fill_53178_4 rfl rfl ?_
  have hL : ∀ (m i : Nat), i + m = n → Sim σ cJ7_fill_53178 4 RJ7 1 none wV 5 [(3, .inl (n : Int)), (2, .inl (i : Int)), (0, .inr (.inr c)), (1, .inl v)] [] (filM μ c i v) (some (filM μ c n v)) := by
    intro m
    induction m with
    | zero =>
      intro i hi
      refine S_iload_n dJ7_fill_53178_5 rfl ?_
      refine S_iload_n dJ7_fill_53178_6 rfl ?_
      have e : (some (filM μ c n v)) = if (n : Int) ≤ (i : Int) then some (filM μ c n v) else none := by rw [if_pos (by omega)]
      rw [e]
      refine S_ic_ge (tgt := 20) dJ7_fill_53178_7 (by decide) (fun _ => ?_) (fun _ => S_none rfl)
      have e2 : i = n := by omega
      subst e2
      exact S_vret dJ7_fill_53178_20 rfl rfl
    | succ m ih =>
      intro i hi
      refine S_iload_n dJ7_fill_53178_5 rfl ?_
      refine S_iload_n dJ7_fill_53178_6 rfl ?_
      have e : (some (filM μ c n v)) = if (n : Int) ≤ (i : Int) then none else some (filM μ c n v) := by rw [if_neg (by omega)]
      rw [e]
      refine S_ic_ge (tgt := 20) dJ7_fill_53178_7 (by decide) (fun _ => S_none rfl) (fun _ => ?_)
      refine S_aload_n dJ7_fill_53178_10 rfl ?_
      refine S_iload_n dJ7_fill_53178_11 rfl ?_
      refine S_iload_n dJ7_fill_53178_12 rfl ?_
      refine S_iastE dJ7_fill_53178_13 hk hc (show (i : Int) = (i : Int) ∧ i < n from ⟨rfl, by omega⟩) ?_
      rw [filM_step_I]
      refine S_iincE dJ7_fill_53178_14 rfl rfl rfl (lv' := [(2, .inl ((i + 1 : Nat) : Int)), (3, .inl (n : Int)), (0, .inr (.inr c)), (1, .inl v)]) (by rw [w32_id (by unfold okI; omega)]; rfl) ?_
      refine S_goto (tgt := 5) dJ7_fill_53178_17 (by decide) ?_
      exact S_sub [1, 0, 2, 3] rfl (ih (i + 1) (by omega))
  have h0 : filM μ c 0 v = μ := by
    funext c' k'
    unfold filM
    rw [if_neg (by omega)]
  have h := hL n 0 (by omega)
  rw [h0] at h
  exact h
theorem dJ7_fill_031fb_0 : decode cJ7_fill_031fb 0 = .ok (.iconst 0, 1) := by decide +kernel
theorem dJ7_fill_031fb_1 : decode cJ7_fill_031fb 1 = .ok (.istore_n 2, 1) := by decide +kernel
theorem dJ7_fill_031fb_2 : decode cJ7_fill_031fb 2 = .ok (.aload_n 0, 1) := by decide +kernel
theorem dJ7_fill_031fb_3 : decode cJ7_fill_031fb 3 = .ok (.arraylength, 1) := by decide +kernel
theorem dJ7_fill_031fb_4 : decode cJ7_fill_031fb 4 = .ok (.istore_n 3, 1) := by decide +kernel
theorem dJ7_fill_031fb_5 : decode cJ7_fill_031fb 5 = .ok (.iload_n 2, 1) := by decide +kernel
theorem dJ7_fill_031fb_6 : decode cJ7_fill_031fb 6 = .ok (.iload_n 3, 1) := by decide +kernel
theorem dJ7_fill_031fb_7 : decode cJ7_fill_031fb 7 = .ok (.if_icmp .ge 13, 3) := by decide +kernel
theorem dJ7_fill_031fb_10 : decode cJ7_fill_031fb 10 = .ok (.aload_n 0, 1) := by decide +kernel
theorem dJ7_fill_031fb_11 : decode cJ7_fill_031fb 11 = .ok (.iload_n 2, 1) := by decide +kernel
theorem dJ7_fill_031fb_12 : decode cJ7_fill_031fb 12 = .ok (.iload_n 1, 1) := by decide +kernel
theorem dJ7_fill_031fb_13 : decode cJ7_fill_031fb 13 = .ok (.bastore, 1) := by decide +kernel
theorem dJ7_fill_031fb_14 : decode cJ7_fill_031fb 14 = .ok (.iinc 2 1, 3) := by decide +kernel
theorem dJ7_fill_031fb_17 : decode cJ7_fill_031fb 17 = .ok (.goto (-12), 3) := by decide +kernel
theorem dJ7_fill_031fb_20 : decode cJ7_fill_031fb 20 = .ok (.return_, 1) := by decide +kernel
theorem jy_fillB : yOk yJ7_fill_031fb 2 := ⟨by decide, by decide, by decide +kernel⟩
theorem filM_step_B {μ : Mem} {c i : Nat} {z : Int} : wr (filM μ c i z) c i z = filM μ c (i + 1) z := by
  funext c' k'
  unfold wr filM
  by_cases h : c' = c ∧ k' = i
  · rw [if_pos h, if_pos ⟨h.1, by omega⟩]
  · rw [if_neg h]
    by_cases h2 : c' = c ∧ k' < i
    · rw [if_pos h2, if_pos ⟨h2.1, by omega⟩]
    · rw [if_neg h2, if_neg (fun q => by
        rcases Nat.lt_or_ge k' i with q1 | q1
        · exact h2 ⟨q.1, q1⟩
        · exact h ⟨q.1, by omega⟩)]
theorem K_fillB {σ : Scr} {c n : Nat} (hk : kd c = .inl (1, n)) (hc : c < 64) (hn : n ≤ 4000) (v : Int) (μ : Mem) : Con σ yJ7_fill_031fb cJ7_fill_031fb 4 none 1 [.inr (.inr c), .inl v] μ (some (filM μ c n (w8 v))) wV := by
  refine con_of (own := RJ7) (by decide) rfl (Nat.le_of_ble_eq_true rfl) ?_
  show Sim σ cJ7_fill_031fb 4 RJ7 1 none wV 0 [(0, .inr (.inr c)), (1, .inl v)] [] μ (some (filM μ c n (w8 v)))
  refine S_iconst dJ7_fill_031fb_0 rfl ?_
  refine S_istore_n (lv' := [(2, .inl 0), (0, .inr (.inr c)), (1, .inl v)]) dJ7_fill_031fb_1 rfl rfl ?_
  refine S_aload_n dJ7_fill_031fb_2 rfl ?_
  refine S_alenN dJ7_fill_031fb_3 hk hc (by decide) hn ?_
  refine S_istore_n (lv' := [(3, .inl (n : Int)), (2, .inl 0), (0, .inr (.inr c)), (1, .inl v)]) dJ7_fill_031fb_4 rfl rfl ?_
  have hL : ∀ (m i : Nat), i + m = n → Sim σ cJ7_fill_031fb 4 RJ7 1 none wV 5 [(3, .inl (n : Int)), (2, .inl (i : Int)), (0, .inr (.inr c)), (1, .inl v)] [] (filM μ c i (w8 v)) (some (filM μ c n (w8 v))) := by
    intro m
    induction m with
    | zero =>
      intro i hi
      refine S_iload_n dJ7_fill_031fb_5 rfl ?_
      refine S_iload_n dJ7_fill_031fb_6 rfl ?_
      have e : (some (filM μ c n (w8 v))) = if (n : Int) ≤ (i : Int) then some (filM μ c n (w8 v)) else none := by rw [if_pos (by omega)]
      rw [e]
      refine S_ic_ge (tgt := 20) dJ7_fill_031fb_7 (by decide) (fun _ => ?_) (fun _ => S_none rfl)
      have e2 : i = n := by omega
      subst e2
      exact S_vret dJ7_fill_031fb_20 rfl rfl
    | succ m ih =>
      intro i hi
      refine S_iload_n dJ7_fill_031fb_5 rfl ?_
      refine S_iload_n dJ7_fill_031fb_6 rfl ?_
      have e : (some (filM μ c n (w8 v))) = if (n : Int) ≤ (i : Int) then none else some (filM μ c n (w8 v)) := by rw [if_neg (by omega)]
      rw [e]
      refine S_ic_ge (tgt := 20) dJ7_fill_031fb_7 (by decide) (fun _ => S_none rfl) (fun _ => ?_)
      refine S_aload_n dJ7_fill_031fb_10 rfl ?_
      refine S_iload_n dJ7_fill_031fb_11 rfl ?_
      refine S_iload_n dJ7_fill_031fb_12 rfl ?_
      refine S_bastE dJ7_fill_031fb_13 hk hc (show (i : Int) = (i : Int) ∧ i < n from ⟨rfl, by omega⟩) ?_
      rw [filM_step_B]
      refine S_iincE dJ7_fill_031fb_14 rfl rfl rfl (lv' := [(2, .inl ((i + 1 : Nat) : Int)), (3, .inl (n : Int)), (0, .inr (.inr c)), (1, .inl v)]) (by rw [w32_id (by unfold okI; omega)]; rfl) ?_
      refine S_goto (tgt := 5) dJ7_fill_031fb_17 (by decide) ?_
      exact S_sub [1, 0, 2, 3] rfl (ih (i + 1) (by omega))
  have h0 : filM μ c 0 (w8 v) = μ := by
    funext c' k'
    unfold filM
    rw [if_neg (by omega)]
  have h := hL n 0 (by omega)
  rw [h0] at h
  exact h
