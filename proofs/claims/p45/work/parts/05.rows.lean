theorem okS_i {z : Int} {st : List mV} (hv : okI z) (h : okS st) : okS (.inl z :: st) := okS_c (v := .inl z) hv h
section ROWS
variable {σ : Scr} {α : Type} {cc : ByteArray} {nL : Nat} {own : String} {d : Nat} {rt : Option FieldType} {w : α → Option mV × Mem} {pc : Nat} {lv : List (Nat × mV)} {st : List mV} {μ : Mem} {o : Option α}
theorem S_none (h : o = none) : Sim σ cc nL own d rt w pc lv st μ o := fun a ha => by rw [h] at ha; cases ha
theorem S_let {z : Int} {F : Int → Option α} (k : ∀ x : Int, Sim σ cc nL own d rt w pc lv (.inl x :: st) μ (F x)) : Sim σ cc nL own d rt w pc lv (.inl z :: st) μ (mlet z F) := k z
theorem S_letL {z : Int} {F : Int → Option α} (k : ∀ x : Int, Sim σ cc nL own d rt w pc lv (.inr (.inl x) :: st) μ (F x)) : Sim σ cc nL own d rt w pc lv (.inr (.inl z) :: st) μ (mlet z F) := k z
/-- a place where roads meet: what comes behind is shown once -/
theorem S_jn {γ : Type} {J : γ} {F : γ → Option α} (P : γ → Prop) (hJ : P J) (h : ∀ K : γ, P K → Sim σ cc nL own d rt w pc lv st μ (F K)) : Sim σ cc nL own d rt w pc lv st μ (mlet J F) := h J hJ
theorem S_if {c : Prop} [inst : Decidable c] {X Y : Option α} (kt : c → Sim σ cc nL own d rt w pc lv st μ X) (kf : ¬ c → Sim σ cc nL own d rt w pc lv st μ Y) : Sim σ cc nL own d rt w pc lv st μ (if c then X else Y) := by
  by_cases h : c
  · rw [if_pos h]; exact kt h
  · rw [if_neg h]; exact kf h
theorem S_g {c : Prop} [inst : Decidable c] {X : Option α} (kt : c → Sim σ cc nL own d rt w pc lv st μ X) : Sim σ cc nL own d rt w pc lv st μ (if c then X else none) := S_if kt (fun _ => S_none rfl)
theorem S_sub {lv' : List (Nat × mV)} (ks : List Nat) (h : ks.filterMap (fun k => lv[k]?) = lv') (k : Sim σ cc nL own d rt w pc lv' st μ o) : Sim σ cc nL own d rt w pc lv st μ o := by
  intro a ha hE hS hM kc nc Qe p l e R s m args below meth c G A H locs ls hF hl hW
  subst h
  refine k a ha (fun q hq => ?_) hS hM p l e R s m args below meth c G A H locs ls hF ?_ hW
  · obtain ⟨i, -, hi⟩ := List.mem_filterMap.mp hq
    exact hE q (List.mem_of_getElem? hi)
  · refine lv_sub hl ks ?_
    unfold lv_pick cvL
    rw [List.map_filterMap]
    congr 1
    funext i
    rw [List.getElem?_map]
theorem S_go {pc' : Nat} {st' : List mV} (hok : okE lv → okS st → okM μ → okS st')
    (h : ∀ {kc nc : Nat} {Qe : State → Prop} {oe : Option mV × Mem} (p : Program) (l : Launch) (e : Env) (R : Room) (s : State) (m : MethodId) (args : Array Value) (below : List Frame) (meth : Method) (c : Code) (G : wC) (A : Nat → Prop) (H : Heap) (locs : List Loc) (ls : Array Slot) (Q : State → Prop),
      okE lv → okS st → okM μ → Fx σ cc nL own d rt oe G A kc nc Qe p l e R s m args below meth c → lv_has ls nL (cvL G lv) → Wd G μ A s.heap H locs →
      W p l e R s m args below meth c H locs kc nc Q (F0 m pc' ls (st'.map (cv G))) → W p l e R s m args below meth c H locs kc nc Q (F0 m pc ls (st.map (cv G))))
    (k : Sim σ cc nL own d rt w pc' lv st' μ o) : Sim σ cc nL own d rt w pc lv st μ o :=
  fun a ha hE hS hM kc nc Qe p l e R s m args below meth c G A H locs ls hF hl hW => h p l e R s m args below meth c G A H locs ls _ hE hS hM hF hl hW (k a ha hE (hok hE hS hM) hM p l e R s m args below meth c G A H locs ls hF hl hW)
def okIb (z : Int) : Bool := decide (-2147483648 ≤ z) && decide (z ≤ 2147483647)
theorem okIb_ok {z : Int} (h : okIb z = true) : okI z := by
  unfold okIb at h
  rw [Bool.and_eq_true, decide_eq_true_eq, decide_eq_true_eq] at h
  exact h
def okLb (z : Int) : Bool := decide (-9223372036854775808 ≤ z) && decide (z ≤ 9223372036854775807)
theorem okLb_ok {z : Int} (h : okLb z = true) : okL z := by
  unfold okLb at h
  rw [Bool.and_eq_true, decide_eq_true_eq, decide_eq_true_eq] at h
  exact h
theorem S_iconst {n : Int} (hd : decode cc pc = .ok (.iconst n, 1)) (hn : okIb n = true) (k : Sim σ cc nL own d rt w (pc + 1) lv (.inl n :: st) μ o) : Sim σ cc nL own d rt w pc lv st μ o :=
  S_go (fun _ hS _ => okS_i (okIb_ok hn) hS) (fun _ _ _ _ _ _ _ _ _ _ _ _ _ _ _ _ _ _ _ hF _ _ kk => lv_iconst hF.1 hF.2.1 hd rfl kk) k
theorem S_bipush {n : Int} (hd : decode cc pc = .ok (.bipush n, 2)) (hn : okIb n = true) (hv : (Int8.ofInt n).toInt32 = Int32.ofInt n) (k : Sim σ cc nL own d rt w (pc + 2) lv (.inl n :: st) μ o) : Sim σ cc nL own d rt w pc lv st μ o :=
  S_go (fun _ hS _ => okS_i (okIb_ok hn) hS) (fun _ _ _ _ _ _ _ _ _ _ _ _ _ _ _ _ _ _ _ hF _ _ kk => lv_bipush hF.1 hF.2.1 hd hv kk) k
theorem S_sipush {n : Int} (hd : decode cc pc = .ok (.sipush n, 3)) (hn : okIb n = true) (hv : (Int16.ofInt n).toInt32 = Int32.ofInt n) (k : Sim σ cc nL own d rt w (pc + 3) lv (.inl n :: st) μ o) : Sim σ cc nL own d rt w pc lv st μ o :=
  S_go (fun _ hS _ => okS_i (okIb_ok hn) hS) (fun _ _ _ _ _ _ _ _ _ _ _ _ _ _ _ _ _ _ _ hF _ _ kk => lv_sipush hF.1 hF.2.1 hd hv kk) k
theorem S_ldc {n : Int} {idx : Nat} (hd : decode cc pc = .ok (.ldc idx, 2)) (hn : okIb n = true) (hm : Cond.constant own idx (Int32.ofInt n) ∈ gd_tbl) (k : Sim σ cc nL own d rt w (pc + 2) lv (.inl n :: st) μ o) : Sim σ cc nL own d rt w pc lv st μ o :=
  S_go (fun _ hS _ => okS_i (okIb_ok hn) hS) (fun _ _ _ _ _ _ _ _ _ _ _ _ _ _ _ _ _ _ _ hF _ _ kk => lv_ldc hF.1 hF.2.1 hF.2.2.2.1 (hF.2.2.2.2.1 _ hm) hd kk) k
theorem S_ldc2 {n : Int} {idx : Nat} (hd : decode cc pc = .ok (.ldc2_w idx, 3)) (hn : okLb n = true) (hm : Cond.constantLong own idx (Int64.ofInt n) ∈ gd_tbl) (k : Sim σ cc nL own d rt w (pc + 3) lv (.inr (.inl n) :: st) μ o) : Sim σ cc nL own d rt w pc lv st μ o :=
  S_go (fun _ hS _ => okS_c (v := .inr (.inl n)) (okLb_ok hn) hS) (fun _ _ _ _ _ _ _ _ _ _ _ _ _ _ _ _ _ _ _ hF _ _ kk => lv_ldc2 hF.1 hF.2.1 hF.2.2.2.1 (hF.2.2.2.2.1 _ hm) hd kk) k
theorem S_lconst {f : Fin 2} {n : Int} (hd : decode cc pc = .ok (.lconst f, 1)) (hf : Int64.ofNat (f : Nat) = Int64.ofInt n) (hn : okLb n = true) (k : Sim σ cc nL own d rt w (pc + 1) lv (.inr (.inl n) :: st) μ o) : Sim σ cc nL own d rt w pc lv st μ o :=
  S_go (fun _ hS _ => okS_c (v := .inr (.inl n)) (okLb_ok hn) hS) (fun _ _ _ _ _ _ _ _ _ _ _ _ _ _ _ _ _ _ _ hF _ _ kk => lv_lconst hF.1 hF.2.1 hd hf kk) k
theorem S_iload_n {f : Fin 4} {x : Int} (hd : decode cc pc = .ok (.iload_n f, 1)) (hl : lkp lv f = some (.inl x)) (k : Sim σ cc nL own d rt w (pc + 1) lv (.inl x :: st) μ o) : Sim σ cc nL own d rt w pc lv st μ o :=
  S_go (fun hE hS _ => okS_c (lkp_ok hE hl) hS) (fun _ _ _ _ _ _ _ _ _ _ _ _ _ _ _ _ _ _ _ hF hL _ kk => lv_iload_n hF.1 hF.2.1 hd rfl (lkp_at hL hl) kk) k
theorem S_iload {i : Nat} {x : Int} (hd : decode cc pc = .ok (.iload i, 2)) (hl : lkp lv i = some (.inl x)) (k : Sim σ cc nL own d rt w (pc + 2) lv (.inl x :: st) μ o) : Sim σ cc nL own d rt w pc lv st μ o :=
  S_go (fun hE hS _ => okS_c (lkp_ok hE hl) hS) (fun _ _ _ _ _ _ _ _ _ _ _ _ _ _ _ _ _ _ _ hF hL _ kk => lv_iload hF.1 hF.2.1 hd (lkp_at hL hl) kk) k
theorem S_lload_n {f : Fin 4} {x : Int} (hd : decode cc pc = .ok (.lload_n f, 1)) (hl : lkp lv f = some (.inr (.inl x))) (k : Sim σ cc nL own d rt w (pc + 1) lv (.inr (.inl x) :: st) μ o) : Sim σ cc nL own d rt w pc lv st μ o :=
  S_go (fun hE hS _ => okS_c (lkp_ok hE hl) hS) (fun _ _ _ _ _ _ _ _ _ _ _ _ _ _ _ _ _ _ _ hF hL _ kk => lv_lload_n hF.1 hF.2.1 hd rfl (lkp_at hL hl) kk) k
theorem S_lload {i : Nat} {x : Int} (hd : decode cc pc = .ok (.lload i, 2)) (hl : lkp lv i = some (.inr (.inl x))) (k : Sim σ cc nL own d rt w (pc + 2) lv (.inr (.inl x) :: st) μ o) : Sim σ cc nL own d rt w pc lv st μ o :=
  S_go (fun hE hS _ => okS_c (lkp_ok hE hl) hS) (fun _ _ _ _ _ _ _ _ _ _ _ _ _ _ _ _ _ _ _ hF hL _ kk => lv_lload hF.1 hF.2.1 hd (lkp_at hL hl) kk) k
theorem S_aload_n {f : Fin 4} {x : Nat} (hd : decode cc pc = .ok (.aload_n f, 1)) (hl : lkp lv f = some (.inr (.inr x))) (k : Sim σ cc nL own d rt w (pc + 1) lv (.inr (.inr x) :: st) μ o) : Sim σ cc nL own d rt w pc lv st μ o :=
  S_go (fun hE hS _ => okS_c (lkp_ok hE hl) hS) (fun _ _ _ _ _ _ _ _ _ _ _ _ _ _ _ _ _ _ _ hF hL _ kk => lv_aload_n hF.1 hF.2.1 hd rfl (lkp_at hL hl) kk) k
theorem S_aload {i : Nat} {x : Nat} (hd : decode cc pc = .ok (.aload i, 2)) (hl : lkp lv i = some (.inr (.inr x))) (k : Sim σ cc nL own d rt w (pc + 2) lv (.inr (.inr x) :: st) μ o) : Sim σ cc nL own d rt w pc lv st μ o :=
  S_go (fun hE hS _ => okS_c (lkp_ok hE hl) hS) (fun _ _ _ _ _ _ _ _ _ _ _ _ _ _ _ _ _ _ _ hF hL _ kk => lv_aload hF.1 hF.2.1 hd (lkp_at hL hl) kk) k
/-! stores -/
theorem S_st {pc' : Nat} {lv' : List (Nat × mV)} {v : mV} (hok : okE lv → okV v → okE lv')
    (h : ∀ {kc nc : Nat} {Qe : State → Prop} {oe : Option mV × Mem} (p : Program) (l : Launch) (e : Env) (R : Room) (s : State) (m : MethodId) (args : Array Value) (below : List Frame) (meth : Method) (c : Code) (G : wC) (A : Nat → Prop) (H : Heap) (locs : List Loc) (ls : Array Slot) (Q : State → Prop),
      Fx σ cc nL own d rt oe G A kc nc Qe p l e R s m args below meth c → lv_has ls nL (cvL G lv) →
      (∀ ls' : Array Slot, lv_has ls' nL (cvL G lv') → W p l e R s m args below meth c H locs kc nc Q (F0 m pc' ls' (st.map (cv G)))) → W p l e R s m args below meth c H locs kc nc Q (F0 m pc ls (cv G v :: st.map (cv G))))
    (k : Sim σ cc nL own d rt w pc' lv' st μ o) : Sim σ cc nL own d rt w pc lv (v :: st) μ o :=
  fun a ha hE hS hM kc nc Qe p l e R s m args below meth c G A H locs ls hF hl hW => h p l e R s m args below meth c G A H locs ls _ hF hl (fun ls' hl' => k a ha (hok hE (okS_h hS)) (okS_t hS) hM p l e R s m args below meth c G A H locs ls' hF hl' hW)
theorem S_istore_n {f : Fin 4} {x : Int} {lv' : List (Nat × mV)} (hd : decode cc pc = .ok (.istore_n f, 1)) (hn : Nat.blt f nL = true) (hl : sto lv f (.inl x) = lv') (k : Sim σ cc nL own d rt w (pc + 1) lv' st μ o) : Sim σ cc nL own d rt w pc lv (.inl x :: st) μ o :=
  S_st (fun hE hv => hl ▸ sto_ok hE hv) (fun _ _ _ _ _ _ _ _ _ _ G _ _ _ _ _ hF hL kk => lv_istore_n hF.1 hF.2.1 hd rfl hL (Nat.le_of_ble_eq_true hn) (by rw [← hl]; exact sto_cv G lv f (.inl x)) kk) k
theorem S_istore {i : Nat} {x : Int} {lv' : List (Nat × mV)} (hd : decode cc pc = .ok (.istore i, 2)) (hn : Nat.blt i nL = true) (hl : sto lv i (.inl x) = lv') (k : Sim σ cc nL own d rt w (pc + 2) lv' st μ o) : Sim σ cc nL own d rt w pc lv (.inl x :: st) μ o :=
  S_st (fun hE hv => hl ▸ sto_ok hE hv) (fun _ _ _ _ _ _ _ _ _ _ G _ _ _ _ _ hF hL kk => lv_istore hF.1 hF.2.1 hd hL (Nat.le_of_ble_eq_true hn) (by rw [← hl]; exact sto_cv G lv i (.inl x)) kk) k
theorem S_astore_n {f : Fin 4} {x : Nat} {lv' : List (Nat × mV)} (hd : decode cc pc = .ok (.astore_n f, 1)) (hn : Nat.blt f nL = true) (hl : sto lv f (.inr (.inr x)) = lv') (k : Sim σ cc nL own d rt w (pc + 1) lv' st μ o) : Sim σ cc nL own d rt w pc lv (.inr (.inr x) :: st) μ o :=
  S_st (fun hE hv => hl ▸ sto_ok hE hv) (fun _ _ _ _ _ _ _ _ _ _ G _ _ _ _ _ hF hL kk => lv_astore_n hF.1 hF.2.1 hd rfl hL (Nat.le_of_ble_eq_true hn) (by rw [← hl]; exact sto_cv G lv f (.inr (.inr x))) kk) k
theorem S_astore {i : Nat} {x : Nat} {lv' : List (Nat × mV)} (hd : decode cc pc = .ok (.astore i, 2)) (hn : Nat.blt i nL = true) (hl : sto lv i (.inr (.inr x)) = lv') (k : Sim σ cc nL own d rt w (pc + 2) lv' st μ o) : Sim σ cc nL own d rt w pc lv (.inr (.inr x) :: st) μ o :=
  S_st (fun hE hv => hl ▸ sto_ok hE hv) (fun _ _ _ _ _ _ _ _ _ _ G _ _ _ _ _ hF hL kk => lv_astore hF.1 hF.2.1 hd hL (Nat.le_of_ble_eq_true hn) (by rw [← hl]; exact sto_cv G lv i (.inr (.inr x))) kk) k
theorem S_lstore_n {f : Fin 4} {x : Int} {lv' : List (Nat × mV)} (hd : decode cc pc = .ok (.lstore_n f, 1)) (hn : Nat.blt (f + 1) nL = true) (hl : stoL lv f (.inr (.inl x)) = lv') (k : Sim σ cc nL own d rt w (pc + 1) lv' st μ o) : Sim σ cc nL own d rt w pc lv (.inr (.inl x) :: st) μ o :=
  S_st (fun hE hv => hl ▸ stoL_ok hE hv) (fun _ _ _ _ _ _ _ _ _ _ G _ _ _ _ _ hF hL kk => lv_lstore_n hF.1 hF.2.1 hd rfl hL (Nat.le_of_ble_eq_true hn) (by rw [← hl]; exact stoL_cv G lv f (.inr (.inl x))) kk) k
theorem S_lstore {i : Nat} {x : Int} {lv' : List (Nat × mV)} (hd : decode cc pc = .ok (.lstore i, 2)) (hn : Nat.blt (i + 1) nL = true) (hl : stoL lv i (.inr (.inl x)) = lv') (k : Sim σ cc nL own d rt w (pc + 2) lv' st μ o) : Sim σ cc nL own d rt w pc lv (.inr (.inl x) :: st) μ o :=
  S_st (fun hE hv => hl ▸ stoL_ok hE hv) (fun _ _ _ _ _ _ _ _ _ _ G _ _ _ _ _ hF hL kk => lv_lstore hF.1 hF.2.1 hd hL (Nat.le_of_ble_eq_true hn) (by rw [← hl]; exact stoL_cv G lv i (.inr (.inl x))) kk) k
theorem lkp_place {lv : List (Nat × mV)} {i : Nat} {v : mV} (h : lkp lv i = some v) (G : wC) : ∃ k : Nat, (cvL G lv)[k]? = some (i, cv G v) := by
  obtain ⟨k, hk⟩ := List.getElem?_of_mem (lkp_in h)
  exact ⟨k, by unfold cvL; rw [List.getElem?_map, hk]; rfl⟩
theorem S_iinc {i : Nat} {n x : Int} {F : Int → Option α} (hd : decode cc pc = .ok (.iinc i n, 3)) (hn : okIb n = true) (hi : Nat.blt i nL = true) (hx : lkp lv i = some (.inl x)) {lv' : Int → List (Nat × mV)} (hl : ∀ y : Int, sto lv i (.inl y) = lv' y)
    (k : ∀ y : Int, Sim σ cc nL own d rt w (pc + 3) (lv' y) st μ (F y)) : Sim σ cc nL own d rt w pc lv st μ (mlet (w32 (x + n)) F) := by
  intro a ha hE hS hM kc nc Qe p l e R s m args below meth c G A H locs ls hF hL hW
  obtain ⟨q, hq⟩ := lkp_place hx G
  refine lv_iinc hF.1 hF.2.1 hd hL hq (n_add (lkp_ok hE hx) (okIb_ok hn)) (Nat.le_of_ble_eq_true hi) (sto_cv G lv i (.inl (w32 (x + n)))) (fun ls' hL' => ?_)
  rw [hl] at hL'
  exact k _ a ha (hl _ ▸ sto_ok hE (w32_ok _)) hS hM p l e R s m args below meth c G A H locs ls' hF hL' hW
/-! arithmetic -/
theorem S_iadd {x y : Int} (hd : decode cc pc = .ok (.iadd, 1)) (k : Sim σ cc nL own d rt w (pc + 1) lv (.inl (w32 (x + y)) :: st) μ o) : Sim σ cc nL own d rt w pc lv (.inl y :: .inl x :: st) μ o :=
  S_go (fun _ hS _ => okS_i (w32_ok _) (okS_t (okS_t hS))) (fun _ _ _ _ _ _ _ _ _ _ _ _ _ _ _ _ _ hS _ hF _ _ kk => lv_iadd hF.1 hF.2.1 hd (by rw [n_add (okS_h (okS_t hS)) (okS_h hS)]; exact kk)) k
theorem S_isub {x y : Int} (hd : decode cc pc = .ok (.isub, 1)) (k : Sim σ cc nL own d rt w (pc + 1) lv (.inl (w32 (x - y)) :: st) μ o) : Sim σ cc nL own d rt w pc lv (.inl y :: .inl x :: st) μ o :=
  S_go (fun _ hS _ => okS_i (w32_ok _) (okS_t (okS_t hS))) (fun _ _ _ _ _ _ _ _ _ _ _ _ _ _ _ _ _ hS _ hF _ _ kk => lv_isub hF.1 hF.2.1 hd (by rw [n_sub (okS_h (okS_t hS)) (okS_h hS)]; exact kk)) k
theorem S_imul {x y : Int} (hd : decode cc pc = .ok (.imul, 1)) (k : Sim σ cc nL own d rt w (pc + 1) lv (.inl (w32 (x * y)) :: st) μ o) : Sim σ cc nL own d rt w pc lv (.inl y :: .inl x :: st) μ o :=
  S_go (fun _ hS _ => okS_i (w32_ok _) (okS_t (okS_t hS))) (fun _ _ _ _ _ _ _ _ _ _ _ _ _ _ _ _ _ hS _ hF _ _ kk => lv_imul hF.1 hF.2.1 hd (by rw [n_mul (okS_h (okS_t hS)) (okS_h hS)]; exact kk)) k
theorem ne0 {y : Int} (hy : okI y) (h : ¬ y = 0) : ¬ Int32.ofInt y = 0 := fun e => h ((n_eq hy ok0).mp (e.trans n0))
theorem ne0L {y : Int} (hy : okL y) (h : ¬ y = 0) : ¬ Int64.ofInt y = 0 := fun e => h ((n_leq hy (okI_L ok0)).mp (e.trans n0L))
theorem S_idiv {x y : Int} (hd : decode cc pc = .ok (.idiv, 1)) (k : Sim σ cc nL own d rt w (pc + 1) lv (.inl (w32 (x.tdiv y)) :: st) μ o) : Sim σ cc nL own d rt w pc lv (.inl y :: .inl x :: st) μ (if ¬ y = 0 then o else none) :=
  S_g (fun h => S_go (fun _ hS _ => okS_i (w32_ok _) (okS_t (okS_t hS))) (fun _ _ _ _ _ _ _ _ _ _ _ _ _ _ _ _ _ hS _ hF _ _ kk => lv_idiv hF.1 hF.2.1 hd (ne0 (okS_h hS) h) (by rw [n_div (okS_h (okS_t hS)) (okS_h hS)]; exact kk)) k)
theorem S_irem {x y : Int} (hd : decode cc pc = .ok (.irem, 1)) (k : Sim σ cc nL own d rt w (pc + 1) lv (.inl (x.tmod y) :: st) μ o) : Sim σ cc nL own d rt w pc lv (.inl y :: .inl x :: st) μ (if ¬ y = 0 then o else none) :=
  S_g (fun h => S_go (fun _ hS _ => okS_i (tmod_okI (x := x) (okS_h (okS_t hS))) (okS_t (okS_t hS))) (fun _ _ _ _ _ _ _ _ _ _ _ _ _ _ _ _ _ hS _ hF _ _ kk => lv_irem hF.1 hF.2.1 hd (ne0 (okS_h hS) h) (by rw [n_rem (okS_h (okS_t hS)) (okS_h hS)]; exact kk)) k)
theorem S_iand {x y : Int} (hd : decode cc pc = .ok (.iand, 1)) (k : Sim σ cc nL own d rt w (pc + 1) lv (.inl (band x y) :: st) μ o) : Sim σ cc nL own d rt w pc lv (.inl y :: .inl x :: st) μ o :=
  S_go (fun _ hS _ => okS_i (toI_ok _) (okS_t (okS_t hS))) (fun _ _ _ _ _ _ _ _ _ _ _ _ _ _ _ _ _ _ _ hF _ _ kk => lv_iand hF.1 hF.2.1 hd (by rw [n_toI (_ &&& _)]; exact kk)) k
theorem S_ior {x y : Int} (hd : decode cc pc = .ok (.ior, 1)) (k : Sim σ cc nL own d rt w (pc + 1) lv (.inl (bor x y) :: st) μ o) : Sim σ cc nL own d rt w pc lv (.inl y :: .inl x :: st) μ o :=
  S_go (fun _ hS _ => okS_i (toI_ok _) (okS_t (okS_t hS))) (fun _ _ _ _ _ _ _ _ _ _ _ _ _ _ _ _ _ _ _ hF _ _ kk => lv_ior hF.1 hF.2.1 hd (by rw [n_toI (_ ||| _)]; exact kk)) k
theorem S_ixor {x y : Int} (hd : decode cc pc = .ok (.ixor, 1)) (k : Sim σ cc nL own d rt w (pc + 1) lv (.inl (bxor x y) :: st) μ o) : Sim σ cc nL own d rt w pc lv (.inl y :: .inl x :: st) μ o :=
  S_go (fun _ hS _ => okS_i (toI_ok _) (okS_t (okS_t hS))) (fun _ _ _ _ _ _ _ _ _ _ _ _ _ _ _ _ _ _ _ hF _ _ kk => lv_ixor hF.1 hF.2.1 hd (by rw [n_toI (_ ^^^ _)]; exact kk)) k
theorem S_ishl {x y : Int} (hd : decode cc pc = .ok (.ishl, 1)) (k : Sim σ cc nL own d rt w (pc + 1) lv (.inl (bshl x y) :: st) μ o) : Sim σ cc nL own d rt w pc lv (.inl y :: .inl x :: st) μ o :=
  S_go (fun _ hS _ => okS_i (toI_ok _) (okS_t (okS_t hS))) (fun _ _ _ _ _ _ _ _ _ _ _ _ _ _ _ _ _ _ _ hF _ _ kk => lv_ishl hF.1 hF.2.1 hd (by rw [n_toI (_ <<< _)]; exact kk)) k
theorem S_ishr {x y : Int} (hd : decode cc pc = .ok (.ishr, 1)) (k : Sim σ cc nL own d rt w (pc + 1) lv (.inl (bshr x y) :: st) μ o) : Sim σ cc nL own d rt w pc lv (.inl y :: .inl x :: st) μ o :=
  S_go (fun _ hS _ => okS_i (toI_ok _) (okS_t (okS_t hS))) (fun _ _ _ _ _ _ _ _ _ _ _ _ _ _ _ _ _ _ _ hF _ _ kk => lv_ishr hF.1 hF.2.1 hd (by rw [n_toI (_ >>> _)]; exact kk)) k
theorem S_ladd {x y : Int} (hd : decode cc pc = .ok (.ladd, 1)) (k : Sim σ cc nL own d rt w (pc + 1) lv (.inr (.inl (w64 (x + y))) :: st) μ o) : Sim σ cc nL own d rt w pc lv (.inr (.inl y) :: .inr (.inl x) :: st) μ o :=
  S_go (fun _ hS _ => okS_c (v := .inr (.inl _)) (w64_ok _) (okS_t (okS_t hS))) (fun _ _ _ _ _ _ _ _ _ _ _ _ _ _ _ _ _ hS _ hF _ _ kk => lv_ladd hF.1 hF.2.1 hd (by rw [n_ladd (okS_h (okS_t hS)) (okS_h hS)]; exact kk)) k
theorem S_lmul {x y : Int} (hd : decode cc pc = .ok (.lmul, 1)) (k : Sim σ cc nL own d rt w (pc + 1) lv (.inr (.inl (w64 (x * y))) :: st) μ o) : Sim σ cc nL own d rt w pc lv (.inr (.inl y) :: .inr (.inl x) :: st) μ o :=
  S_go (fun _ hS _ => okS_c (v := .inr (.inl _)) (w64_ok _) (okS_t (okS_t hS))) (fun _ _ _ _ _ _ _ _ _ _ _ _ _ _ _ _ _ hS _ hF _ _ kk => lv_lmul hF.1 hF.2.1 hd (by rw [n_lmul (okS_h (okS_t hS)) (okS_h hS)]; exact kk)) k
theorem S_ldiv {x y : Int} (hd : decode cc pc = .ok (.ldiv, 1)) (k : Sim σ cc nL own d rt w (pc + 1) lv (.inr (.inl (w64 (x.tdiv y))) :: st) μ o) : Sim σ cc nL own d rt w pc lv (.inr (.inl y) :: .inr (.inl x) :: st) μ (if ¬ y = 0 then o else none) :=
  S_g (fun h => S_go (fun _ hS _ => okS_c (v := .inr (.inl _)) (w64_ok _) (okS_t (okS_t hS))) (fun _ _ _ _ _ _ _ _ _ _ _ _ _ _ _ _ _ hS _ hF _ _ kk => lv_ldiv hF.1 hF.2.1 hd (ne0L (okS_h hS) h) (by rw [n_ldiv (okS_h (okS_t hS)) (okS_h hS)]; exact kk)) k)
theorem S_lrem {x y : Int} (hd : decode cc pc = .ok (.lrem, 1)) (k : Sim σ cc nL own d rt w (pc + 1) lv (.inr (.inl (x.tmod y)) :: st) μ o) : Sim σ cc nL own d rt w pc lv (.inr (.inl y) :: .inr (.inl x) :: st) μ (if ¬ y = 0 then o else none) :=
  S_g (fun h => S_go (fun _ hS _ => okS_c (v := .inr (.inl _)) (tmod_okL (x := x) (okS_h (okS_t hS))) (okS_t (okS_t hS))) (fun _ _ _ _ _ _ _ _ _ _ _ _ _ _ _ _ _ hS _ hF _ _ kk => lv_lrem hF.1 hF.2.1 hd (ne0L (okS_h hS) h) (by rw [n_lrem (okS_h (okS_t hS)) (okS_h hS)]; exact kk)) k)
theorem S_lcmp {x y : Int} (hd : decode cc pc = .ok (.lcmp, 1)) (k : Sim σ cc nL own d rt w (pc + 1) lv (.inl (lcmpZ x y) :: st) μ o) : Sim σ cc nL own d rt w pc lv (.inr (.inl y) :: .inr (.inl x) :: st) μ o :=
  S_go (fun _ hS _ => okS_i (lcmp_ok _ _) (okS_t (okS_t hS))) (fun _ _ _ _ _ _ _ _ _ _ _ _ _ _ _ _ _ hS _ hF _ _ kk => W.lcmp hF.1 hF.2.1 hd (by rw [n_lcmp (okS_h (okS_t hS)) (okS_h hS)]; exact kk)) k
theorem S_i2l {x : Int} (hd : decode cc pc = .ok (.i2l, 1)) (k : Sim σ cc nL own d rt w (pc + 1) lv (.inr (.inl x) :: st) μ o) : Sim σ cc nL own d rt w pc lv (.inl x :: st) μ o :=
  S_go (fun _ hS _ => okS_c (v := .inr (.inl _)) (okI_L (okS_h hS)) (okS_t hS)) (fun _ _ _ _ _ _ _ _ _ _ _ _ _ _ _ _ _ hS _ hF _ _ kk => lv_i2l hF.1 hF.2.1 hd (n_i2l (okS_h hS)) kk) k
theorem S_l2i {x : Int} (hd : decode cc pc = .ok (.l2i, 1)) (k : Sim σ cc nL own d rt w (pc + 1) lv (.inl (w32 x) :: st) μ o) : Sim σ cc nL own d rt w pc lv (.inr (.inl x) :: st) μ o :=
  S_go (fun _ hS _ => okS_i (w32_ok _) (okS_t hS)) (fun _ _ _ _ _ _ _ _ _ _ _ _ _ _ _ _ _ hS _ hF _ _ kk => lv_l2i hF.1 hF.2.1 hd (n_l2i (okS_h hS)) kk) k
theorem S_i2b {x : Int} (hd : decode cc pc = .ok (.i2b, 1)) (k : Sim σ cc nL own d rt w (pc + 1) lv (.inl (w8 x) :: st) μ o) : Sim σ cc nL own d rt w pc lv (.inl x :: st) μ o :=
  S_go (fun _ hS _ => okS_i (okB_I (w8_ok _)) (okS_t hS)) (fun _ _ _ _ _ _ _ _ _ _ _ _ _ _ _ _ _ hS _ hF _ _ kk => lv_i2b hF.1 hF.2.1 hd (n_i2b (okS_h hS)) kk) k
/-! the stack -/
theorem S_dup {v : mV} (hd : decode cc pc = .ok (.dup, 1)) (hv : mcat v = 1) (k : Sim σ cc nL own d rt w (pc + 1) lv (v :: v :: st) μ o) : Sim σ cc nL own d rt w pc lv (v :: st) μ o :=
  S_go (fun _ hS _ => okS_c (okS_h hS) hS) (fun _ _ _ _ _ _ _ _ _ _ _ _ _ _ _ _ _ _ _ hF _ _ kk => lv_dup hF.1 hF.2.1 hd (by rw [mcat_cv]; exact hv) kk) k
theorem S_dup2 {u v : mV} (hd : decode cc pc = .ok (.dup2, 1)) (hu : mcat u = 1) (hv : mcat v = 1) (k : Sim σ cc nL own d rt w (pc + 1) lv (u :: v :: u :: v :: st) μ o) : Sim σ cc nL own d rt w pc lv (u :: v :: st) μ o :=
  S_go (fun _ hS _ => okS_c (okS_h hS) (okS_c (okS_h (okS_t hS)) hS)) (fun _ _ _ _ _ _ _ _ _ _ _ _ _ _ _ _ _ _ _ hF _ _ kk => lv_dup2_11 hF.1 hF.2.1 hd (by rw [mcat_cv]; exact hu) (by rw [mcat_cv]; exact hv) kk) k
theorem S_pop {v : mV} (hd : decode cc pc = .ok (.pop, 1)) (hv : mcat v = 1) (k : Sim σ cc nL own d rt w (pc + 1) lv st μ o) : Sim σ cc nL own d rt w pc lv (v :: st) μ o :=
  S_go (fun _ hS _ => okS_t hS) (fun _ _ _ _ _ _ _ _ _ _ _ _ _ _ _ _ _ _ _ hF _ _ kk => lv_pop hF.1 hF.2.1 hd (by rw [mcat_cv]; exact hv) kk) k
theorem S_goto {off : Int} {tgt : Nat} (hd : decode cc pc = .ok (.goto off, 3)) (ht : (pc : Int) + off = (tgt : Int)) (k : Sim σ cc nL own d rt w tgt lv st μ o) : Sim σ cc nL own d rt w pc lv st μ o :=
  S_go (fun _ hS _ => hS) (fun _ _ _ _ _ _ _ _ _ _ _ _ _ _ _ _ _ _ _ hF _ _ kk => lv_goto hF.1 hF.2.1 hd ht kk) k
theorem S_pc {pc' : Nat} (e : pc' = pc) (k : Sim σ cc nL own d rt w pc lv st μ o) : Sim σ cc nL own d rt w pc' lv st μ o := e ▸ k
end ROWS
