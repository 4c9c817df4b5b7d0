section ROWS3
variable {σ : Scr} {α : Type} {cc : ByteArray} {nL : Nat} {own : String} {d : Nat} {rt : Option FieldType} {w : α → Option mV × Mem} {pc : Nat} {lv : List (Nat × mV)} {st : List mV} {μ : Mem} {o X Y : Option α}
theorem nm3 {ci : Nat} (h : ci < 2) : ∀ a, a < nF ci → ∀ b, b < nF ci → a ≠ b → (clT ci a).2.1 ≠ (clT ci b).2.1 := by
  match ci, h with
  | 0, _ => exact nmX0
  | 1, _ => exact nmX1
def tyT (ci : Nat) : Nat → FieldType := if ci = 0 then tyX0 else tyX1
theorem ty3 {ci : Nat} (h : ci < 2) : ∀ k, k < nF ci → parseFieldDescriptor (clT ci k).2.2.1 = some (tyT ci k) := by
  match ci, h with
  | 0, _ => exact tyX0_ok
  | 1, _ => exact tyX1_ok
theorem W_put {ci k idx c0 : Nat} {z : Int} {v : Value} {rest : List Value} (hd : decode cc pc = .ok (.putfield idx, 3)) (hkd : kd c0 = .inr ci) (hk : k < nF ci) (hf : FLk own idx ci k) (hfin : (clT ci k).2.2.2 = false) (hv : v = if fk ci k = 0 then .int (Int32.ofInt z) else .long (Int64.ofInt z)) (h01 : fk ci k = 0 ∨ fk ci k = 1) {ty : FieldType} (hty : tyT ci k = ty) (hn : narrow ty v = v) (hfit : fits ty v = true)
    {kc nc : Nat} {Qe : State → Prop} {oe : Option mV × Mem} {p : Program} {l : Launch} {e : Env} {R : Room} {s : State} {m : MethodId} {args : Array Value} {below : List Frame} {meth : Method} {c : Code} {G : wC} {A : Nat → Prop} {H : Heap} {locs : List Loc} {ls : Array Slot} {Q : State → Prop}
    (hF : Fx σ cc nL own d rt oe G A kc nc Qe p l e R s m args below meth c) (hW : Wd G μ A s.heap H locs) (kk : ∀ (H1 : Heap) (locs1 : List Loc), Wd G (wr μ c0 k z) A s.heap H1 locs1 → W p l e R s m args below meth c H1 locs1 kc nc Q (F0 m (pc + 3) ls rest)) : W p l e R s m args below meth c H locs kc nc Q (F0 m pc ls (v :: .ref (G.2.2 c0) :: rest)) := by
  obtain ⟨hx, hb, hml, ho, hg, hn0, hlk, hrt, hK, hA, hfr, hlo, hsc, hkc, hnc, hend⟩ := hF
  have hci := kd_ci hkd
  have he := (ws_at G μ (kd_lt hkd)).trans (by rw [cE_obj hkd])
  have hset : (ws G μ).set c0 (G.2.2 c0, .inr (ci, ((List.range (nF ci)).map (fV G μ c0 ci)).set k v)) = ws G (wr μ c0 k z) := ws_set (kd_lt hkd) (by rw [cE_obj hkd, hv, fV_set h01]) (fun c' hc' => cE_wr hc')
  have fin : ∀ (H1 : Heap) (locs1 : List Loc), va_P G.1 cls3 ((ws G μ).set c0 (G.2.2 c0, .inr (ci, ((List.range (nF ci)).map (fV G μ c0 ci)).set k v))) H1 → va_D A ((ws G μ).set c0 (G.2.2 c0, .inr (ci, ((List.range (nF ci)).map (fV G μ c0 ci)).set k v))) → va_S A s.heap H1 locs1 → W p l e R s m args below meth c H1 locs1 kc nc Q (F0 m (pc + 3) ls rest) := fun H1 locs1 hP hD hS => by
    rw [hset] at hP hD
    exact kk H1 locs1 ⟨hP, hD, hS⟩
  have hd2 : parseFieldDescriptor (clT ci k).2.2.1 = some ty := by rw [ty3 hci k hk, hty]
  rcases hf with hf | ⟨host, hf⟩
  · exact va_put hx hb hg (ci_ws hci) (tyT ci) (ty3 hci) (nm3 hci) ho hK hW.1 hW.2.1 hW.2.2 c0 he (ci_cls hci) k hk (hg _ hf) (fun x h => h) hfin hd2 hn hfit (by simp; exact hk) hd fin
  · exact va_putN hx hb hg (ci_ws hci) (tyT ci) (ty3 hci) (nm3 hci) ho hK hW.1 hW.2.1 hW.2.2 c0 he (ci_cls hci) k hk (va_Nw.use (ns_on hf) (hn0 _ hf)) (fun x h => h) hfin hd2 hn hfit (by simp; exact hk) hd fin
theorem mk_I {c ci k : Nat} (h : kd c = .inr ci) (hf : fk ci k = 0) : mk c k = 0 := by unfold mk; rw [h]; simp only [hf]; rfl
theorem mk_L {c ci k : Nat} (h : kd c = .inr ci) (hf : fk ci k = 1) : mk c k = 1 := by unfold mk; rw [h]; simp only [hf]; rfl
theorem mk_A {c n k : Nat} (h : kd c = .inl (0, n)) : mk c k = 0 := by unfold mk; rw [h]; rfl
theorem mk_B {c n k : Nat} (h : kd c = .inl (1, n)) : mk c k = 2 := by unfold mk; rw [h]; rfl
theorem S_putI {ci k idx c0 : Nat} {z : Int} {F : Mem → Option α} (hd : decode cc pc = .ok (.putfield idx, 3)) (hkd : kd c0 = .inr ci) (hf : FLk own idx ci k) (hk : Nat.blt k (nF ci) = true) (hfk : fk ci k = 0) (hfin : (clT ci k).2.2.2 = false) (hty : tyT ci k = .int) (kk : ∀ μ' : Mem, Sim σ cc nL own d rt w (pc + 3) lv st μ' (F μ')) : Sim σ cc nL own d rt w pc lv (.inl z :: .inr (.inr c0) :: st) μ (mlet (wr μ c0 k z) F) := by
  intro a ha hE hS hM kc nc Qe p l e R s m args below meth c G A H locs ls hF hL hW
  exact W_put hd hkd (Nat.le_of_ble_eq_true hk) hf hfin (z := z) (by rw [if_pos hfk]; rfl) (Or.inl hfk) hty rfl rfl hF hW (fun H1 locs1 hW1 => kk _ a ha hE (okS_t (okS_t hS)) (okM_wr hM (by rw [mk_I hkd hfk]; exact okS_h hS)) p l e R s m args below meth c G A H1 locs1 ls hF hL hW1)
theorem S_putL {ci k idx c0 : Nat} {z : Int} {F : Mem → Option α} (hd : decode cc pc = .ok (.putfield idx, 3)) (hkd : kd c0 = .inr ci) (hf : FLk own idx ci k) (hk : Nat.blt k (nF ci) = true) (hfk : fk ci k = 1) (hfin : (clT ci k).2.2.2 = false) (hty : tyT ci k = .long) (kk : ∀ μ' : Mem, Sim σ cc nL own d rt w (pc + 3) lv st μ' (F μ')) : Sim σ cc nL own d rt w pc lv (.inr (.inl z) :: .inr (.inr c0) :: st) μ (mlet (wr μ c0 k z) F) := by
  intro a ha hE hS hM kc nc Qe p l e R s m args below meth c G A H locs ls hF hL hW
  exact W_put hd hkd (Nat.le_of_ble_eq_true hk) hf hfin (z := z) (by rw [if_neg (by omega)]; rfl) (Or.inr hfk) hty rfl rfl hF hW (fun H1 locs1 hW1 => kk _ a ha hE (okS_t (okS_t hS)) (okM_wr hM (by rw [mk_L hkd hfk]; exact okS_h hS)) p l e R s m args below meth c G A H1 locs1 ls hF hL hW1)
/-! arrays -/
theorem kd_ltA {G : wC} {c t n : Nat} (h : kd c = .inl (t, n)) (hc : c < 64) : (ws G μ)[c]? = some (G.2.2 c, .inl (G.2.1 t, n, aC G μ c t)) := (ws_at G μ hc).trans (by rw [cE_arr h])
theorem S_iald {c0 n : Nat} {i N : Int} (hd : decode cc pc = .ok (.iaload, 1)) (hkd : kd c0 = .inl (0, n)) (hc : c0 < 64) (hN : (n : Int) = N) (kk : Sim σ cc nL own d rt w (pc + 1) lv (.inl (μ c0 i.toNat) :: st) μ o) : Sim σ cc nL own d rt w pc lv (.inl i :: .inr (.inr c0) :: st) μ (if 0 ≤ i ∧ i < N then o else none) :=
  S_g (fun hi => S_go (fun _ hS hM => okS_i (okM_A hM hkd) (okS_t (okS_t hS))) (fun _ _ _ _ _ _ _ _ _ _ _ _ _ _ _ _ _ hS _ hF _ hW k9 => by
    subst hN
    exact va_iald hF.1 hF.2.1 hF.2.2.2.2.2.2.2.2.1 hW.1 c0 0 (kd_ltA hkd hc) rfl (n_in (okS_h hS) hi.1 hi.2) hd (by rw [n_clamp (okS_h hS) hi.1]; exact k9)) kk)
theorem S_bald {c0 n : Nat} {i N : Int} (hd : decode cc pc = .ok (.baload, 1)) (hkd : kd c0 = .inl (1, n)) (hc : c0 < 64) (hN : (n : Int) = N) (kk : Sim σ cc nL own d rt w (pc + 1) lv (.inl (μ c0 i.toNat) :: st) μ o) : Sim σ cc nL own d rt w pc lv (.inl i :: .inr (.inr c0) :: st) μ (if 0 ≤ i ∧ i < N then o else none) :=
  S_g (fun hi => S_go (fun _ hS hM => okS_i (okB_I (okM_B hM hkd)) (okS_t (okS_t hS))) (fun _ _ _ _ _ _ _ _ _ _ _ _ _ _ _ _ _ hS _ hF _ hW k9 => by
    subst hN
    exact va_bald hF.1 hF.2.1 hF.2.2.2.2.2.2.2.2.1 hW.1 c0 1 (kd_ltA hkd hc) rfl (n_in (okS_h hS) hi.1 hi.2) hd (by rw [n_clamp (okS_h hS) hi.1]; exact k9)) kk)
theorem aC_wr {G : wC} {c k : Nat} {v : Int} {t : Nat} (ht : t < 2) : aC G (wr μ c k v) c t = .inl (upd (fun j => Int32.ofInt (μ c j)) k (Int32.ofInt v)) := by
  unfold aC
  rw [if_pos ht]
  congr 1
  funext j
  unfold wr upd
  by_cases e : j = k
  · rw [if_pos ⟨rfl, e⟩, if_pos e]
  · rw [if_neg (fun q => e q.2), if_neg e]
theorem ws_wr {G : wC} {c k t n : Nat} {v : Int} (hkd : kd c = .inl (t, n)) (hc : c < 64) (ht : t < 2) : (ws G μ).set c (G.2.2 c, .inl (G.2.1 t, n, .inl (upd (fun j => Int32.ofInt (μ c j)) k (Int32.ofInt v)))) = ws G (wr μ c k v) :=
  ws_set hc (by rw [cE_arr hkd, aC_wr ht]) (fun c' hc' => cE_wr hc')
theorem S_iast {c0 n : Nat} {i v N : Int} {F : Mem → Option α} (hd : decode cc pc = .ok (.iastore, 1)) (hkd : kd c0 = .inl (0, n)) (hc : c0 < 64) (hN : (n : Int) = N) (kk : ∀ μ' : Mem, Sim σ cc nL own d rt w (pc + 1) lv st μ' (F μ')) : Sim σ cc nL own d rt w pc lv (.inl v :: .inl i :: .inr (.inr c0) :: st) μ (if 0 ≤ i ∧ i < N then mlet (wr μ c0 i.toNat v) F else none) := S_g (fun hi => by
  intro a ha hE hS hM kc nc Qe p l e R s m args below meth c G A H locs ls hF hL hW
  subst hN
  refine va_iast hF.1 hF.2.1 hF.2.2.2.2.2.2.2.2.1 hW.1 hW.2.1 hW.2.2 c0 0 (kd_ltA hkd hc) rfl (n_in (okS_h (okS_t hS)) hi.1 hi.2) hd (fun H1 locs1 hP hD hS1 => ?_)
  rw [n_clamp (okS_h (okS_t hS)) hi.1] at hP hD
  have e9 := ws_wr (G := G) (μ := μ) (k := i.toNat) (v := v) hkd hc (by decide)
  rw [e9] at hP hD
  exact kk _ a ha hE (okS_t (okS_t (okS_t hS))) (okM_wr hM (by rw [mk_A hkd]; exact okS_h hS)) p l e R s m args below meth c G A H1 locs1 ls hF hL ⟨hP, hD, hS1⟩)
theorem nar_b {v : Int} (hv : okI v) : vp_nar .byte (Int32.ofInt v) = Int32.ofInt (w8 v) := n_i2b hv
theorem S_bast {c0 n : Nat} {i v N : Int} {F : Mem → Option α} (hd : decode cc pc = .ok (.bastore, 1)) (hkd : kd c0 = .inl (1, n)) (hc : c0 < 64) (hN : (n : Int) = N) (kk : ∀ μ' : Mem, Sim σ cc nL own d rt w (pc + 1) lv st μ' (F μ')) : Sim σ cc nL own d rt w pc lv (.inl v :: .inl i :: .inr (.inr c0) :: st) μ (if 0 ≤ i ∧ i < N then mlet (wr μ c0 i.toNat (w8 v)) F else none) := S_g (fun hi => by
  intro a ha hE hS hM kc nc Qe p l e R s m args below meth c G A H locs ls hF hL hW
  subst hN
  refine va_bast hF.1 hF.2.1 hF.2.2.2.2.2.2.2.2.1 hW.1 hW.2.1 hW.2.2 c0 1 (kd_ltA hkd hc) rfl (n_in (okS_h (okS_t hS)) hi.1 hi.2) hd (fun H1 locs1 hP hD hS1 => ?_)
  rw [n_clamp (okS_h (okS_t hS)) hi.1, nar_b (okS_h hS)] at hP hD
  have e9 := ws_wr (G := G) (μ := μ) (k := i.toNat) (v := w8 v) hkd hc (by decide)
  rw [e9] at hP hD
  exact kk _ a ha hE (okS_t (okS_t (okS_t hS))) (okM_wr hM (by rw [mk_B hkd]; exact w8_ok v)) p l e R s m args below meth c G A H1 locs1 ls hF hL ⟨hP, hD, hS1⟩)
theorem S_alen {c0 t n : Nat} {N : Int} (hd : decode cc pc = .ok (.arraylength, 1)) (hkd : kd c0 = .inl (t, n)) (hc : c0 < 64) (ht : t < 4) (hN : (n : Int) = N) (hok : okIb N = true) (kk : Sim σ cc nL own d rt w (pc + 1) lv (.inl N :: st) μ o) : Sim σ cc nL own d rt w pc lv (.inr (.inr c0) :: st) μ o :=
  S_go (fun _ hS _ => okS_i (okIb_ok hok) (okS_t hS)) (fun _ _ _ _ _ _ _ _ _ _ G _ _ _ _ _ _ hS _ hF _ hW k9 => by
    have e9 : ∃ ty, (tys G)[t]? = some (G.2.1 t, ty) := by
      match t, ht with
      | 0, _ => exact ⟨_, rfl⟩
      | 1, _ => exact ⟨_, rfl⟩
      | 2, _ => exact ⟨_, rfl⟩
      | 3, _ => exact ⟨_, rfl⟩
    obtain ⟨ty, hty⟩ := e9
    subst hN
    exact va_alen hF.1 hF.2.1 hF.2.2.2.2.2.2.2.2.1 hW.1 c0 t (kd_ltA hkd hc) hty rfl hd k9) kk
theorem S_aald {c0 t n c1 c2 : Nat} {i N : Int} {F : Nat → Option α} (hd : decode cc pc = .ok (.aaload, 1)) (hkd : kd c0 = .inl (t, n)) (hc : c0 < 64) (ht : t = 2 ∨ t = 3) (hN : (n : Int) = N) (h1 : c0 + 1 = c1) (h2 : c1 + n = c2) (kk : ∀ c' : Nat, c1 ≤ c' ∧ c' < c2 → Sim σ cc nL own d rt w (pc + 1) lv (.inr (.inr c') :: st) μ (F c')) : Sim σ cc nL own d rt w pc lv (.inl i :: .inr (.inr c0) :: st) μ (if 0 ≤ i ∧ i < N then mlet (c1 + i.toNat) F else none) := S_g (fun hi => by
  intro a ha hE hS hM kc nc Qe p l e R s m args below meth c G A H locs ls hF hL hW
  subst hN; subst h1; subst h2
  have hi2 := hi.2
  have hi1 := hi.1
  have hlt : i.toNat < n := by omega
  have hcell : H[G.2.2 c0]? = some (vp_cell (G.2.1 t) (n, aC G μ c0 t)) := hW.1 c0 _ (kd_ltA hkd hc)
  have hCell : vp_cell (G.2.1 t) (n, aC G μ c0 t) = arrV (G.2.1 t) n (fun j => .ref (G.2.2 (c0 + 1 + j))) := by
    unfold aC
    rw [if_neg (by omega)]
    rfl
  rw [hCell] at hcell
  have k9 := kk (c0 + 1 + i.toNat) ⟨by omega, by omega⟩ a ha hE (okS_c (v := .inr (.inr _)) trivial (okS_t (okS_t hS))) hM p l e R s m args below meth c G A H locs ls hF hL hW
  have e9 : ∃ ty : FieldType, ty.isReference = true ∧ ArrOfT s (G.2.1 t) ty := by
    rcases ht with rfl | rfl
    · exact ⟨.array .int, rfl, (hF.2.2.2.2.2.2.2.2.1.2 2 _ rfl).1⟩
    · exact ⟨.array .byte, rfl, (hF.2.2.2.2.2.2.2.2.1.2 3 _ rfl).1⟩
  obtain ⟨ty, hty, hAr⟩ := e9
  have hsz : (arrV (G.2.1 t) n (fun j => Value.ref (G.2.2 (c0 + 1 + j)))).slots.size = n := by simp [arrV]
  refine W.aald hF.1 hF.2.1 hcell (hAr _ _) hty (by simp [arrV]) (by rw [hsz]; exact n_in (okS_h hS) hi1 hi2) (v := .ref (G.2.2 (c0 + 1 + i.toNat))) ?_ rfl rfl hd k9
  rw [n_clamp (okS_h hS) hi1]
  simp [arrV, hlt])
/-! the law's script -/
theorem S_sld {i N : Int} (hd : decode cc pc = .ok (.iaload, 1)) (hN : (σ.1 : Int) = N) (kk : Sim σ cc nL own d rt w (pc + 1) lv (.inl (σ.2 i.toNat).toInt :: st) μ o) : Sim σ cc nL own d rt w pc lv (.inl i :: .inr (.inr 64) :: st) μ (if 0 ≤ i ∧ i < N then o else none) :=
  S_g (fun hi => S_go (fun _ hS _ => okS_i (toI_ok _) (okS_t (okS_t hS))) (fun _ _ _ _ _ _ _ _ _ _ _ _ _ _ _ _ _ hS _ hF _ hW k9 => by
    subst hN
    obtain ⟨hx, hb, hml, ho, hg, hn0, hlk, hrt, hK, hA, hfr, hlo, hsc, hkc, hnc, hend⟩ := hF
    refine va_sld hx hb hsc.1 hsc.2.1 hsc.2.2.1 hW.2.2 (n_in (okS_h hS) hi.1 hi.2) hd ?_
    rw [n_clamp (okS_h hS) hi.1, n_toI (σ.2 i.toNat)]
    exact k9) kk)
theorem S_slen (hd : decode cc pc = .ok (.arraylength, 1)) (kk : σ.1 ≤ 260 → Sim σ cc nL own d rt w (pc + 1) lv (.inl (σ.1 : Int) :: st) μ o) : Sim σ cc nL own d rt w pc lv (.inr (.inr 64) :: st) μ o := by
  intro a ha hE hS hM kc nc Qe p l e R s m args below meth c G A H locs ls hF hL hW
  have h260 := hF.2.2.2.2.2.2.2.2.2.2.2.2.1.2.2.2
  refine va_slen hF.1 hF.2.1 hF.2.2.2.2.2.2.2.2.2.2.2.2.1.1 hF.2.2.2.2.2.2.2.2.2.2.2.2.1.2.1 hF.2.2.2.2.2.2.2.2.2.2.2.2.1.2.2.1 hW.2.2 hd ?_
  exact kk h260 a ha hE (okS_i (by unfold okI; omega) (okS_t hS)) hM p l e R s m args below meth c G A H locs ls hF hL hW
/-! Math and copies -/
theorem S_mabs {x : Int} {idx : Nat} (hd : decode cc pc = .ok (.invokestatic idx, 3)) (hl : Cond.methodLink own idx Lib.Math.abs.name ∈ gd_tbl) (hs : Cond.static Lib.Math.abs.name ∈ gd_tbl) (hi : Cond.initialized "java/lang/Math" ∈ gd_tbl) (hcd : Cond.code Lib.Math.abs.name Lib.Math.abs.code 1 (some .int) ∈ gd_tbl) (hd1 : Nat.ble 1 d = true) (hcat : Nat.ble (st.map mcat).sum 20 = true) (kk : Sim σ cc nL own d rt w (pc + 3) lv (.inl (mabs x) :: st) μ o) : Sim σ cc nL own d rt w pc lv (.inl x :: st) μ o :=
  S_go (fun _ hS _ => okS_i (mabs_ok (okS_h hS)) (okS_t hS)) (fun _ _ _ _ _ _ _ _ _ _ G _ _ _ _ _ _ hS _ hF hL _ k9 => by
    obtain ⟨hx, hb, hml, ho, hg, hn0, hlk, hrt, hK, hA, hfr, hlo, hsc, hkc, hnc, hend⟩ := hF
    have h1 := Nat.le_of_ble_eq_true hd1
    have h2 := Nat.le_of_ble_eq_true hcat
    refine va_mabs hx hb (hml.trans hL.1.symm) ho (hg _ hl) (hg _ hs) (hg _ hi) (hg _ hcd) (by omega) ?_ hkc hnc hd ?_
    · rw [List.map_map, show ((fun v : Value => v.category) ∘ cv G) = mcat from funext (mcat_cv G)]; omega
    · have e9 : (if (0 : Int32) ≤ Int32.ofInt x then Int32.ofInt x else 0 - Int32.ofInt x) = Int32.ofInt (mabs x) := by
        unfold mabs
        rw [n0, n_sub ok0 (okS_h hS)]
        by_cases h : 0 ≤ x
        · rw [if_pos h, if_pos ((n_le ok0 (okS_h hS)).mpr h)]
        · rw [if_neg h, if_neg (fun q => h ((n_le ok0 (okS_h hS)).mp q))]
      rw [e9]
      exact k9) kk
theorem S_mmax {x y : Int} {idx : Nat} (hd : decode cc pc = .ok (.invokestatic idx, 3)) (hl : Cond.methodLink own idx Lib.Math.max.name ∈ gd_tbl) (hs : Cond.static Lib.Math.max.name ∈ gd_tbl) (hi : Cond.initialized "java/lang/Math" ∈ gd_tbl) (hcd : Cond.code Lib.Math.max.name Lib.Math.max.code 2 (some .int) ∈ gd_tbl) (hd1 : Nat.ble 1 d = true) (hcat : Nat.ble (st.map mcat).sum 20 = true) (kk : Sim σ cc nL own d rt w (pc + 3) lv (.inl (mmax x y) :: st) μ o) : Sim σ cc nL own d rt w pc lv (.inl y :: .inl x :: st) μ o :=
  S_go (fun _ hS _ => okS_i (mmax_ok (okS_h (okS_t hS)) (okS_h hS)) (okS_t (okS_t hS))) (fun _ _ _ _ _ _ _ _ _ _ G _ _ _ _ _ _ hS _ hF hL _ k9 => by
    obtain ⟨hx, hb, hml, ho, hg, hn0, hlk, hrt, hK, hA, hfr, hlo, hsc, hkc, hnc, hend⟩ := hF
    have h1 := Nat.le_of_ble_eq_true hd1
    have h2 := Nat.le_of_ble_eq_true hcat
    refine va_mmax hx hb (hml.trans hL.1.symm) ho (hg _ hl) (hg _ hs) (hg _ hi) (hg _ hcd) (by omega) ?_ hkc hnc hd ?_
    · rw [List.map_map, show ((fun v : Value => v.category) ∘ cv G) = mcat from funext (mcat_cv G)]; omega
    · have e9 : (if Int32.ofInt x < Int32.ofInt y then Int32.ofInt y else Int32.ofInt x) = Int32.ofInt (mmax x y) := by
        unfold mmax
        by_cases h : x < y
        · rw [if_pos h, if_pos ((n_lt (okS_h (okS_t hS)) (okS_h hS)).mpr h)]
        · rw [if_neg h, if_neg (fun q => h ((n_lt (okS_h (okS_t hS)) (okS_h hS)).mp q))]
      rw [e9]
      exact k9) kk
theorem S_mmin {x y : Int} {idx : Nat} (hd : decode cc pc = .ok (.invokestatic idx, 3)) (hl : Cond.methodLink own idx Lib.Math.min.name ∈ gd_tbl) (hs : Cond.static Lib.Math.min.name ∈ gd_tbl) (hi : Cond.initialized "java/lang/Math" ∈ gd_tbl) (hcd : Cond.code Lib.Math.min.name Lib.Math.min.code 2 (some .int) ∈ gd_tbl) (hd1 : Nat.ble 1 d = true) (hcat : Nat.ble (st.map mcat).sum 20 = true) (kk : Sim σ cc nL own d rt w (pc + 3) lv (.inl (mmin x y) :: st) μ o) : Sim σ cc nL own d rt w pc lv (.inl y :: .inl x :: st) μ o :=
  S_go (fun _ hS _ => okS_i (mmin_ok (okS_h (okS_t hS)) (okS_h hS)) (okS_t (okS_t hS))) (fun _ _ _ _ _ _ _ _ _ _ G _ _ _ _ _ _ hS _ hF hL _ k9 => by
    obtain ⟨hx, hb, hml, ho, hg, hn0, hlk, hrt, hK, hA, hfr, hlo, hsc, hkc, hnc, hend⟩ := hF
    have h1 := Nat.le_of_ble_eq_true hd1
    have h2 := Nat.le_of_ble_eq_true hcat
    refine va_mmin hx hb (hml.trans hL.1.symm) ho (hg _ hl) (hg _ hs) (hg _ hi) (hg _ hcd) (by omega) ?_ hkc hnc hd ?_
    · rw [List.map_map, show ((fun v : Value => v.category) ∘ cv G) = mcat from funext (mcat_cv G)]; omega
    · have e9 : (if Int32.ofInt y < Int32.ofInt x then Int32.ofInt y else Int32.ofInt x) = Int32.ofInt (mmin x y) := by
        unfold mmin
        by_cases h : y < x
        · rw [if_pos h, if_pos ((n_lt (okS_h hS) (okS_h (okS_t hS))).mpr h)]
        · rw [if_neg h, if_neg (fun q => h ((n_lt (okS_h hS) (okS_h (okS_t hS))).mp q))]
      rw [e9]
      exact k9) kk
theorem S_acopy {c0 c1 nA nB idx : Nat} {sp dp n N0 N1 : Int} {F : Mem → Option α} (hd : decode cc pc = .ok (.invokestatic idx, 3)) (hl : Cond.methodLink own idx arraycopyName ∈ gd_tbl) (hnat : Cond.native arraycopyName ∈ gd_tbl) (hs : Cond.static arraycopyName ∈ gd_tbl) (hi : Cond.initialized "java/lang/System" ∈ gd_tbl) (hk0 : kd c0 = .inl (0, nA)) (hc0 : c0 < 64) (hk1 : kd c1 = .inl (0, nB)) (hc1 : c1 < 64) (hN0 : (nA : Int) = N0) (hN1 : (nB : Int) = N1) (hd1 : Nat.ble 1 d = true) (hcat : Nat.ble (st.map mcat).sum 10 = true) (hw40 : nativeFrameWords "java/lang/System" "arraycopy" 5 + 11 ≤ 30)
    (kk : ∀ μ' : Mem, Sim σ cc nL own d rt w (pc + 3) lv st μ' (F μ')) : Sim σ cc nL own d rt w pc lv (.inl n :: .inl dp :: .inr (.inr c1) :: .inl sp :: .inr (.inr c0) :: st) μ (if 0 ≤ sp ∧ 0 ≤ dp ∧ 0 ≤ n ∧ sp + n ≤ N0 ∧ dp + n ≤ N1 then mlet (cpy μ c0 sp.toNat c1 dp.toNat n.toNat) F else none) := S_g (fun hg5 => by
  obtain ⟨g1, g2, g3, g4, g5⟩ := hg5
  intro a ha hE hS hM kc nc Qe p l e R s m args below meth c G A H locs ls hF hL hW
  subst hN0; subst hN1
  have hF' := hF
  obtain ⟨hx, hb, hml, ho, hg, hn0, hlk, hrt, hK, hA, hfr, hlo, hsc, hkc, hnc, hend⟩ := hF
  have h1 := Nat.le_of_ble_eq_true hd1
  have h2 := Nat.le_of_ble_eq_true hcat
  have hn := okS_h hS
  have hdp := okS_h (okS_t hS)
  have hsp := okS_h (okS_t (okS_t (okS_t hS)))
  have q : ∀ z : Int, okI z → 0 ≤ z → ¬ Int32.ofInt z < 0 := fun z hz h0 => by rw [n0, n_lt hz ok0]; omega
  refine va_copyi hx hb (hml.trans hL.1.symm) ho (hg _ hl) (hg _ hnat) (hg _ hs) (hg _ hi) hK hW.1 hW.2.1 hW.2.2 c0 c1 0 0 (kd_ltA hk0 hc0) (kd_ltA hk1 hc1) rfl rfl rfl (q sp hsp g1) (q dp hdp g2) (q n hn g3) ?_ ?_ (fun _ _ => rfl) (by omega) ?_ hd (fun H1 locs1 hP hD hS1 => ?_)
  · rw [n_clamp hsp g1, n_clamp hn g3]; omega
  · rw [n_clamp hdp g2, n_clamp hn g3]; omega
  · rw [List.map_map, show ((fun v : Value => v.category) ∘ cv G) = mcat from funext (mcat_cv G)]; omega
  · rw [n_clamp hsp g1, n_clamp hdp g2, n_clamp hn g3] at hP hD
    have e9 : (ws G μ).set c1 (G.2.2 c1, .inl (G.2.1 0, nB, .inl (va_cpy (fun j => Int32.ofInt (μ c0 j)) (fun j => Int32.ofInt (μ c1 j)) sp.toNat dp.toNat n.toNat))) = ws G (cpy μ c0 sp.toNat c1 dp.toNat n.toNat) := ws_set hc1 (by
        rw [cE_arr hk1]
        unfold aC
        rw [if_pos (by decide)]
        congr 4
        refine congrArg Sum.inl (funext fun j => ?_)
        unfold cpy va_cpy
        by_cases h : dp.toNat ≤ j ∧ j < dp.toNat + n.toNat
        · rw [if_pos h, if_pos ⟨rfl, h⟩]
        · rw [if_neg h, if_neg (fun q => h q.2)]) (fun c' hc' => cE_congr fun k => by
          unfold cpy
          rw [if_neg (fun q => hc' q.1)])
    rw [e9] at hP hD
    refine kk _ a ha hE (okS_t (okS_t (okS_t (okS_t (okS_t hS))))) (fun c' k' => ?_) p l e R s m args below meth c G A H1 locs1 ls hF' hL ⟨hP, hD, hS1⟩
    unfold cpy
    by_cases h : c' = c1 ∧ dp.toNat ≤ k' ∧ k' < dp.toNat + n.toNat
    · rw [if_pos h, h.1, mk_A hk1]; exact okM_A hM hk0
    · rw [if_neg h]; exact hM c' k')
end ROWS3
