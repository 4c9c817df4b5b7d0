/-! a new array filled -/
theorem K_start {D : va_G} {cl : List vw_C} {tys : List (ClassId × FieldType)} {s : State} {args : Array Value} (hK : va_K D cl tys s) (h : (Cond.arrayClass .int).before args s = true) : ∃ cA : ClassId, va_K D cl (tys ++ [(cA, .int)]) s := by
  obtain ⟨cA, kA, comp, h1, h2, h3⟩ := Cond.arrayClass_spec h
  refine ⟨cA, hK.1, fun k q hk => ?_⟩
  rcases List.mem_append.mp (List.mem_of_getElem? hk) with h4 | h4
  · obtain ⟨i, hi⟩ := List.getElem?_of_mem h4
    exact hK.2 i q hi
  · rw [List.mem_singleton.mp h4]
    exact ⟨fun n z => ⟨fun k h => (by cases h), kA, h2, comp, h3⟩, h1⟩
theorem K_startB {D : va_G} {cl : List vw_C} {tys : List (ClassId × FieldType)} {s : State} {args : Array Value} (hK : va_K D cl tys s) (h : (Cond.arrayClass .byte).before args s = true) : ∃ cA : ClassId, va_K D cl (tys ++ [(cA, .byte)]) s := by
  obtain ⟨cA, kA, comp, h1, h2, h3⟩ := Cond.arrayClass_spec h
  refine ⟨cA, hK.1, fun k q hk => ?_⟩
  rcases List.mem_append.mp (List.mem_of_getElem? hk) with h4 | h4
  · obtain ⟨i, hi⟩ := List.getElem?_of_mem h4
    exact hK.2 i q hi
  · rw [List.mem_singleton.mp h4]
    exact ⟨fun n z => ⟨fun k h => (by cases h), kA, h2, comp, h3⟩, h1⟩
def fl (f : Nat → Int32) (v : Int32) (i : Nat) : Nat → Int32 := fun k => if k < i then v else f k
theorem fl_0 (f : Nat → Int32) (v : Int32) : fl f v 0 = f := by funext k; unfold fl; rw [if_neg (by omega)]
theorem fl_s (f : Nat → Int32) (v : Int32) (i : Nat) : upd (fl f v i) i v = fl f v (i + 1) := by
  funext k
  by_cases h : k = i
  · subst h
    rw [pk_us]
    unfold fl
    rw [if_pos (by omega)]
  · rw [pk_un h]
    unfold fl
    by_cases h2 : k < i
    · rw [if_pos h2, if_pos (by omega)]
    · rw [if_neg h2, if_neg (by omega)]
set_option maxHeartbeats 4000000 in
theorem K_fill0 (l : Launch) (D : va_G) (cA : ClassId) (h0 n sz : Nat) (hn : n ≤ 4000) (v : Int32) (f : Nat → Int32) : Met l yJ7_fill_53178 (Cond.code yJ7_fill_53178 cJ7_fill_53178 4 none :: gd_tbl) ({ frames := 1, cells := 0, slots := 0, locals := 40 } : Room) (va_Pc [.ref h0, .int v] (fun U => U.heap.size = sz ∧ va_P D cls3 [(h0, .inl (cA, n, .inl f))] U.heap ∧ va_K D cls3 [(cA, .int)] U ∧ va_D (fun _ => True) [(h0, .inl (cA, n, .inl f))])) (va_Qv (fun _ : Unit => True) (fun _ t => va_P D cls3 [(h0, .inl (cA, n, .inl (fl f v n)))] t.heap ∧ va_K D cls3 [(cA, .int)] t ∧ va_D (va_A [(h0, .inl (cA, n, .inl f))] sz) [(h0, .inl (cA, n, .inl (fl f v n)))]) (va_A [(h0, .inl (cA, n, .inl f))] sz)) 0 0 (va_A [(h0, .inl (cA, n, .inl f))] sz) := by
  refine Met.ofW (cc := cJ7_fill_53178) (maxL := 4) (ret := none) (by decide) rfl ?_
  intro p e s m args below meth c s₁ B hml hv
  obtain ⟨rfl, hsz, hP, hK, hD0⟩ := hv
  have hx := B.exec
  have hb := B.bytes
  have hr := B.returns
  subst hsz
  have hD := hD0.self (sz := s.heap.size)
  generalize hAe : va_A [(h0, .inl (cA, n, .inl f))] s.heap.size = A at hD ⊢
  have hS : va_S A s.heap s.heap [] := va_S.rf
  have hP : va_P D cls3 [(h0, .inl (cA, n, .inl f))] s.heap := hP
  have hl := lv_entry ([.ref h0, .int v]) (n := 4) (Nat.le_of_ble_eq_true rfl)
  rw [lg_entry_eq]
  generalize (lg_sl ([.ref h0, .int v]) ++ List.replicate (4 - (lg_sl ([.ref h0, .int v])).length) Slot.unset).toArray = ls at hl ⊢
  have hl : lv_has ls 4 [(0, .ref h0), (1, .int v)] := hl
  refine lv_iconst (v := nI 0) hx hb dJ7_fill_53178_0 rfl ?_
  refine lv_istore_n (lv' := [(2, .int (nI 0)), (0, .ref h0), (1, .int v)]) hx hb dJ7_fill_53178_1 rfl hl (by decide) rfl (fun ls hl => ?_)
  refine lv_aload_n hx hb dJ7_fill_53178_2 rfl (lv_at hl 1 rfl) ?_
  refine va_alen (v := nI n) hx hb hK hP 0 0 rfl rfl rfl dJ7_fill_53178_3 ?_
  refine lv_istore_n (lv' := [(3, .int (nI n)), (2, .int (nI 0)), (0, .ref h0), (1, .int v)]) hx hb dJ7_fill_53178_4 rfl hl (by decide) rfl (fun ls hl => ?_)
  have loop : ∀ (t i : Nat), i + t = n → ∀ (H : Heap) (locs : List Loc) (ls : Array Slot), va_P D cls3 [(h0, .inl (cA, n, .inl (fl f v i)))] H → va_D A [(h0, .inl (cA, n, .inl (fl f v i)))] → va_S A s.heap H locs → lv_has ls 4 [(3, .int (nI n)), (2, .int (nI i)), (0, .ref h0), (1, .int v)] → W p l e ({ frames := 1, cells := 0, slots := 0, locals := 40 } : Room) s m ([.ref h0, .int v] : List Value).toArray below meth c H locs 0 0 (MQ below (va_Qv (fun _ : Unit => True) (fun _ t => va_P D cls3 [(h0, .inl (cA, n, .inl (fl f v n)))] t.heap ∧ va_K D cls3 [(cA, .int)] t ∧ va_D A [(h0, .inl (cA, n, .inl (fl f v n)))]) A) ([.ref h0, .int v] : List Value).toArray s 0 0 A) (F0 m 5 ls []) := by
    intro t
    induction t with
    | zero =>
      intro i hi H locs ls hP hD hS hl
      refine lv_iload_n hx hb dJ7_fill_53178_5 rfl (lv_at hl 1 rfl) ?_
      refine lv_iload_n hx hb dJ7_fill_53178_6 rfl (lv_at hl 0 rfl) ?_
      refine lv_icmp_ge (tgt := 20) hx hb dJ7_fill_53178_7 (by decide) (fun _ => ?_) (fun c9 => absurd (nI_le (by omega) (by omega)) c9)
      have e2 : i = n := by omega
      subst e2
      exact W.vret hx hb hr (fun t ht hW => ⟨⟨(), rfl, trivial, by rw [ht]; exact hP, va_K.moved hW.alike hK, hD⟩, hS.F ht⟩) hS.2.2 dJ7_fill_53178_20
    | succ t ih =>
      intro i hi H locs ls hP hD hS hl
      refine lv_iload_n hx hb dJ7_fill_53178_5 rfl (lv_at hl 1 rfl) ?_
      refine lv_iload_n hx hb dJ7_fill_53178_6 rfl (lv_at hl 0 rfl) ?_
      refine lv_icmp_ge (tgt := 20) hx hb dJ7_fill_53178_7 (by decide) (fun c9 => absurd c9 (nI_ge (by omega) (by omega))) (fun _ => ?_)
      refine lv_aload_n hx hb dJ7_fill_53178_10 rfl (lv_at hl 2 rfl) ?_
      refine lv_iload_n hx hb dJ7_fill_53178_11 rfl (lv_at hl 1 rfl) ?_
      refine lv_iload_n hx hb dJ7_fill_53178_12 rfl (lv_at hl 3 rfl) ?_
      refine va_iast hx hb hK hP hD hS 0 0 rfl rfl (vp_in_nI (by omega) (by omega)) dJ7_fill_53178_13 (fun H locs hP hD hS => ?_)
      rw [nI_clamp (by omega), fl_s] at hP hD
      refine lv_iinc (v := nI (i + 1)) (lv' := [(2, .int (nI (i + 1))), (3, .int (nI n)), (0, .ref h0), (1, .int v)]) hx hb dJ7_fill_53178_14 hl (k := 1) rfl (nI_1 i) (by decide) rfl (fun ls hl => ?_)
      refine lv_goto (tgt := 5) hx hb dJ7_fill_53178_17 (by decide) ?_
      exact ih (i + 1) (by omega) H locs ls hP hD hS (lv_sub hl [1, 0, 2, 3] rfl)
  exact loop n 0 (by omega) _ _ ls (by rw [fl_0]; exact hP) (by rw [fl_0]; exact hD) hS hl
