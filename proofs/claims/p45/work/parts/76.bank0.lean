/-! THE CONSTRUCTORS -/
theorem K_same {D : va_G} {cl : List vw_C} {tys : List (ClassId × FieldType)} {s : State} {i j : Nat} {a b : ClassId} (hK : va_K D cl tys s) (hi : tys[i]? = some (a, .int)) (hj : tys[j]? = some (b, .int)) : b = a := by
  have h1 : s.vm.findClass ("[" ++ FieldType.toString .int) = some a := (hK.2 i _ hi).2
  have h2 : s.vm.findClass ("[" ++ FieldType.toString .int) = some b := (hK.2 j _ hj).2
  exact Option.some.inj (h2.symm.trans h1)
theorem K_sameB {D : va_G} {cl : List vw_C} {tys : List (ClassId × FieldType)} {s : State} {i j : Nat} {a b : ClassId} (hK : va_K D cl tys s) (hi : tys[i]? = some (a, .byte)) (hj : tys[j]? = some (b, .byte)) : b = a := by
  have h1 : s.vm.findClass ("[" ++ FieldType.toString .byte) = some a := (hK.2 i _ hi).2
  have h2 : s.vm.findClass ("[" ++ FieldType.toString .byte) = some b := (hK.2 j _ hj).2
  exact Option.some.inj (h2.symm.trans h1)
theorem K_sameA {D : va_G} {cl : List vw_C} {tys : List (ClassId × FieldType)} {s : State} {i j : Nat} {a b : ClassId} (hK : va_K D cl tys s) (hi : tys[i]? = some (a, (.array .int))) (hj : tys[j]? = some (b, (.array .int))) : b = a := by
  have h1 : s.vm.findClass ("[" ++ FieldType.toString (.array .int)) = some a := (hK.2 i _ hi).2
  have h2 : s.vm.findClass ("[" ++ FieldType.toString (.array .int)) = some b := (hK.2 j _ hj).2
  exact Option.some.inj (h2.symm.trans h1)
theorem K_sameBB {D : va_G} {cl : List vw_C} {tys : List (ClassId × FieldType)} {s : State} {i j : Nat} {a b : ClassId} (hK : va_K D cl tys s) (hi : tys[i]? = some (a, (.array .byte))) (hj : tys[j]? = some (b, (.array .byte))) : b = a := by
  have h1 : s.vm.findClass ("[" ++ FieldType.toString (.array .byte)) = some a := (hK.2 i _ hi).2
  have h2 : s.vm.findClass ("[" ++ FieldType.toString (.array .byte)) = some b := (hK.2 j _ hj).2
  exact Option.some.inj (h2.symm.trans h1)
theorem gd_aI : Cond.arrayClass .int ∈ gd_tbl := in_gd (i := 88) (by decide +kernel) rfl
theorem gd_aB : Cond.arrayClass .byte ∈ gd_tbl := in_gd (i := 89) (by decide +kernel) rfl
theorem gd_oi : Cond.instanceMethod objectInit ∈ gd_tbl := in_gd (i := 47) (by decide +kernel) rfl
theorem gd_oc : Cond.code objectInit ⟨#[0xb1]⟩ 1 none ∈ gd_tbl := in_gd (i := 48) (by decide +kernel) rfl
theorem dX0_init_0 : decode cX0_init 0 = .ok (.aload_n 0, 1) := by decide +kernel
theorem dX0_init_1 : decode cX0_init 1 = .ok (.invokespecial 3, 3) := by decide +kernel
theorem dX0_init_4 : decode cX0_init 4 = .ok (.aload_n 0, 1) := by decide +kernel
theorem dX0_init_5 : decode cX0_init 5 = .ok (.bipush 6, 2) := by decide +kernel
theorem dX0_init_7 : decode cX0_init 7 = .ok (.newarray .int, 2) := by decide +kernel
theorem dX0_init_9 : decode cX0_init 9 = .ok (.putfield 9, 3) := by decide +kernel
theorem dX0_init_12 : decode cX0_init 12 = .ok (.aload_n 0, 1) := by decide +kernel
theorem dX0_init_13 : decode cX0_init 13 = .ok (.bipush 6, 2) := by decide +kernel
theorem dX0_init_15 : decode cX0_init 15 = .ok (.newarray .int, 2) := by decide +kernel
theorem dX0_init_17 : decode cX0_init 17 = .ok (.putfield 15, 3) := by decide +kernel
theorem dX0_init_20 : decode cX0_init 20 = .ok (.aload_n 0, 1) := by decide +kernel
theorem dX0_init_21 : decode cX0_init 21 = .ok (.bipush 6, 2) := by decide +kernel
theorem dX0_init_23 : decode cX0_init 23 = .ok (.newarray .int, 2) := by decide +kernel
theorem dX0_init_25 : decode cX0_init 25 = .ok (.putfield 18, 3) := by decide +kernel
theorem dX0_init_28 : decode cX0_init 28 = .ok (.aload_n 0, 1) := by decide +kernel
theorem dX0_init_29 : decode cX0_init 29 = .ok (.bipush 6, 2) := by decide +kernel
theorem dX0_init_31 : decode cX0_init 31 = .ok (.newarray .int, 2) := by decide +kernel
theorem dX0_init_33 : decode cX0_init 33 = .ok (.putfield 21, 3) := by decide +kernel
theorem dX0_init_36 : decode cX0_init 36 = .ok (.aload_n 0, 1) := by decide +kernel
theorem dX0_init_37 : decode cX0_init 37 = .ok (.iconst 0, 1) := by decide +kernel
theorem dX0_init_38 : decode cX0_init 38 = .ok (.putfield 24, 3) := by decide +kernel
theorem dX0_init_41 : decode cX0_init 41 = .ok (.aload_n 0, 1) := by decide +kernel
theorem dX0_init_42 : decode cX0_init 42 = .ok (.iconst 0, 1) := by decide +kernel
theorem dX0_init_43 : decode cX0_init 43 = .ok (.putfield 28, 3) := by decide +kernel
theorem dX0_init_46 : decode cX0_init 46 = .ok (.aload_n 0, 1) := by decide +kernel
theorem dX0_init_47 : decode cX0_init 47 = .ok (.iconst 0, 1) := by decide +kernel
theorem dX0_init_48 : decode cX0_init 48 = .ok (.putfield 31, 3) := by decide +kernel
theorem dX0_init_51 : decode cX0_init 51 = .ok (.return_, 1) := by decide +kernel
theorem lk0_o : Cond.methodLink RX0 3 objectInit ∈ gd_tbl := in_gd (i := 58) (by decide +kernel) rfl
theorem lk0_0 : Cond.fieldLink RX0 9 RX0 "kinds" "[I" ∈ gd_tbl := in_gd (i := 59) (by decide +kernel) rfl
theorem lk0_1 : Cond.fieldLink RX0 15 RX0 "doors" "[I" ∈ gd_tbl := in_gd (i := 61) (by decide +kernel) rfl
theorem lk0_2 : Cond.fieldLink RX0 18 RX0 "darings" "[I" ∈ gd_tbl := in_gd (i := 63) (by decide +kernel) rfl
theorem lk0_3 : Cond.fieldLink RX0 21 RX0 "crossings" "[I" ∈ gd_tbl := in_gd (i := 65) (by decide +kernel) rfl
theorem lk0_4 : Cond.fieldLink RX0 24 RX0 "people" "I" ∈ gd_tbl := in_gd (i := 67) (by decide +kernel) rfl
theorem lk0_5 : Cond.fieldLink RX0 28 RX0 "ford" "I" ∈ gd_tbl := in_gd (i := 69) (by decide +kernel) rfl
theorem lk0_6 : Cond.fieldLink RX0 31 RX0 "number" "I" ∈ gd_tbl := in_gd (i := 71) (by decide +kernel) rfl
abbrev bankP (D : va_G) (A : Nat → Prop) (h0 : Nat) (t : State) : Prop := ∃ (cA : ClassId) (q1 q2 q3 q4 : Nat), va_P D cls3 [(h0, .inr (0, [.ref q1, .ref q2, .ref q3, .ref q4, .int 0, .int 0, .int 0])), (q1, .inl (cA, 6, .inl fun _ => 0)), (q2, .inl (cA, 6, .inl fun _ => 0)), (q3, .inl (cA, 6, .inl fun _ => 0)), (q4, .inl (cA, 6, .inl fun _ => 0))] t.heap ∧ va_K D cls3 [(cA, .int)] t ∧ va_D A [(h0, .inr (0, [.ref q1, .ref q2, .ref q3, .ref q4, .int 0, .int 0, .int 0])), (q1, .inl (cA, 6, .inl fun _ => 0)), (q2, .inl (cA, 6, .inl fun _ => 0)), (q3, .inl (cA, 6, .inl fun _ => 0)), (q4, .inl (cA, 6, .inl fun _ => 0))]
set_option maxHeartbeats 4000000 in
set_option maxRecDepth 100000 in
theorem K_X0_init (l : Launch) (D : va_G) (h0 sz : Nat) : Met l yX0_init (Cond.code yX0_init cX0_init 1 none :: gd_tbl) ({ frames := 1, cells := 4, slots := 24, locals := 40 } : Room) (va_Pc [.ref h0] (fun U => U.heap.size = sz ∧ va_P D cls3 [(h0, .inr (0, [.null, .null, .null, .null, .int 0, .int 0, .int 0]))] U.heap ∧ va_K D cls3 [] U ∧ va_D (fun _ => True) [(h0, .inr (0, [.null, .null, .null, .null, .int 0, .int 0, .int 0]))])) (va_Qv (fun _ : Unit => True) (fun _ => bankP D (va_A [(h0, .inr (0, [.null, .null, .null, .null, .int 0, .int 0, .int 0]))] sz) h0) (va_A [(h0, .inr (0, [.null, .null, .null, .null, .int 0, .int 0, .int 0]))] sz)) 4 24 (va_A [(h0, .inr (0, [.null, .null, .null, .null, .int 0, .int 0, .int 0]))] sz) := by
  refine Met.ofW (cc := cX0_init) (maxL := 1) (ret := none) (by decide) rfl ?_
  intro p e s m args below meth c s₁ B hml hv
  obtain ⟨rfl, hsz, hP, hK, hD0⟩ := hv
  have hx := B.exec
  have hb := B.bytes
  have hr := B.returns
  have hts0 := atoms_spec (ws := Cond.code yX0_init cX0_init 1 none :: gd_tbl) B.pre
  have hts : ∀ w ∈ gd_tbl, w.before _ s = true := fun w hw => hts0 w (List.mem_cons_of_mem _ hw)
  have hown : s.vm.findClass RX0 = some m.cls := findClass_of_methodNamed B.named
  have hlocks := B.notSynchronized
  have hin : meth.name = "<init>" := (name_of_methodNamed B.named B.method).1
  subst hsz
  have hD := hD0.self (sz := s.heap.size)
  generalize hAe : va_A [(h0, .inr (0, [.null, .null, .null, .null, .int 0, .int 0, .int 0]))] s.heap.size = A at hD ⊢
  have hA : ∀ q : Nat, s.heap.size ≤ q → A q := fun q h => by rw [← hAe]; exact Or.inr h
  have hS : va_S A s.heap s.heap [] := va_S.rf
  have hP : va_P D cls3 [(h0, .inr (0, [.null, .null, .null, .null, .int 0, .int 0, .int 0]))] s.heap := hP
  have hl := lv_entry ([.ref h0]) (n := 1) (Nat.le_of_ble_eq_true rfl)
  rw [lg_entry_eq]
  generalize (lg_sl ([.ref h0]) ++ List.replicate (1 - (lg_sl ([.ref h0])).length) Slot.unset).toArray = ls at hl ⊢
  have hl : lv_has ls 1 [(0, .ref h0)] := hl
  refine lv_aload_n hx hb dX0_init_0 rfl (lv_at hl 0 rfl) ?_
  refine W.objInit hx hb hown (hts _ lk0_o) (hts _ gd_oi) (hts _ gd_oc) rfl (by rw [hml]; exact hl.1) rfl dX0_init_1 (Nat.le_of_ble_eq_true rfl) (Nat.le_of_ble_eq_true rfl) ?_
  refine lv_aload_n hx hb dX0_init_4 rfl (lv_at hl 0 rfl) ?_
  refine lv_bipush (v := 6) hx hb dX0_init_5 (by decide) ?_
  refine va_newa (atype := .int) hx hb (hts _ gd_aI) (ty := .int) rfl hK hP hD hS hA (N' := 6) (a0 := (6, .inl fun _ => 0)) (fun _ => rfl) (by decide) (by decide) (by decide) (Nat.le_of_ble_eq_true rfl) (Nat.le_of_ble_eq_true rfl) dX0_init_7 (fun q1 cB H hK hP hD hS => ?_)
  obtain ⟨cA, rfl⟩ : ∃ z, z = cB := ⟨_, rfl⟩
  have hK : va_K D cls3 [(cA, .int)] s := hK
  have hP : va_P D cls3 [(h0, .inr (0, [.null, .null, .null, .null, .int 0, .int 0, .int 0])), (q1, .inl (cA, 6, .inl fun _ => 0))] H := hP
  have hD : va_D A [(h0, .inr (0, [.null, .null, .null, .null, .int 0, .int 0, .int 0])), (q1, .inl (cA, 6, .inl fun _ => 0))] := hD
  refine va_putF (D := D) (ci := 0) (v := .ref q1) (ty := .array .int) (C := RX0) (T := TX0) (N := 7) hx hb hts inG0 tyX0 tyX0_ok nmX0 hown hK hP hD hS 0 rfl rfl 0 (by decide) (hts _ lk0_0) (fun _ h9 => h9) rfl hin rfl (by decide +kernel) rfl rfl (Nat.le_of_ble_eq_true rfl) dX0_init_9 (fun H locs hP hD hS => ?_)
  have hP : va_P D cls3 [(h0, .inr (0, [.ref q1, .null, .null, .null, .int 0, .int 0, .int 0])), (q1, .inl (cA, 6, .inl fun _ => 0))] H := hP
  have hD : va_D A [(h0, .inr (0, [.ref q1, .null, .null, .null, .int 0, .int 0, .int 0])), (q1, .inl (cA, 6, .inl fun _ => 0))] := hD
  refine lv_aload_n hx hb dX0_init_12 rfl (lv_at hl 0 rfl) ?_
  refine lv_bipush (v := 6) hx hb dX0_init_13 (by decide) ?_
  refine va_newa (atype := .int) hx hb (hts _ gd_aI) (ty := .int) rfl hK hP hD hS hA (N' := 6) (a0 := (6, .inl fun _ => 0)) (fun _ => rfl) (by decide) (by decide) (by decide) (Nat.le_of_ble_eq_true rfl) (Nat.le_of_ble_eq_true rfl) dX0_init_15 (fun q2 cB H hK hP hD hS => ?_)
  obtain rfl : cB = cA := K_same hK (i := 0) (j := 1) rfl rfl
  have hK := hK.sub (tys' := [(cB, .int)]) [0] rfl
  obtain ⟨cA, rfl⟩ : ∃ z, z = cB := ⟨_, rfl⟩
  have hP : va_P D cls3 [(h0, .inr (0, [.ref q1, .null, .null, .null, .int 0, .int 0, .int 0])), (q1, .inl (cA, 6, .inl fun _ => 0)), (q2, .inl (cA, 6, .inl fun _ => 0))] H := hP
  have hD : va_D A [(h0, .inr (0, [.ref q1, .null, .null, .null, .int 0, .int 0, .int 0])), (q1, .inl (cA, 6, .inl fun _ => 0)), (q2, .inl (cA, 6, .inl fun _ => 0))] := hD
  refine va_putF (D := D) (ci := 0) (v := .ref q2) (ty := .array .int) (C := RX0) (T := TX0) (N := 7) hx hb hts inG0 tyX0 tyX0_ok nmX0 hown hK hP hD hS 0 rfl rfl 1 (by decide) (hts _ lk0_1) (fun _ h9 => h9) rfl hin rfl (by decide +kernel) rfl rfl (Nat.le_of_ble_eq_true rfl) dX0_init_17 (fun H locs hP hD hS => ?_)
  have hP : va_P D cls3 [(h0, .inr (0, [.ref q1, .ref q2, .null, .null, .int 0, .int 0, .int 0])), (q1, .inl (cA, 6, .inl fun _ => 0)), (q2, .inl (cA, 6, .inl fun _ => 0))] H := hP
  have hD : va_D A [(h0, .inr (0, [.ref q1, .ref q2, .null, .null, .int 0, .int 0, .int 0])), (q1, .inl (cA, 6, .inl fun _ => 0)), (q2, .inl (cA, 6, .inl fun _ => 0))] := hD
  refine lv_aload_n hx hb dX0_init_20 rfl (lv_at hl 0 rfl) ?_
  refine lv_bipush (v := 6) hx hb dX0_init_21 (by decide) ?_
  refine va_newa (atype := .int) hx hb (hts _ gd_aI) (ty := .int) rfl hK hP hD hS hA (N' := 6) (a0 := (6, .inl fun _ => 0)) (fun _ => rfl) (by decide) (by decide) (by decide) (Nat.le_of_ble_eq_true rfl) (Nat.le_of_ble_eq_true rfl) dX0_init_23 (fun q3 cB H hK hP hD hS => ?_)
  obtain rfl : cB = cA := K_same hK (i := 0) (j := 1) rfl rfl
  have hK := hK.sub (tys' := [(cB, .int)]) [0] rfl
  obtain ⟨cA, rfl⟩ : ∃ z, z = cB := ⟨_, rfl⟩
  have hP : va_P D cls3 [(h0, .inr (0, [.ref q1, .ref q2, .null, .null, .int 0, .int 0, .int 0])), (q1, .inl (cA, 6, .inl fun _ => 0)), (q2, .inl (cA, 6, .inl fun _ => 0)), (q3, .inl (cA, 6, .inl fun _ => 0))] H := hP
  have hD : va_D A [(h0, .inr (0, [.ref q1, .ref q2, .null, .null, .int 0, .int 0, .int 0])), (q1, .inl (cA, 6, .inl fun _ => 0)), (q2, .inl (cA, 6, .inl fun _ => 0)), (q3, .inl (cA, 6, .inl fun _ => 0))] := hD
  refine va_putF (D := D) (ci := 0) (v := .ref q3) (ty := .array .int) (C := RX0) (T := TX0) (N := 7) hx hb hts inG0 tyX0 tyX0_ok nmX0 hown hK hP hD hS 0 rfl rfl 2 (by decide) (hts _ lk0_2) (fun _ h9 => h9) rfl hin rfl (by decide +kernel) rfl rfl (Nat.le_of_ble_eq_true rfl) dX0_init_25 (fun H locs hP hD hS => ?_)
  have hP : va_P D cls3 [(h0, .inr (0, [.ref q1, .ref q2, .ref q3, .null, .int 0, .int 0, .int 0])), (q1, .inl (cA, 6, .inl fun _ => 0)), (q2, .inl (cA, 6, .inl fun _ => 0)), (q3, .inl (cA, 6, .inl fun _ => 0))] H := hP
  have hD : va_D A [(h0, .inr (0, [.ref q1, .ref q2, .ref q3, .null, .int 0, .int 0, .int 0])), (q1, .inl (cA, 6, .inl fun _ => 0)), (q2, .inl (cA, 6, .inl fun _ => 0)), (q3, .inl (cA, 6, .inl fun _ => 0))] := hD
  refine lv_aload_n hx hb dX0_init_28 rfl (lv_at hl 0 rfl) ?_
  refine lv_bipush (v := 6) hx hb dX0_init_29 (by decide) ?_
  refine va_newa (atype := .int) hx hb (hts _ gd_aI) (ty := .int) rfl hK hP hD hS hA (N' := 6) (a0 := (6, .inl fun _ => 0)) (fun _ => rfl) (by decide) (by decide) (by decide) (Nat.le_of_ble_eq_true rfl) (Nat.le_of_ble_eq_true rfl) dX0_init_31 (fun q4 cB H hK hP hD hS => ?_)
  obtain rfl : cB = cA := K_same hK (i := 0) (j := 1) rfl rfl
  have hK := hK.sub (tys' := [(cB, .int)]) [0] rfl
  obtain ⟨cA, rfl⟩ : ∃ z, z = cB := ⟨_, rfl⟩
  have hP : va_P D cls3 [(h0, .inr (0, [.ref q1, .ref q2, .ref q3, .null, .int 0, .int 0, .int 0])), (q1, .inl (cA, 6, .inl fun _ => 0)), (q2, .inl (cA, 6, .inl fun _ => 0)), (q3, .inl (cA, 6, .inl fun _ => 0)), (q4, .inl (cA, 6, .inl fun _ => 0))] H := hP
  have hD : va_D A [(h0, .inr (0, [.ref q1, .ref q2, .ref q3, .null, .int 0, .int 0, .int 0])), (q1, .inl (cA, 6, .inl fun _ => 0)), (q2, .inl (cA, 6, .inl fun _ => 0)), (q3, .inl (cA, 6, .inl fun _ => 0)), (q4, .inl (cA, 6, .inl fun _ => 0))] := hD
  refine va_putF (D := D) (ci := 0) (v := .ref q4) (ty := .array .int) (C := RX0) (T := TX0) (N := 7) hx hb hts inG0 tyX0 tyX0_ok nmX0 hown hK hP hD hS 0 rfl rfl 3 (by decide) (hts _ lk0_3) (fun _ h9 => h9) rfl hin rfl (by decide +kernel) rfl rfl (Nat.le_of_ble_eq_true rfl) dX0_init_33 (fun H locs hP hD hS => ?_)
  have hP : va_P D cls3 [(h0, .inr (0, [.ref q1, .ref q2, .ref q3, .ref q4, .int 0, .int 0, .int 0])), (q1, .inl (cA, 6, .inl fun _ => 0)), (q2, .inl (cA, 6, .inl fun _ => 0)), (q3, .inl (cA, 6, .inl fun _ => 0)), (q4, .inl (cA, 6, .inl fun _ => 0))] H := hP
  have hD : va_D A [(h0, .inr (0, [.ref q1, .ref q2, .ref q3, .ref q4, .int 0, .int 0, .int 0])), (q1, .inl (cA, 6, .inl fun _ => 0)), (q2, .inl (cA, 6, .inl fun _ => 0)), (q3, .inl (cA, 6, .inl fun _ => 0)), (q4, .inl (cA, 6, .inl fun _ => 0))] := hD
  refine lv_aload_n hx hb dX0_init_36 rfl (lv_at hl 0 rfl) ?_
  refine lv_iconst (v := 0) hx hb dX0_init_37 (by decide) ?_
  refine va_put (D := D) (ci := 0) (v := .int 0) (ty := .int) (C := RX0) (T := TX0) (N := 7) hx hb hts inG0 tyX0 tyX0_ok nmX0 hown hK hP hD hS 0 rfl rfl 4 (by decide) (hts _ lk0_4) (fun _ h9 => h9) rfl (by decide +kernel) rfl rfl (Nat.le_of_ble_eq_true rfl) dX0_init_38 (fun H locs hP hD hS => ?_)
  have hP : va_P D cls3 [(h0, .inr (0, [.ref q1, .ref q2, .ref q3, .ref q4, .int 0, .int 0, .int 0])), (q1, .inl (cA, 6, .inl fun _ => 0)), (q2, .inl (cA, 6, .inl fun _ => 0)), (q3, .inl (cA, 6, .inl fun _ => 0)), (q4, .inl (cA, 6, .inl fun _ => 0))] H := hP
  have hD : va_D A [(h0, .inr (0, [.ref q1, .ref q2, .ref q3, .ref q4, .int 0, .int 0, .int 0])), (q1, .inl (cA, 6, .inl fun _ => 0)), (q2, .inl (cA, 6, .inl fun _ => 0)), (q3, .inl (cA, 6, .inl fun _ => 0)), (q4, .inl (cA, 6, .inl fun _ => 0))] := hD
  refine lv_aload_n hx hb dX0_init_41 rfl (lv_at hl 0 rfl) ?_
  refine lv_iconst (v := 0) hx hb dX0_init_42 (by decide) ?_
  refine va_put (D := D) (ci := 0) (v := .int 0) (ty := .int) (C := RX0) (T := TX0) (N := 7) hx hb hts inG0 tyX0 tyX0_ok nmX0 hown hK hP hD hS 0 rfl rfl 5 (by decide) (hts _ lk0_5) (fun _ h9 => h9) rfl (by decide +kernel) rfl rfl (Nat.le_of_ble_eq_true rfl) dX0_init_43 (fun H locs hP hD hS => ?_)
  have hP : va_P D cls3 [(h0, .inr (0, [.ref q1, .ref q2, .ref q3, .ref q4, .int 0, .int 0, .int 0])), (q1, .inl (cA, 6, .inl fun _ => 0)), (q2, .inl (cA, 6, .inl fun _ => 0)), (q3, .inl (cA, 6, .inl fun _ => 0)), (q4, .inl (cA, 6, .inl fun _ => 0))] H := hP
  have hD : va_D A [(h0, .inr (0, [.ref q1, .ref q2, .ref q3, .ref q4, .int 0, .int 0, .int 0])), (q1, .inl (cA, 6, .inl fun _ => 0)), (q2, .inl (cA, 6, .inl fun _ => 0)), (q3, .inl (cA, 6, .inl fun _ => 0)), (q4, .inl (cA, 6, .inl fun _ => 0))] := hD
  refine lv_aload_n hx hb dX0_init_46 rfl (lv_at hl 0 rfl) ?_
  refine lv_iconst (v := 0) hx hb dX0_init_47 (by decide) ?_
  refine va_put (D := D) (ci := 0) (v := .int 0) (ty := .int) (C := RX0) (T := TX0) (N := 7) hx hb hts inG0 tyX0 tyX0_ok nmX0 hown hK hP hD hS 0 rfl rfl 6 (by decide) (hts _ lk0_6) (fun _ h9 => h9) rfl (by decide +kernel) rfl rfl (Nat.le_of_ble_eq_true rfl) dX0_init_48 (fun H locs hP hD hS => ?_)
  have hP : va_P D cls3 [(h0, .inr (0, [.ref q1, .ref q2, .ref q3, .ref q4, .int 0, .int 0, .int 0])), (q1, .inl (cA, 6, .inl fun _ => 0)), (q2, .inl (cA, 6, .inl fun _ => 0)), (q3, .inl (cA, 6, .inl fun _ => 0)), (q4, .inl (cA, 6, .inl fun _ => 0))] H := hP
  have hD : va_D A [(h0, .inr (0, [.ref q1, .ref q2, .ref q3, .ref q4, .int 0, .int 0, .int 0])), (q1, .inl (cA, 6, .inl fun _ => 0)), (q2, .inl (cA, 6, .inl fun _ => 0)), (q3, .inl (cA, 6, .inl fun _ => 0)), (q4, .inl (cA, 6, .inl fun _ => 0))] := hD
  refine W.widen (k := 4) (n := 24) (Nat.le_of_ble_eq_true rfl) (Nat.le_of_ble_eq_true rfl) ?_
  exact W.vret hx hb hr (fun t ht hW => ⟨⟨(), rfl, trivial, cA, q1, q2, q3, q4, by rw [ht]; exact hP, va_K.moved hW.alike hK, hD⟩, hS.F ht⟩) hS.2.2 dX0_init_51
