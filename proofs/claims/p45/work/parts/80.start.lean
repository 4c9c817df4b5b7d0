/-! THE LAW: from its entry to its river -/
theorem dL_law_0 : decode cL_law 0 = .ok (.new 20, 3) := by decide +kernel
theorem dL_law_3 : decode cL_law 3 = .ok (.dup, 1) := by decide +kernel
theorem dL_law_4 : decode cL_law 4 = .ok (.invokespecial 77, 3) := by decide +kernel
theorem dL_law_7 : decode cL_law 7 = .ok (.astore_n 1, 1) := by decide +kernel
theorem dL_law_8 : decode cL_law 8 = .ok (.bipush 7, 2) := by decide +kernel
theorem dL_law_10 : decode cL_law 10 = .ok (.newarray .int, 2) := by decide +kernel
theorem dL_law_12 : decode cL_law 12 = .ok (.astore_n 2, 1) := by decide +kernel
theorem dL_law_13 : decode cL_law 13 = .ok (.bipush 20, 2) := by decide +kernel
theorem dL_law_15 : decode cL_law 15 = .ok (.newarray .int, 2) := by decide +kernel
theorem dL_law_17 : decode cL_law 17 = .ok (.astore_n 3, 1) := by decide +kernel
theorem dL_law_18 : decode cL_law 18 = .ok (.bipush 6, 2) := by decide +kernel
theorem dL_law_20 : decode cL_law 20 = .ok (.newarray .int, 2) := by decide +kernel
theorem dL_law_22 : decode cL_law 22 = .ok (.astore 4, 2) := by decide +kernel
theorem dL_law_24 : decode cL_law 24 = .ok (.bipush 6, 2) := by decide +kernel
theorem dL_law_26 : decode cL_law 26 = .ok (.newarray .int, 2) := by decide +kernel
theorem dL_law_28 : decode cL_law 28 = .ok (.astore 5, 2) := by decide +kernel
theorem wl {A : Nat → Prop} {D : va_G} {cl : List vw_C} {a b : va_W} {H : Heap} (hP : va_P D cl (a ++ b) H) (hD : va_D A (a ++ b)) : va_P D cl a H ∧ va_P D cl b H ∧ va_D A a ∧ va_D A b ∧ ∀ (i j : Nat) (p q : Nat × va_E), a[i]? = some p → b[j]? = some q → p.1 ≠ q.1 := by
  have la : ∀ (k : Nat) (q : Nat × va_E), a[k]? = some q → (a ++ b)[k]? = some q := fun k q h => by
    rw [List.getElem?_append_left (List.getElem?_eq_some_iff.mp h).1]
    exact h
  have lb : ∀ (k : Nat) (q : Nat × va_E), b[k]? = some q → (a ++ b)[a.length + k]? = some q := fun k q h => by
    rw [List.getElem?_append_right (by omega), show a.length + k - a.length = k by omega]
    exact h
  refine ⟨fun k q h => hP k q (la k q h), fun k q h => hP _ q (lb k q h), ⟨fun i j p q hp hq e => hD.1 i j p q (la i p hp) (la j q hq) e, fun k q h => hD.2 k q (la k q h)⟩, ⟨fun i j p q hp hq e => ?_, fun k q h => hD.2 _ q (lb k q h)⟩, fun i j p q hp hq e => ?_⟩
  · have h1 := hD.1 _ _ p q (lb i p hp) (lb j q hq) e
    omega
  · have h1 := hD.1 _ _ p q (la i p hp) (lb j q hq) e
    have h2 := (List.getElem?_eq_some_iff.mp hp).1
    omega
abbrev ws4 (G : wC) : va_W := (List.range 4).map (fun c => (G.2.2 (60 + c), cE G μz (60 + c)))
theorem ws_split (G : wC) : ws G μz = ws60 G ++ ws4 G := by
  show (List.range (60 + 4)).map (fun c => (G.2.2 c, cE G μz c)) = (List.range 60).map (fun c => (G.2.2 c, cE G μz c)) ++ (List.range 4).map (fun c => (G.2.2 (60 + c), cE G μz (60 + c)))
  rw [List.range_add, List.map_append, List.map_map]
  rfl
theorem f_y {c : Nat} (h : 60 ≤ c) : (fun _ => 0 : Nat → Int32) = fun k => Int32.ofInt (μz c k) := by
  funext k
  rw [mz_0 (by omega) (by omega)]
  rfl
theorem arr_end {D : va_G} {A : Nat → Prop} {H : Heap} {cA : ClassId} {q1 q2 q3 q4 : Nat} (hP : va_P D cls3 [(q1, .inl (cA, 7, .inl fun _ => 0)), (q2, .inl (cA, 20, .inl fun _ => 0)), (q3, .inl (cA, 6, .inl fun _ => 0)), (q4, .inl (cA, 6, .inl fun _ => 0))] H) (hD : va_D A [(q1, .inl (cA, 7, .inl fun _ => 0)), (q2, .inl (cA, 20, .inl fun _ => 0)), (q3, .inl (cA, 6, .inl fun _ => 0)), (q4, .inl (cA, 6, .inl fun _ => 0))]) (G : wC) (e0 : G.2.1 0 = cA) (he : ∀ c, c < 4 → G.2.2 (60 + c) = [q1, q2, q3, q4].getD c 0) : va_P D cls3 (ws4 G) H ∧ va_D A (ws4 G) := by
  have a60 : G.2.2 60 = q1 := he 0 (by decide)
  have a61 : G.2.2 61 = q2 := he 1 (by decide)
  have a62 : G.2.2 62 = q3 := he 2 (by decide)
  have a63 : G.2.2 63 = q4 := he 3 (by decide)
  refine ⟨wp_by 4 (fun c => G.2.2 (60 + c)) (fun c => cE G μz (60 + c)) ?_, wd_by hD 4 (fun c => c) (fun c => G.2.2 (60 + c)) (fun c => cE G μz (60 + c)) ?_ (fun i _ j _ h => h)⟩
  · refine ltS9 (P := fun c => va_at D cls3 (G.2.2 (60 + c), cE G μz (60 + c)) H) ?_ (at_f (c := 63) (t := 0) rfl (by decide) e0 a63 (f_y (c := 63) (by decide)) (hP 3 _ rfl))
    refine ltS9 (P := fun c => va_at D cls3 (G.2.2 (60 + c), cE G μz (60 + c)) H) ?_ (at_f (c := 62) (t := 0) rfl (by decide) e0 a62 (f_y (c := 62) (by decide)) (hP 2 _ rfl))
    refine ltS9 (P := fun c => va_at D cls3 (G.2.2 (60 + c), cE G μz (60 + c)) H) ?_ (at_f (c := 61) (t := 0) rfl (by decide) e0 a61 (f_y (c := 61) (by decide)) (hP 1 _ rfl))
    refine ltS9 (P := fun c => va_at D cls3 (G.2.2 (60 + c), cE G μz (60 + c)) H) ?_ (at_f (c := 60) (t := 0) rfl (by decide) e0 a60 (f_y (c := 60) (by decide)) (hP 0 _ rfl))
    exact ltZ9
  · refine ltS9 (P := fun c => ∃ e, _ = some (G.2.2 (60 + c), e)) ?_ ⟨_, by rw [show 60 + 3 = 63 from rfl, a63]; rfl⟩
    refine ltS9 (P := fun c => ∃ e, _ = some (G.2.2 (60 + c), e)) ?_ ⟨_, by rw [show 60 + 2 = 62 from rfl, a62]; rfl⟩
    refine ltS9 (P := fun c => ∃ e, _ = some (G.2.2 (60 + c), e)) ?_ ⟨_, by rw [show 60 + 1 = 61 from rfl, a61]; rfl⟩
    refine ltS9 (P := fun c => ∃ e, _ = some (G.2.2 (60 + c), e)) ?_ ⟨_, by rw [show 60 + 0 = 60 from rfl, a60]; rfl⟩
    exact ltZ9
theorem lw_c1 : Cond.classLink RL 20 RX1 ∈ gd_tbl := in_gd (i := 41) (by decide +kernel) rfl
theorem lw_in1 : Cond.instantiable RX1 19 ∈ gd_tbl := in_gd (i := 42) (by decide +kernel) rfl
theorem lw_i1 : Cond.initialized RX1 ∈ gd_tbl := in_gd (i := 36) (by decide +kernel) rfl
theorem lw_m1 : Cond.methodLink RL 77 yX1_init ∈ gd_tbl := in_gd (i := 43) (by decide +kernel) rfl
theorem lw_im1 : Cond.instanceMethod yX1_init ∈ gd_tbl := in_gd (i := 44) (by decide +kernel) rfl
theorem lw_cd1 : Cond.code yX1_init cX1_init 1 none ∈ gd_tbl := in_gd (i := 45) (by decide +kernel) rfl
theorem ad_of {w : va_W} {j : Nat} (h : j < w.length) : ∃ e, w[j]? = some ((w.map Prod.fst).getD j 0, e) := by
  refine ⟨w[j].2, ?_⟩
  rw [List.getElem?_eq_getElem h]
  simp [List.getD, h]
theorem yo1_init : yOk yX1_init 0 := ⟨by decide, by decide, by decide +kernel⟩
theorem z_1 : ∀ j, j < 19 → defaultValue (tyX1 j) = vp_V [.null, .null, .null, .null, .null, .null, .null, .null, .int 0, .null, .null, .int 0, .long 0, .long 0, .int 0, .null, .null, .null, .null] j := by
  refine ltS9 (P := fun j => defaultValue (tyX1 j) = vp_V [.null, .null, .null, .null, .null, .null, .null, .null, .int 0, .null, .null, .int 0, .long 0, .long 0, .int 0, .null, .null, .null, .null] j) ?_ rfl
  refine ltS9 (P := fun j => defaultValue (tyX1 j) = vp_V [.null, .null, .null, .null, .null, .null, .null, .null, .int 0, .null, .null, .int 0, .long 0, .long 0, .int 0, .null, .null, .null, .null] j) ?_ rfl
  refine ltS9 (P := fun j => defaultValue (tyX1 j) = vp_V [.null, .null, .null, .null, .null, .null, .null, .null, .int 0, .null, .null, .int 0, .long 0, .long 0, .int 0, .null, .null, .null, .null] j) ?_ rfl
  refine ltS9 (P := fun j => defaultValue (tyX1 j) = vp_V [.null, .null, .null, .null, .null, .null, .null, .null, .int 0, .null, .null, .int 0, .long 0, .long 0, .int 0, .null, .null, .null, .null] j) ?_ rfl
  refine ltS9 (P := fun j => defaultValue (tyX1 j) = vp_V [.null, .null, .null, .null, .null, .null, .null, .null, .int 0, .null, .null, .int 0, .long 0, .long 0, .int 0, .null, .null, .null, .null] j) ?_ rfl
  refine ltS9 (P := fun j => defaultValue (tyX1 j) = vp_V [.null, .null, .null, .null, .null, .null, .null, .null, .int 0, .null, .null, .int 0, .long 0, .long 0, .int 0, .null, .null, .null, .null] j) ?_ rfl
  refine ltS9 (P := fun j => defaultValue (tyX1 j) = vp_V [.null, .null, .null, .null, .null, .null, .null, .null, .int 0, .null, .null, .int 0, .long 0, .long 0, .int 0, .null, .null, .null, .null] j) ?_ rfl
  refine ltS9 (P := fun j => defaultValue (tyX1 j) = vp_V [.null, .null, .null, .null, .null, .null, .null, .null, .int 0, .null, .null, .int 0, .long 0, .long 0, .int 0, .null, .null, .null, .null] j) ?_ rfl
  refine ltS9 (P := fun j => defaultValue (tyX1 j) = vp_V [.null, .null, .null, .null, .null, .null, .null, .null, .int 0, .null, .null, .int 0, .long 0, .long 0, .int 0, .null, .null, .null, .null] j) ?_ rfl
  refine ltS9 (P := fun j => defaultValue (tyX1 j) = vp_V [.null, .null, .null, .null, .null, .null, .null, .null, .int 0, .null, .null, .int 0, .long 0, .long 0, .int 0, .null, .null, .null, .null] j) ?_ rfl
  refine ltS9 (P := fun j => defaultValue (tyX1 j) = vp_V [.null, .null, .null, .null, .null, .null, .null, .null, .int 0, .null, .null, .int 0, .long 0, .long 0, .int 0, .null, .null, .null, .null] j) ?_ rfl
  refine ltS9 (P := fun j => defaultValue (tyX1 j) = vp_V [.null, .null, .null, .null, .null, .null, .null, .null, .int 0, .null, .null, .int 0, .long 0, .long 0, .int 0, .null, .null, .null, .null] j) ?_ rfl
  refine ltS9 (P := fun j => defaultValue (tyX1 j) = vp_V [.null, .null, .null, .null, .null, .null, .null, .null, .int 0, .null, .null, .int 0, .long 0, .long 0, .int 0, .null, .null, .null, .null] j) ?_ rfl
  refine ltS9 (P := fun j => defaultValue (tyX1 j) = vp_V [.null, .null, .null, .null, .null, .null, .null, .null, .int 0, .null, .null, .int 0, .long 0, .long 0, .int 0, .null, .null, .null, .null] j) ?_ rfl
  refine ltS9 (P := fun j => defaultValue (tyX1 j) = vp_V [.null, .null, .null, .null, .null, .null, .null, .null, .int 0, .null, .null, .int 0, .long 0, .long 0, .int 0, .null, .null, .null, .null] j) ?_ rfl
  refine ltS9 (P := fun j => defaultValue (tyX1 j) = vp_V [.null, .null, .null, .null, .null, .null, .null, .null, .int 0, .null, .null, .int 0, .long 0, .long 0, .int 0, .null, .null, .null, .null] j) ?_ rfl
  refine ltS9 (P := fun j => defaultValue (tyX1 j) = vp_V [.null, .null, .null, .null, .null, .null, .null, .null, .int 0, .null, .null, .int 0, .long 0, .long 0, .int 0, .null, .null, .null, .null] j) ?_ rfl
  refine ltS9 (P := fun j => defaultValue (tyX1 j) = vp_V [.null, .null, .null, .null, .null, .null, .null, .null, .int 0, .null, .null, .int 0, .long 0, .long 0, .int 0, .null, .null, .null, .null] j) ?_ rfl
  refine ltS9 (P := fun j => defaultValue (tyX1 j) = vp_V [.null, .null, .null, .null, .null, .null, .null, .null, .int 0, .null, .null, .int 0, .long 0, .long 0, .int 0, .null, .null, .null, .null] j) ?_ rfl
  exact ltZ9
theorem b_1 (h0 sz : Nat) (D : va_G) (w : va_W) : FrameBlind (va_Pc [.ref h0] (fun U => U.heap.size = sz ∧ va_P D cls3 w U.heap ∧ va_K D cls3 [] U ∧ va_D (fun _ => True) w ∧ (∀ w ∈ ns_tbl, va_Nw w U) ∧ va_AOA .int U ∧ va_AOA .byte U)) := fun a U g mk q => by
  obtain ⟨q0, q1, qP, qK, qD, qn, qa, qb⟩ := q
  exact ⟨q0, q1, qP, va_K.moved (u := U) (U := U.calling g mk a) (Vm.Alike.refl U.vm) qK, qD, fun w hw => va_Nw.same (u := U) (U := U.calling g mk a) (ns_on hw) rfl (qn w hw), AOA_moved (u := U) (U := U.calling g mk a) (Vm.Alike.refl U.vm) qa, AOA_moved (u := U) (U := U.calling g mk a) (Vm.Alike.refl U.vm) qb⟩
/-- the class's cells and the law's own are one world -/
theorem ws_join {D : va_G} {A : Nat → Prop} {F w4 : va_W} {H : Heap} {G : wC} {ad : Nat → Nat} (hP : va_P D cls3 (F ++ w4) H) (hD : va_D A (F ++ w4))
    (hF : ∀ (A1 : Nat → Prop), va_P D cls3 F H → va_D A1 F → va_P D cls3 (ws60 G) H ∧ va_D A1 (ws60 G)) (hM : va_P D cls3 w4 H → va_D A w4 → va_P D cls3 (ws4 G) H ∧ va_D A (ws4 G)) (hA : ∀ (j : Nat) (q : Nat × va_E), (ws4 G)[j]? = some q → ∃ e, w4[j]? = some (q.1, e)) : va_P D cls3 (ws G μz) H ∧ va_D A (ws G μz) := by
  obtain ⟨p1, p2, d1, d2, hx⟩ := wl hP hD
  obtain ⟨f1, f2⟩ := hF (fun q => A q ∧ ∃ (k : Nat) (e : va_E), F[k]? = some (q, e)) p1 ⟨d1.1, fun k q hk => ⟨d1.2 k q hk, k, q.2, hk⟩⟩
  obtain ⟨m1, m2⟩ := hM p2 d2
  rw [ws_split]
  refine ⟨f1.app m1, va_D.app (f2.weaken (fun _ q _ h => h.1)) m2 (fun i j x y hi hj e => ?_)⟩
  obtain ⟨k, e1, hk⟩ := (f2.2 i x hi).2
  obtain ⟨e2, hj2⟩ := hA j y hj
  exact hx k j _ _ hk hj2 e
theorem S_more {cl : List vw_C} {D : va_G} {A : Nat → Prop} {F a b : va_W} {H : Heap} (hP : va_P D cl ((F ++ a) ++ b) H) (hD : va_D A ((F ++ a) ++ b)) : va_P D cl (F ++ (a ++ b)) H ∧ va_D A (F ++ (a ++ b)) := by
  rw [← List.append_assoc]
  exact ⟨hP, hD⟩
