/-! THE LAW: from its entry to its loop, and from its loop to its end -/
theorem wl {A : Nat → Prop} {D : va_G} {cl : List vw_C} {a b : va_W} {H : Heap} (hP : va_P D cl (a ++ b) H) (hD : va_D A (a ++ b)) : va_P D cl a H ∧ va_P D cl b H ∧ va_D A a ∧ va_D A b ∧ ∀ (i j : Nat) (p q : Nat × va_E), a[i]? = some p → b[j]? = some q → p.1 ≠ q.1 := by
  have la : ∀ (k : Nat) (q : Nat × va_E), a[k]? = some q → (a ++ b)[k]? = some q := fun k q h => by
    rw [List.getElem?_append_left (List.getElem?_eq_some_iff.mp h).1]
    exact h
  have lb : ∀ (k : Nat) (q : Nat × va_E), b[k]? = some q → (a ++ b)[a.length + k]? = some q := fun k q h => by
    rw [List.getElem?_append_right (by omega), show a.length + k - a.length = k by omega]
    exact h
  refine ⟨fun k q h => hP k q (la k q h), fun k q h => hP _ q (lb k q h), ⟨fun i j p q hp hq e => hD.1 i j p q (la i p hp) (la j q hq) e, fun k q h => hD.2 k q (la k q h)⟩, ⟨fun i j p q hp hq e => ?_, fun k q h => hD.2 _ q (lb k q h)⟩, fun i j p q hp hq e => ?_⟩
  · have h1 := hD.1 _ _ p q (lb i p hp) (lb j q hq) e
    omega
  · have h1 := hD.1 _ _ p q (la i p hp) (lb j q hq) e
    have h2 := (List.getElem?_eq_some_iff.mp hp).1
    omega
abbrev ws13 (G : wC) : va_W := (List.range 13).map (fun c => (G.2.2 (60 + c), cE G μz (60 + c)))
theorem ws_split (G : wC) : ws G μz = ws60 G ++ ws13 G := by
  show (List.range (60 + 13)).map (fun c => (G.2.2 c, cE G μz c)) = (List.range 60).map (fun c => (G.2.2 c, cE G μz c)) ++ (List.range 13).map (fun c => (G.2.2 (60 + c), cE G μz (60 + c)))
  rw [List.range_add, List.map_append, List.map_map]
  rfl
set_option maxHeartbeats 4000000 in
set_option maxRecDepth 100000 in
theorem model_end {D : va_G} {A : Nat → Prop} {H : Heap} {h0 : Nat} {cA : ClassId} {q1 q2 q3 q4 q5 q6 q7 q8 q9 q10 q11 q12 : Nat} (hP : va_P D cls3 [(h0, .inr (2, [.ref q1, .int 0, .ref q2, .ref q3, .ref q4, .ref q5, .ref q6, .int 0, .long 0, .long 1, .int 0, .ref q7, .int 0, .int 0, .int 0, .int 0, .ref q8, .int 0, .ref q9, .ref q10, .ref q11, .ref q12, .long 0])), (q1, .inl (cA, 3305, .inl fun k => Int32.ofInt (μz 61 k))), (q2, .inl (cA, 6, .inl fun k => Int32.ofInt (μz 62 k))), (q3, .inl (cA, 6, .inl fun k => Int32.ofInt (μz 63 k))), (q4, .inl (cA, 240, .inl fun k => Int32.ofInt (μz 64 k))), (q5, .inl (cA, 4, .inl fun k => Int32.ofInt (μz 65 k))), (q6, .inl (cA, 240, .inl fun k => Int32.ofInt (μz 66 k))), (q7, .inl (cA, 6, .inl fun k => Int32.ofInt (μz 67 k))), (q8, .inl (cA, 18, .inl fun k => Int32.ofInt (μz 68 k))), (q9, .inl (cA, 6, .inl fun k => Int32.ofInt (μz 69 k))), (q10, .inl (cA, 6, .inl fun k => Int32.ofInt (μz 70 k))), (q11, .inl (cA, 147, .inl fun k => Int32.ofInt (μz 71 k))), (q12, .inl (cA, 49, .inl fun k => Int32.ofInt (μz 72 k)))] H) (hD : va_D A [(h0, .inr (2, [.ref q1, .int 0, .ref q2, .ref q3, .ref q4, .ref q5, .ref q6, .int 0, .long 0, .long 1, .int 0, .ref q7, .int 0, .int 0, .int 0, .int 0, .ref q8, .int 0, .ref q9, .ref q10, .ref q11, .ref q12, .long 0])), (q1, .inl (cA, 3305, .inl fun k => Int32.ofInt (μz 61 k))), (q2, .inl (cA, 6, .inl fun k => Int32.ofInt (μz 62 k))), (q3, .inl (cA, 6, .inl fun k => Int32.ofInt (μz 63 k))), (q4, .inl (cA, 240, .inl fun k => Int32.ofInt (μz 64 k))), (q5, .inl (cA, 4, .inl fun k => Int32.ofInt (μz 65 k))), (q6, .inl (cA, 240, .inl fun k => Int32.ofInt (μz 66 k))), (q7, .inl (cA, 6, .inl fun k => Int32.ofInt (μz 67 k))), (q8, .inl (cA, 18, .inl fun k => Int32.ofInt (μz 68 k))), (q9, .inl (cA, 6, .inl fun k => Int32.ofInt (μz 69 k))), (q10, .inl (cA, 6, .inl fun k => Int32.ofInt (μz 70 k))), (q11, .inl (cA, 147, .inl fun k => Int32.ofInt (μz 71 k))), (q12, .inl (cA, 49, .inl fun k => Int32.ofInt (μz 72 k)))]) (G : wC) (e0 : G.2.1 0 = cA) (he : ∀ c, c < 13 → G.2.2 (60 + c) = [h0, q1, q2, q3, q4, q5, q6, q7, q8, q9, q10, q11, q12].getD c 0) : va_P D cls3 (ws13 G) H ∧ va_D A (ws13 G) := by
  have a60 : G.2.2 60 = h0 := he 0 (by decide)
  have a61 : G.2.2 61 = q1 := he 1 (by decide)
  have a62 : G.2.2 62 = q2 := he 2 (by decide)
  have a63 : G.2.2 63 = q3 := he 3 (by decide)
  have a64 : G.2.2 64 = q4 := he 4 (by decide)
  have a65 : G.2.2 65 = q5 := he 5 (by decide)
  have a66 : G.2.2 66 = q6 := he 6 (by decide)
  have a67 : G.2.2 67 = q7 := he 7 (by decide)
  have a68 : G.2.2 68 = q8 := he 8 (by decide)
  have a69 : G.2.2 69 = q9 := he 9 (by decide)
  have a70 : G.2.2 70 = q10 := he 10 (by decide)
  have a71 : G.2.2 71 = q11 := he 11 (by decide)
  have a72 : G.2.2 72 = q12 := he 12 (by decide)
  refine ⟨wp_by 13 (fun c => G.2.2 (60 + c)) (fun c => cE G μz (60 + c)) ?_, wd_by hD 13 (fun c => c) (fun c => G.2.2 (60 + c)) (fun c => cE G μz (60 + c)) ?_ (fun i _ j _ h => h)⟩
  · refine ltS9 (P := fun c => va_at D cls3 (G.2.2 (60 + c), cE G μz (60 + c)) H) ?_ (at_f (c := 72) (t := 0) rfl (by decide) e0 a72 rfl (hP 12 _ rfl))
    refine ltS9 (P := fun c => va_at D cls3 (G.2.2 (60 + c), cE G μz (60 + c)) H) ?_ (at_f (c := 71) (t := 0) rfl (by decide) e0 a71 rfl (hP 11 _ rfl))
    refine ltS9 (P := fun c => va_at D cls3 (G.2.2 (60 + c), cE G μz (60 + c)) H) ?_ (at_f (c := 70) (t := 0) rfl (by decide) e0 a70 rfl (hP 10 _ rfl))
    refine ltS9 (P := fun c => va_at D cls3 (G.2.2 (60 + c), cE G μz (60 + c)) H) ?_ (at_f (c := 69) (t := 0) rfl (by decide) e0 a69 rfl (hP 9 _ rfl))
    refine ltS9 (P := fun c => va_at D cls3 (G.2.2 (60 + c), cE G μz (60 + c)) H) ?_ (at_f (c := 68) (t := 0) rfl (by decide) e0 a68 rfl (hP 8 _ rfl))
    refine ltS9 (P := fun c => va_at D cls3 (G.2.2 (60 + c), cE G μz (60 + c)) H) ?_ (at_f (c := 67) (t := 0) rfl (by decide) e0 a67 rfl (hP 7 _ rfl))
    refine ltS9 (P := fun c => va_at D cls3 (G.2.2 (60 + c), cE G μz (60 + c)) H) ?_ (at_f (c := 66) (t := 0) rfl (by decide) e0 a66 rfl (hP 6 _ rfl))
    refine ltS9 (P := fun c => va_at D cls3 (G.2.2 (60 + c), cE G μz (60 + c)) H) ?_ (at_f (c := 65) (t := 0) rfl (by decide) e0 a65 rfl (hP 5 _ rfl))
    refine ltS9 (P := fun c => va_at D cls3 (G.2.2 (60 + c), cE G μz (60 + c)) H) ?_ (at_f (c := 64) (t := 0) rfl (by decide) e0 a64 rfl (hP 4 _ rfl))
    refine ltS9 (P := fun c => va_at D cls3 (G.2.2 (60 + c), cE G μz (60 + c)) H) ?_ (at_f (c := 63) (t := 0) rfl (by decide) e0 a63 rfl (hP 3 _ rfl))
    refine ltS9 (P := fun c => va_at D cls3 (G.2.2 (60 + c), cE G μz (60 + c)) H) ?_ (at_f (c := 62) (t := 0) rfl (by decide) e0 a62 rfl (hP 2 _ rfl))
    refine ltS9 (P := fun c => va_at D cls3 (G.2.2 (60 + c), cE G μz (60 + c)) H) ?_ (at_f (c := 61) (t := 0) rfl (by decide) e0 a61 rfl (hP 1 _ rfl))
    refine ltS9 (P := fun c => va_at D cls3 (G.2.2 (60 + c), cE G μz (60 + c)) H) ?_ (at_o (c := 60) (ci := 2) (fs := [.ref q1, .int 0, .ref q2, .ref q3, .ref q4, .ref q5, .ref q6, .int 0, .long 0, .long 1, .int 0, .ref q7, .int 0, .int 0, .int 0, .int 0, .ref q8, .int 0, .ref q9, .ref q10, .ref q11, .ref q12, .long 0]) rfl a60 (Eq.trans (b := [.ref (G.2.2 61), .int 0, .ref (G.2.2 62), .ref (G.2.2 63), .ref (G.2.2 64), .ref (G.2.2 65), .ref (G.2.2 66), .int 0, .long 0, .long 1, .int 0, .ref (G.2.2 67), .int 0, .int 0, .int 0, .int 0, .ref (G.2.2 68), .int 0, .ref (G.2.2 69), .ref (G.2.2 70), .ref (G.2.2 71), .ref (G.2.2 72), .long 0]) rfl (by rw [a61, a62, a63, a64, a65, a66, a67, a68, a69, a70, a71, a72])) (hP 0 _ rfl))
    exact ltZ9
  · refine ltS9 (P := fun c => ∃ e, _ = some (G.2.2 (60 + c), e)) ?_ ⟨_, by rw [show 60 + 12 = 72 from rfl, a72]; rfl⟩
    refine ltS9 (P := fun c => ∃ e, _ = some (G.2.2 (60 + c), e)) ?_ ⟨_, by rw [show 60 + 11 = 71 from rfl, a71]; rfl⟩
    refine ltS9 (P := fun c => ∃ e, _ = some (G.2.2 (60 + c), e)) ?_ ⟨_, by rw [show 60 + 10 = 70 from rfl, a70]; rfl⟩
    refine ltS9 (P := fun c => ∃ e, _ = some (G.2.2 (60 + c), e)) ?_ ⟨_, by rw [show 60 + 9 = 69 from rfl, a69]; rfl⟩
    refine ltS9 (P := fun c => ∃ e, _ = some (G.2.2 (60 + c), e)) ?_ ⟨_, by rw [show 60 + 8 = 68 from rfl, a68]; rfl⟩
    refine ltS9 (P := fun c => ∃ e, _ = some (G.2.2 (60 + c), e)) ?_ ⟨_, by rw [show 60 + 7 = 67 from rfl, a67]; rfl⟩
    refine ltS9 (P := fun c => ∃ e, _ = some (G.2.2 (60 + c), e)) ?_ ⟨_, by rw [show 60 + 6 = 66 from rfl, a66]; rfl⟩
    refine ltS9 (P := fun c => ∃ e, _ = some (G.2.2 (60 + c), e)) ?_ ⟨_, by rw [show 60 + 5 = 65 from rfl, a65]; rfl⟩
    refine ltS9 (P := fun c => ∃ e, _ = some (G.2.2 (60 + c), e)) ?_ ⟨_, by rw [show 60 + 4 = 64 from rfl, a64]; rfl⟩
    refine ltS9 (P := fun c => ∃ e, _ = some (G.2.2 (60 + c), e)) ?_ ⟨_, by rw [show 60 + 3 = 63 from rfl, a63]; rfl⟩
    refine ltS9 (P := fun c => ∃ e, _ = some (G.2.2 (60 + c), e)) ?_ ⟨_, by rw [show 60 + 2 = 62 from rfl, a62]; rfl⟩
    refine ltS9 (P := fun c => ∃ e, _ = some (G.2.2 (60 + c), e)) ?_ ⟨_, by rw [show 60 + 1 = 61 from rfl, a61]; rfl⟩
    refine ltS9 (P := fun c => ∃ e, _ = some (G.2.2 (60 + c), e)) ?_ ⟨_, by rw [show 60 + 0 = 60 from rfl, a60]; rfl⟩
    exact ltZ9
theorem lw_c1 : Cond.classLink RL 7 RX1 ∈ gd_tbl := in_gd (i := 90) (by decide +kernel) rfl
theorem lw_in1 : Cond.instantiable RX1 19 ∈ gd_tbl := in_gd (i := 91) (by decide +kernel) rfl
theorem lw_i1 : Cond.initialized RX1 ∈ gd_tbl := in_gd (i := 84) (by decide +kernel) rfl
theorem lw_m1 : Cond.methodLink RL 9 yX1_init ∈ gd_tbl := in_gd (i := 92) (by decide +kernel) rfl
theorem lw_im1 : Cond.instanceMethod yX1_init ∈ gd_tbl := in_gd (i := 93) (by decide +kernel) rfl
theorem lw_cd1 : Cond.code yX1_init cX1_init 1 none ∈ gd_tbl := in_gd (i := 94) (by decide +kernel) rfl
theorem lw_c2 : Cond.classLink RL 10 RX2 ∈ gd_tbl := in_gd (i := 607) (by decide +kernel) rfl
theorem lw_in2 : Cond.instantiable RX2 23 ∈ gd_tbl := in_gd (i := 608) (by decide +kernel) rfl
theorem lw_i2 : Cond.initialized RX2 ∈ gd_tbl := in_gd (i := 87) (by decide +kernel) rfl
theorem lw_m2 : Cond.methodLink RL 12 yX2_init ∈ gd_tbl := in_gd (i := 609) (by decide +kernel) rfl
theorem lw_im2 : Cond.instanceMethod yX2_init ∈ gd_tbl := in_gd (i := 610) (by decide +kernel) rfl
theorem lw_cd2 : Cond.code yX2_init cX2_init 2 none ∈ gd_tbl := in_gd (i := 611) (by decide +kernel) rfl
theorem ad_of {w : va_W} {j : Nat} (h : j < w.length) : ∃ e, w[j]? = some ((w.map Prod.fst).getD j 0, e) := by
  refine ⟨w[j].2, ?_⟩
  rw [List.getElem?_eq_getElem h]
  simp [List.getD, h]
theorem yo1_init : yOk yX1_init 0 := ⟨by decide, by decide, by decide +kernel⟩
theorem yo2_init : yOk yX2_init 0 := ⟨by decide, by decide, by decide +kernel⟩
theorem z_1 : ∀ j, j < 19 → defaultValue (tyX1 j) = vp_V [.null, .null, .null, .null, .null, .null, .null, .null, .int 0, .null, .null, .int 0, .long 0, .long 0, .int 0, .null, .null, .null, .null] j := by
  refine ltS9 (P := fun j => defaultValue (tyX1 j) = vp_V [.null, .null, .null, .null, .null, .null, .null, .null, .int 0, .null, .null, .int 0, .long 0, .long 0, .int 0, .null, .null, .null, .null] j) ?_ rfl
  refine ltS9 (P := fun j => defaultValue (tyX1 j) = vp_V [.null, .null, .null, .null, .null, .null, .null, .null, .int 0, .null, .null, .int 0, .long 0, .long 0, .int 0, .null, .null, .null, .null] j) ?_ rfl
  refine ltS9 (P := fun j => defaultValue (tyX1 j) = vp_V [.null, .null, .null, .null, .null, .null, .null, .null, .int 0, .null, .null, .int 0, .long 0, .long 0, .int 0, .null, .null, .null, .null] j) ?_ rfl
  refine ltS9 (P := fun j => defaultValue (tyX1 j) = vp_V [.null, .null, .null, .null, .null, .null, .null, .null, .int 0, .null, .null, .int 0, .long 0, .long 0, .int 0, .null, .null, .null, .null] j) ?_ rfl
  refine ltS9 (P := fun j => defaultValue (tyX1 j) = vp_V [.null, .null, .null, .null, .null, .null, .null, .null, .int 0, .null, .null, .int 0, .long 0, .long 0, .int 0, .null, .null, .null, .null] j) ?_ rfl
  refine ltS9 (P := fun j => defaultValue (tyX1 j) = vp_V [.null, .null, .null, .null, .null, .null, .null, .null, .int 0, .null, .null, .int 0, .long 0, .long 0, .int 0, .null, .null, .null, .null] j) ?_ rfl
  refine ltS9 (P := fun j => defaultValue (tyX1 j) = vp_V [.null, .null, .null, .null, .null, .null, .null, .null, .int 0, .null, .null, .int 0, .long 0, .long 0, .int 0, .null, .null, .null, .null] j) ?_ rfl
  refine ltS9 (P := fun j => defaultValue (tyX1 j) = vp_V [.null, .null, .null, .null, .null, .null, .null, .null, .int 0, .null, .null, .int 0, .long 0, .long 0, .int 0, .null, .null, .null, .null] j) ?_ rfl
  refine ltS9 (P := fun j => defaultValue (tyX1 j) = vp_V [.null, .null, .null, .null, .null, .null, .null, .null, .int 0, .null, .null, .int 0, .long 0, .long 0, .int 0, .null, .null, .null, .null] j) ?_ rfl
  refine ltS9 (P := fun j => defaultValue (tyX1 j) = vp_V [.null, .null, .null, .null, .null, .null, .null, .null, .int 0, .null, .null, .int 0, .long 0, .long 0, .int 0, .null, .null, .null, .null] j) ?_ rfl
  refine ltS9 (P := fun j => defaultValue (tyX1 j) = vp_V [.null, .null, .null, .null, .null, .null, .null, .null, .int 0, .null, .null, .int 0, .long 0, .long 0, .int 0, .null, .null, .null, .null] j) ?_ rfl
  refine ltS9 (P := fun j => defaultValue (tyX1 j) = vp_V [.null, .null, .null, .null, .null, .null, .null, .null, .int 0, .null, .null, .int 0, .long 0, .long 0, .int 0, .null, .null, .null, .null] j) ?_ rfl
  refine ltS9 (P := fun j => defaultValue (tyX1 j) = vp_V [.null, .null, .null, .null, .null, .null, .null, .null, .int 0, .null, .null, .int 0, .long 0, .long 0, .int 0, .null, .null, .null, .null] j) ?_ rfl
  refine ltS9 (P := fun j => defaultValue (tyX1 j) = vp_V [.null, .null, .null, .null, .null, .null, .null, .null, .int 0, .null, .null, .int 0, .long 0, .long 0, .int 0, .null, .null, .null, .null] j) ?_ rfl
  refine ltS9 (P := fun j => defaultValue (tyX1 j) = vp_V [.null, .null, .null, .null, .null, .null, .null, .null, .int 0, .null, .null, .int 0, .long 0, .long 0, .int 0, .null, .null, .null, .null] j) ?_ rfl
  refine ltS9 (P := fun j => defaultValue (tyX1 j) = vp_V [.null, .null, .null, .null, .null, .null, .null, .null, .int 0, .null, .null, .int 0, .long 0, .long 0, .int 0, .null, .null, .null, .null] j) ?_ rfl
  refine ltS9 (P := fun j => defaultValue (tyX1 j) = vp_V [.null, .null, .null, .null, .null, .null, .null, .null, .int 0, .null, .null, .int 0, .long 0, .long 0, .int 0, .null, .null, .null, .null] j) ?_ rfl
  refine ltS9 (P := fun j => defaultValue (tyX1 j) = vp_V [.null, .null, .null, .null, .null, .null, .null, .null, .int 0, .null, .null, .int 0, .long 0, .long 0, .int 0, .null, .null, .null, .null] j) ?_ rfl
  refine ltS9 (P := fun j => defaultValue (tyX1 j) = vp_V [.null, .null, .null, .null, .null, .null, .null, .null, .int 0, .null, .null, .int 0, .long 0, .long 0, .int 0, .null, .null, .null, .null] j) ?_ rfl
  exact ltZ9
theorem z_2 : ∀ j, j < 23 → defaultValue (tyX2 j) = vp_V [.null, .int 0, .null, .null, .null, .null, .null, .int 0, .long 0, .long 0, .int 0, .null, .int 0, .int 0, .int 0, .int 0, .null, .int 0, .null, .null, .null, .null, .long 0] j := by
  refine ltS9 (P := fun j => defaultValue (tyX2 j) = vp_V [.null, .int 0, .null, .null, .null, .null, .null, .int 0, .long 0, .long 0, .int 0, .null, .int 0, .int 0, .int 0, .int 0, .null, .int 0, .null, .null, .null, .null, .long 0] j) ?_ rfl
  refine ltS9 (P := fun j => defaultValue (tyX2 j) = vp_V [.null, .int 0, .null, .null, .null, .null, .null, .int 0, .long 0, .long 0, .int 0, .null, .int 0, .int 0, .int 0, .int 0, .null, .int 0, .null, .null, .null, .null, .long 0] j) ?_ rfl
  refine ltS9 (P := fun j => defaultValue (tyX2 j) = vp_V [.null, .int 0, .null, .null, .null, .null, .null, .int 0, .long 0, .long 0, .int 0, .null, .int 0, .int 0, .int 0, .int 0, .null, .int 0, .null, .null, .null, .null, .long 0] j) ?_ rfl
  refine ltS9 (P := fun j => defaultValue (tyX2 j) = vp_V [.null, .int 0, .null, .null, .null, .null, .null, .int 0, .long 0, .long 0, .int 0, .null, .int 0, .int 0, .int 0, .int 0, .null, .int 0, .null, .null, .null, .null, .long 0] j) ?_ rfl
  refine ltS9 (P := fun j => defaultValue (tyX2 j) = vp_V [.null, .int 0, .null, .null, .null, .null, .null, .int 0, .long 0, .long 0, .int 0, .null, .int 0, .int 0, .int 0, .int 0, .null, .int 0, .null, .null, .null, .null, .long 0] j) ?_ rfl
  refine ltS9 (P := fun j => defaultValue (tyX2 j) = vp_V [.null, .int 0, .null, .null, .null, .null, .null, .int 0, .long 0, .long 0, .int 0, .null, .int 0, .int 0, .int 0, .int 0, .null, .int 0, .null, .null, .null, .null, .long 0] j) ?_ rfl
  refine ltS9 (P := fun j => defaultValue (tyX2 j) = vp_V [.null, .int 0, .null, .null, .null, .null, .null, .int 0, .long 0, .long 0, .int 0, .null, .int 0, .int 0, .int 0, .int 0, .null, .int 0, .null, .null, .null, .null, .long 0] j) ?_ rfl
  refine ltS9 (P := fun j => defaultValue (tyX2 j) = vp_V [.null, .int 0, .null, .null, .null, .null, .null, .int 0, .long 0, .long 0, .int 0, .null, .int 0, .int 0, .int 0, .int 0, .null, .int 0, .null, .null, .null, .null, .long 0] j) ?_ rfl
  refine ltS9 (P := fun j => defaultValue (tyX2 j) = vp_V [.null, .int 0, .null, .null, .null, .null, .null, .int 0, .long 0, .long 0, .int 0, .null, .int 0, .int 0, .int 0, .int 0, .null, .int 0, .null, .null, .null, .null, .long 0] j) ?_ rfl
  refine ltS9 (P := fun j => defaultValue (tyX2 j) = vp_V [.null, .int 0, .null, .null, .null, .null, .null, .int 0, .long 0, .long 0, .int 0, .null, .int 0, .int 0, .int 0, .int 0, .null, .int 0, .null, .null, .null, .null, .long 0] j) ?_ rfl
  refine ltS9 (P := fun j => defaultValue (tyX2 j) = vp_V [.null, .int 0, .null, .null, .null, .null, .null, .int 0, .long 0, .long 0, .int 0, .null, .int 0, .int 0, .int 0, .int 0, .null, .int 0, .null, .null, .null, .null, .long 0] j) ?_ rfl
  refine ltS9 (P := fun j => defaultValue (tyX2 j) = vp_V [.null, .int 0, .null, .null, .null, .null, .null, .int 0, .long 0, .long 0, .int 0, .null, .int 0, .int 0, .int 0, .int 0, .null, .int 0, .null, .null, .null, .null, .long 0] j) ?_ rfl
  refine ltS9 (P := fun j => defaultValue (tyX2 j) = vp_V [.null, .int 0, .null, .null, .null, .null, .null, .int 0, .long 0, .long 0, .int 0, .null, .int 0, .int 0, .int 0, .int 0, .null, .int 0, .null, .null, .null, .null, .long 0] j) ?_ rfl
  refine ltS9 (P := fun j => defaultValue (tyX2 j) = vp_V [.null, .int 0, .null, .null, .null, .null, .null, .int 0, .long 0, .long 0, .int 0, .null, .int 0, .int 0, .int 0, .int 0, .null, .int 0, .null, .null, .null, .null, .long 0] j) ?_ rfl
  refine ltS9 (P := fun j => defaultValue (tyX2 j) = vp_V [.null, .int 0, .null, .null, .null, .null, .null, .int 0, .long 0, .long 0, .int 0, .null, .int 0, .int 0, .int 0, .int 0, .null, .int 0, .null, .null, .null, .null, .long 0] j) ?_ rfl
  refine ltS9 (P := fun j => defaultValue (tyX2 j) = vp_V [.null, .int 0, .null, .null, .null, .null, .null, .int 0, .long 0, .long 0, .int 0, .null, .int 0, .int 0, .int 0, .int 0, .null, .int 0, .null, .null, .null, .null, .long 0] j) ?_ rfl
  refine ltS9 (P := fun j => defaultValue (tyX2 j) = vp_V [.null, .int 0, .null, .null, .null, .null, .null, .int 0, .long 0, .long 0, .int 0, .null, .int 0, .int 0, .int 0, .int 0, .null, .int 0, .null, .null, .null, .null, .long 0] j) ?_ rfl
  refine ltS9 (P := fun j => defaultValue (tyX2 j) = vp_V [.null, .int 0, .null, .null, .null, .null, .null, .int 0, .long 0, .long 0, .int 0, .null, .int 0, .int 0, .int 0, .int 0, .null, .int 0, .null, .null, .null, .null, .long 0] j) ?_ rfl
  refine ltS9 (P := fun j => defaultValue (tyX2 j) = vp_V [.null, .int 0, .null, .null, .null, .null, .null, .int 0, .long 0, .long 0, .int 0, .null, .int 0, .int 0, .int 0, .int 0, .null, .int 0, .null, .null, .null, .null, .long 0] j) ?_ rfl
  refine ltS9 (P := fun j => defaultValue (tyX2 j) = vp_V [.null, .int 0, .null, .null, .null, .null, .null, .int 0, .long 0, .long 0, .int 0, .null, .int 0, .int 0, .int 0, .int 0, .null, .int 0, .null, .null, .null, .null, .long 0] j) ?_ rfl
  refine ltS9 (P := fun j => defaultValue (tyX2 j) = vp_V [.null, .int 0, .null, .null, .null, .null, .null, .int 0, .long 0, .long 0, .int 0, .null, .int 0, .int 0, .int 0, .int 0, .null, .int 0, .null, .null, .null, .null, .long 0] j) ?_ rfl
  refine ltS9 (P := fun j => defaultValue (tyX2 j) = vp_V [.null, .int 0, .null, .null, .null, .null, .null, .int 0, .long 0, .long 0, .int 0, .null, .int 0, .int 0, .int 0, .int 0, .null, .int 0, .null, .null, .null, .null, .long 0] j) ?_ rfl
  refine ltS9 (P := fun j => defaultValue (tyX2 j) = vp_V [.null, .int 0, .null, .null, .null, .null, .null, .int 0, .long 0, .long 0, .int 0, .null, .int 0, .int 0, .int 0, .int 0, .null, .int 0, .null, .null, .null, .null, .long 0] j) ?_ rfl
  exact ltZ9
theorem b_1 (h0 sz : Nat) (D : va_G) (w : va_W) : FrameBlind (va_Pc [.ref h0] (fun U => U.heap.size = sz ∧ va_P D cls3 w U.heap ∧ va_K D cls3 [] U ∧ va_D (fun _ => True) w ∧ (∀ w ∈ ns_tbl, va_Nw w U) ∧ va_AOA .int U ∧ va_AOA .byte U)) := fun a U g mk q => by
  obtain ⟨q0, q1, qP, qK, qD, qn, qa, qb⟩ := q
  exact ⟨q0, q1, qP, va_K.moved (u := U) (U := U.calling g mk a) (Vm.Alike.refl U.vm) qK, qD, fun w hw => va_Nw.same (u := U) (U := U.calling g mk a) (ns_on hw) rfl (qn w hw), AOA_moved (u := U) (U := U.calling g mk a) (Vm.Alike.refl U.vm) qa, AOA_moved (u := U) (U := U.calling g mk a) (Vm.Alike.refl U.vm) qb⟩
theorem b_2 (h0 sz : Nat) (D : va_G) (w : va_W) : FrameBlind (va_Pc [.ref h0] (fun U => U.heap.size = sz ∧ va_P D cls3 w U.heap ∧ va_K D cls3 [] U ∧ va_D (fun _ => True) w)) := fun a U g mk q => by
  obtain ⟨q0, q1, qP, qK, qD⟩ := q
  exact ⟨q0, q1, qP, va_K.moved (u := U) (U := U.calling g mk a) (Vm.Alike.refl U.vm) qK, qD⟩
/-- the class's cells and the model's are one world -/
theorem ws_join {D : va_G} {A : Nat → Prop} {F w13 : va_W} {H : Heap} {G : wC} {ad : Nat → Nat} (hP : va_P D cls3 (F ++ w13) H) (hD : va_D A (F ++ w13))
    (hF : ∀ (A1 : Nat → Prop), va_P D cls3 F H → va_D A1 F → va_P D cls3 (ws60 G) H ∧ va_D A1 (ws60 G)) (hM : va_P D cls3 w13 H → va_D A w13 → va_P D cls3 (ws13 G) H ∧ va_D A (ws13 G)) (hA : ∀ (j : Nat) (q : Nat × va_E), (ws13 G)[j]? = some q → ∃ e, w13[j]? = some (q.1, e)) : va_P D cls3 (ws G μz) H ∧ va_D A (ws G μz) := by
  obtain ⟨p1, p2, d1, d2, hx⟩ := wl hP hD
  obtain ⟨f1, f2⟩ := hF (fun q => A q ∧ ∃ (k : Nat) (e : va_E), F[k]? = some (q, e)) p1 ⟨d1.1, fun k q hk => ⟨d1.2 k q hk, k, q.2, hk⟩⟩
  obtain ⟨m1, m2⟩ := hM p2 d2
  rw [ws_split]
  refine ⟨f1.app m1, va_D.app (f2.weaken (fun _ q _ h => h.1)) m2 (fun i j x y hi hj e => ?_)⟩
  obtain ⟨k, e1, hk⟩ := (f2.2 i x hi).2
  obtain ⟨e2, hj2⟩ := hA j y hj
  exact hx k j _ _ hk hj2 e
