/-! the model -/
theorem dX2_init_0 : decode cX2_init 0 = .ok (.aload_n 0, 1) := by decide +kernel
theorem dX2_init_1 : decode cX2_init 1 = .ok (.invokespecial 1, 3) := by decide +kernel
theorem dX2_init_4 : decode cX2_init 4 = .ok (.aload_n 0, 1) := by decide +kernel
theorem dX2_init_5 : decode cX2_init 5 = .ok (.sipush 3305, 3) := by decide +kernel
theorem dX2_init_8 : decode cX2_init 8 = .ok (.newarray .int, 2) := by decide +kernel
theorem dX2_init_10 : decode cX2_init 10 = .ok (.putfield 7, 3) := by decide +kernel
theorem dX2_init_13 : decode cX2_init 13 = .ok (.aload_n 0, 1) := by decide +kernel
theorem dX2_init_14 : decode cX2_init 14 = .ok (.bipush 6, 2) := by decide +kernel
theorem dX2_init_16 : decode cX2_init 16 = .ok (.newarray .int, 2) := by decide +kernel
theorem dX2_init_18 : decode cX2_init 18 = .ok (.putfield 13, 3) := by decide +kernel
theorem dX2_init_21 : decode cX2_init 21 = .ok (.aload_n 0, 1) := by decide +kernel
theorem dX2_init_22 : decode cX2_init 22 = .ok (.bipush 6, 2) := by decide +kernel
theorem dX2_init_24 : decode cX2_init 24 = .ok (.newarray .int, 2) := by decide +kernel
theorem dX2_init_26 : decode cX2_init 26 = .ok (.dup, 1) := by decide +kernel
theorem dX2_init_27 : decode cX2_init 27 = .ok (.iconst 0, 1) := by decide +kernel
theorem dX2_init_28 : decode cX2_init 28 = .ok (.iconst (-1), 1) := by decide +kernel
theorem dX2_init_29 : decode cX2_init 29 = .ok (.iastore, 1) := by decide +kernel
theorem dX2_init_30 : decode cX2_init 30 = .ok (.dup, 1) := by decide +kernel
theorem dX2_init_31 : decode cX2_init 31 = .ok (.iconst 1, 1) := by decide +kernel
theorem dX2_init_32 : decode cX2_init 32 = .ok (.iconst (-1), 1) := by decide +kernel
theorem dX2_init_33 : decode cX2_init 33 = .ok (.iastore, 1) := by decide +kernel
theorem dX2_init_34 : decode cX2_init 34 = .ok (.dup, 1) := by decide +kernel
theorem dX2_init_35 : decode cX2_init 35 = .ok (.iconst 2, 1) := by decide +kernel
theorem dX2_init_36 : decode cX2_init 36 = .ok (.iconst (-1), 1) := by decide +kernel
theorem dX2_init_37 : decode cX2_init 37 = .ok (.iastore, 1) := by decide +kernel
theorem dX2_init_38 : decode cX2_init 38 = .ok (.dup, 1) := by decide +kernel
theorem dX2_init_39 : decode cX2_init 39 = .ok (.iconst 3, 1) := by decide +kernel
theorem dX2_init_40 : decode cX2_init 40 = .ok (.iconst (-1), 1) := by decide +kernel
theorem dX2_init_41 : decode cX2_init 41 = .ok (.iastore, 1) := by decide +kernel
theorem dX2_init_42 : decode cX2_init 42 = .ok (.dup, 1) := by decide +kernel
theorem dX2_init_43 : decode cX2_init 43 = .ok (.iconst 4, 1) := by decide +kernel
theorem dX2_init_44 : decode cX2_init 44 = .ok (.iconst (-1), 1) := by decide +kernel
theorem dX2_init_45 : decode cX2_init 45 = .ok (.iastore, 1) := by decide +kernel
theorem dX2_init_46 : decode cX2_init 46 = .ok (.dup, 1) := by decide +kernel
theorem dX2_init_47 : decode cX2_init 47 = .ok (.iconst 5, 1) := by decide +kernel
theorem dX2_init_48 : decode cX2_init 48 = .ok (.iconst (-1), 1) := by decide +kernel
theorem dX2_init_49 : decode cX2_init 49 = .ok (.iastore, 1) := by decide +kernel
theorem dX2_init_50 : decode cX2_init 50 = .ok (.putfield 16, 3) := by decide +kernel
theorem dX2_init_53 : decode cX2_init 53 = .ok (.aload_n 0, 1) := by decide +kernel
theorem dX2_init_54 : decode cX2_init 54 = .ok (.sipush 240, 3) := by decide +kernel
theorem dX2_init_57 : decode cX2_init 57 = .ok (.newarray .int, 2) := by decide +kernel
theorem dX2_init_59 : decode cX2_init 59 = .ok (.putfield 19, 3) := by decide +kernel
theorem dX2_init_62 : decode cX2_init 62 = .ok (.aload_n 0, 1) := by decide +kernel
theorem dX2_init_63 : decode cX2_init 63 = .ok (.iconst 4, 1) := by decide +kernel
theorem dX2_init_64 : decode cX2_init 64 = .ok (.newarray .int, 2) := by decide +kernel
theorem dX2_init_66 : decode cX2_init 66 = .ok (.dup, 1) := by decide +kernel
theorem dX2_init_67 : decode cX2_init 67 = .ok (.iconst 0, 1) := by decide +kernel
theorem dX2_init_68 : decode cX2_init 68 = .ok (.iconst (-1), 1) := by decide +kernel
theorem dX2_init_69 : decode cX2_init 69 = .ok (.iastore, 1) := by decide +kernel
theorem dX2_init_70 : decode cX2_init 70 = .ok (.dup, 1) := by decide +kernel
theorem dX2_init_71 : decode cX2_init 71 = .ok (.iconst 1, 1) := by decide +kernel
theorem dX2_init_72 : decode cX2_init 72 = .ok (.iconst (-1), 1) := by decide +kernel
theorem dX2_init_73 : decode cX2_init 73 = .ok (.iastore, 1) := by decide +kernel
theorem dX2_init_74 : decode cX2_init 74 = .ok (.dup, 1) := by decide +kernel
theorem dX2_init_75 : decode cX2_init 75 = .ok (.iconst 2, 1) := by decide +kernel
theorem dX2_init_76 : decode cX2_init 76 = .ok (.iconst (-1), 1) := by decide +kernel
theorem dX2_init_77 : decode cX2_init 77 = .ok (.iastore, 1) := by decide +kernel
theorem dX2_init_78 : decode cX2_init 78 = .ok (.dup, 1) := by decide +kernel
theorem dX2_init_79 : decode cX2_init 79 = .ok (.iconst 3, 1) := by decide +kernel
theorem dX2_init_80 : decode cX2_init 80 = .ok (.iconst (-1), 1) := by decide +kernel
theorem dX2_init_81 : decode cX2_init 81 = .ok (.iastore, 1) := by decide +kernel
theorem dX2_init_82 : decode cX2_init 82 = .ok (.putfield 22, 3) := by decide +kernel
theorem dX2_init_85 : decode cX2_init 85 = .ok (.aload_n 0, 1) := by decide +kernel
theorem dX2_init_86 : decode cX2_init 86 = .ok (.sipush 240, 3) := by decide +kernel
theorem dX2_init_89 : decode cX2_init 89 = .ok (.newarray .int, 2) := by decide +kernel
theorem dX2_init_91 : decode cX2_init 91 = .ok (.putfield 25, 3) := by decide +kernel
theorem dX2_init_94 : decode cX2_init 94 = .ok (.aload_n 0, 1) := by decide +kernel
theorem dX2_init_95 : decode cX2_init 95 = .ok (.lconst 1, 1) := by decide +kernel
theorem dX2_init_96 : decode cX2_init 96 = .ok (.putfield 28, 3) := by decide +kernel
theorem dX2_init_99 : decode cX2_init 99 = .ok (.aload_n 0, 1) := by decide +kernel
theorem dX2_init_100 : decode cX2_init 100 = .ok (.bipush 6, 2) := by decide +kernel
theorem dX2_init_102 : decode cX2_init 102 = .ok (.newarray .int, 2) := by decide +kernel
theorem dX2_init_104 : decode cX2_init 104 = .ok (.putfield 32, 3) := by decide +kernel
theorem dX2_init_107 : decode cX2_init 107 = .ok (.aload_n 0, 1) := by decide +kernel
theorem dX2_init_108 : decode cX2_init 108 = .ok (.bipush 18, 2) := by decide +kernel
theorem dX2_init_110 : decode cX2_init 110 = .ok (.newarray .int, 2) := by decide +kernel
theorem dX2_init_112 : decode cX2_init 112 = .ok (.putfield 35, 3) := by decide +kernel
theorem dX2_init_115 : decode cX2_init 115 = .ok (.aload_n 0, 1) := by decide +kernel
theorem dX2_init_116 : decode cX2_init 116 = .ok (.bipush 6, 2) := by decide +kernel
theorem dX2_init_118 : decode cX2_init 118 = .ok (.newarray .int, 2) := by decide +kernel
theorem dX2_init_120 : decode cX2_init 120 = .ok (.putfield 38, 3) := by decide +kernel
theorem dX2_init_123 : decode cX2_init 123 = .ok (.aload_n 0, 1) := by decide +kernel
theorem dX2_init_124 : decode cX2_init 124 = .ok (.bipush 6, 2) := by decide +kernel
theorem dX2_init_126 : decode cX2_init 126 = .ok (.newarray .int, 2) := by decide +kernel
theorem dX2_init_128 : decode cX2_init 128 = .ok (.putfield 41, 3) := by decide +kernel
theorem dX2_init_131 : decode cX2_init 131 = .ok (.aload_n 0, 1) := by decide +kernel
theorem dX2_init_132 : decode cX2_init 132 = .ok (.sipush 147, 3) := by decide +kernel
theorem dX2_init_135 : decode cX2_init 135 = .ok (.newarray .int, 2) := by decide +kernel
theorem dX2_init_137 : decode cX2_init 137 = .ok (.putfield 44, 3) := by decide +kernel
theorem dX2_init_140 : decode cX2_init 140 = .ok (.aload_n 0, 1) := by decide +kernel
theorem dX2_init_141 : decode cX2_init 141 = .ok (.bipush 49, 2) := by decide +kernel
theorem dX2_init_143 : decode cX2_init 143 = .ok (.newarray .int, 2) := by decide +kernel
theorem dX2_init_145 : decode cX2_init 145 = .ok (.putfield 47, 3) := by decide +kernel
theorem dX2_init_148 : decode cX2_init 148 = .ok (.iconst 1, 1) := by decide +kernel
theorem dX2_init_149 : decode cX2_init 149 = .ok (.istore_n 1, 1) := by decide +kernel
theorem dX2_init_150 : decode cX2_init 150 = .ok (.iload_n 1, 1) := by decide +kernel
theorem dX2_init_151 : decode cX2_init 151 = .ok (.iconst 4, 1) := by decide +kernel
theorem dX2_init_152 : decode cX2_init 152 = .ok (.if_icmp .ge 22, 3) := by decide +kernel
theorem dX2_init_155 : decode cX2_init 155 = .ok (.aload_n 0, 1) := by decide +kernel
theorem dX2_init_156 : decode cX2_init 156 = .ok (.getfield 7, 3) := by decide +kernel
theorem dX2_init_159 : decode cX2_init 159 = .ok (.sipush 821, 3) := by decide +kernel
theorem dX2_init_162 : decode cX2_init 162 = .ok (.iload_n 1, 1) := by decide +kernel
theorem dX2_init_163 : decode cX2_init 163 = .ok (.imul, 1) := by decide +kernel
theorem dX2_init_164 : decode cX2_init 164 = .ok (.iconst 0, 1) := by decide +kernel
theorem dX2_init_165 : decode cX2_init 165 = .ok (.iadd, 1) := by decide +kernel
theorem dX2_init_166 : decode cX2_init 166 = .ok (.iconst (-1), 1) := by decide +kernel
theorem dX2_init_167 : decode cX2_init 167 = .ok (.iastore, 1) := by decide +kernel
theorem dX2_init_168 : decode cX2_init 168 = .ok (.iinc 1 1, 3) := by decide +kernel
theorem dX2_init_171 : decode cX2_init 171 = .ok (.goto (-21), 3) := by decide +kernel
theorem dX2_init_174 : decode cX2_init 174 = .ok (.return_, 1) := by decide +kernel
theorem lk2_o : Cond.methodLink RX2 1 objectInit ∈ gd_tbl := in_gd (i := 612) (by decide +kernel) rfl
theorem lk2_0 : Cond.fieldLink RX2 7 RX2 "row" "[I" ∈ gd_tbl := in_gd (i := 613) (by decide +kernel) rfl
theorem lk2_2 : Cond.fieldLink RX2 13 RX2 "kinds" "[I" ∈ gd_tbl := in_gd (i := 615) (by decide +kernel) rfl
theorem lk2_3 : Cond.fieldLink RX2 16 RX2 "sizes" "[I" ∈ gd_tbl := in_gd (i := 616) (by decide +kernel) rfl
theorem lk2_4 : Cond.fieldLink RX2 19 RX2 "items" "[I" ∈ gd_tbl := in_gd (i := 617) (by decide +kernel) rfl
theorem lk2_5 : Cond.fieldLink RX2 22 RX2 "lengths" "[I" ∈ gd_tbl := in_gd (i := 618) (by decide +kernel) rfl
theorem lk2_6 : Cond.fieldLink RX2 25 RX2 "bytes" "[I" ∈ gd_tbl := in_gd (i := 619) (by decide +kernel) rfl
theorem lk2_9 : Cond.fieldLink RX2 28 RX2 "lower" "J" ∈ gd_tbl := in_gd (i := 622) (by decide +kernel) rfl
theorem lk2_11 : Cond.fieldLink RX2 32 RX2 "findings" "[I" ∈ gd_tbl := in_gd (i := 624) (by decide +kernel) rfl
theorem lk2_16 : Cond.fieldLink RX2 35 RX2 "readPeople" "[I" ∈ gd_tbl := in_gd (i := 629) (by decide +kernel) rfl
theorem lk2_18 : Cond.fieldLink RX2 38 RX2 "by" "[I" ∈ gd_tbl := in_gd (i := 631) (by decide +kernel) rfl
theorem lk2_19 : Cond.fieldLink RX2 41 RX2 "bestBy" "[I" ∈ gd_tbl := in_gd (i := 632) (by decide +kernel) rfl
theorem lk2_20 : Cond.fieldLink RX2 44 RX2 "parts" "[I" ∈ gd_tbl := in_gd (i := 633) (by decide +kernel) rfl
theorem lk2_21 : Cond.fieldLink RX2 47 RX2 "atLast" "[I" ∈ gd_tbl := in_gd (i := 634) (by decide +kernel) rfl
theorem zf_61 : (upd (upd (upd (fun _ => 0) 821 (-1)) 1642 (-1)) 2463 (-1)) = fun k => Int32.ofInt (μz 61 k) := by
  funext k
  by_cases h : k = 821 ∨ k = 1642 ∨ k = 2463
  · rw [mz_m (by omega)]
    rcases h with rfl | rfl | rfl <;> decide
  · rw [mz_0 (by omega) (by omega), pk_un (by omega), pk_un (by omega), pk_un (by omega)]
    rfl
theorem zf_62 : (fun _ => 0 : Nat → Int32) = fun k => Int32.ofInt (μz 62 k) := by
  funext k
  rw [mz_0 (by omega) (by omega)]
  rfl
theorem zf_63 : (upd (upd (upd (upd (upd (upd (fun _ => 0) 0 (-1)) 1 (-1)) 2 (-1)) 3 (-1)) 4 (-1)) 5 (-1)) = fun k => Int32.ofInt (μz 63 k) := by
  funext k
  by_cases h : k = 0 ∨ k = 1 ∨ k = 2 ∨ k = 3 ∨ k = 4 ∨ k = 5
  · rw [mz_m (by omega)]
    rcases h with rfl | rfl | rfl | rfl | rfl | rfl <;> decide
  · rw [mz_0 (by omega) (by omega), pk_un (by omega), pk_un (by omega), pk_un (by omega), pk_un (by omega), pk_un (by omega), pk_un (by omega)]
    rfl
theorem zf_64 : (fun _ => 0 : Nat → Int32) = fun k => Int32.ofInt (μz 64 k) := by
  funext k
  rw [mz_0 (by omega) (by omega)]
  rfl
theorem zf_65 : (upd (upd (upd (upd (fun _ => 0) 0 (-1)) 1 (-1)) 2 (-1)) 3 (-1)) = fun k => Int32.ofInt (μz 65 k) := by
  funext k
  by_cases h : k = 0 ∨ k = 1 ∨ k = 2 ∨ k = 3
  · rw [mz_m (by omega)]
    rcases h with rfl | rfl | rfl | rfl <;> decide
  · rw [mz_0 (by omega) (by omega), pk_un (by omega), pk_un (by omega), pk_un (by omega), pk_un (by omega)]
    rfl
theorem zf_66 : (fun _ => 0 : Nat → Int32) = fun k => Int32.ofInt (μz 66 k) := by
  funext k
  rw [mz_0 (by omega) (by omega)]
  rfl
theorem zf_67 : (fun _ => 0 : Nat → Int32) = fun k => Int32.ofInt (μz 67 k) := by
  funext k
  rw [mz_0 (by omega) (by omega)]
  rfl
theorem zf_68 : (fun _ => 0 : Nat → Int32) = fun k => Int32.ofInt (μz 68 k) := by
  funext k
  rw [mz_0 (by omega) (by omega)]
  rfl
theorem zf_69 : (fun _ => 0 : Nat → Int32) = fun k => Int32.ofInt (μz 69 k) := by
  funext k
  rw [mz_0 (by omega) (by omega)]
  rfl
theorem zf_70 : (fun _ => 0 : Nat → Int32) = fun k => Int32.ofInt (μz 70 k) := by
  funext k
  rw [mz_0 (by omega) (by omega)]
  rfl
theorem zf_71 : (fun _ => 0 : Nat → Int32) = fun k => Int32.ofInt (μz 71 k) := by
  funext k
  rw [mz_0 (by omega) (by omega)]
  rfl
theorem zf_72 : (fun _ => 0 : Nat → Int32) = fun k => Int32.ofInt (μz 72 k) := by
  funext k
  rw [mz_0 (by omega) (by omega)]
  rfl
abbrev modelP (D : va_G) (A : Nat → Prop) (h0 : Nat) (t : State) : Prop := ∃ (cA : ClassId) (q1 q2 q3 q4 q5 q6 q7 q8 q9 q10 q11 q12 : Nat), va_P D cls3 [(h0, .inr (2, [.ref q1, .int 0, .ref q2, .ref q3, .ref q4, .ref q5, .ref q6, .int 0, .long 0, .long 1, .int 0, .ref q7, .int 0, .int 0, .int 0, .int 0, .ref q8, .int 0, .ref q9, .ref q10, .ref q11, .ref q12, .long 0])), (q1, .inl (cA, 3305, .inl fun k => Int32.ofInt (μz 61 k))), (q2, .inl (cA, 6, .inl fun k => Int32.ofInt (μz 62 k))), (q3, .inl (cA, 6, .inl fun k => Int32.ofInt (μz 63 k))), (q4, .inl (cA, 240, .inl fun k => Int32.ofInt (μz 64 k))), (q5, .inl (cA, 4, .inl fun k => Int32.ofInt (μz 65 k))), (q6, .inl (cA, 240, .inl fun k => Int32.ofInt (μz 66 k))), (q7, .inl (cA, 6, .inl fun k => Int32.ofInt (μz 67 k))), (q8, .inl (cA, 18, .inl fun k => Int32.ofInt (μz 68 k))), (q9, .inl (cA, 6, .inl fun k => Int32.ofInt (μz 69 k))), (q10, .inl (cA, 6, .inl fun k => Int32.ofInt (μz 70 k))), (q11, .inl (cA, 147, .inl fun k => Int32.ofInt (μz 71 k))), (q12, .inl (cA, 49, .inl fun k => Int32.ofInt (μz 72 k)))] t.heap ∧ va_K D cls3 [(cA, .int)] t ∧ va_D A [(h0, .inr (2, [.ref q1, .int 0, .ref q2, .ref q3, .ref q4, .ref q5, .ref q6, .int 0, .long 0, .long 1, .int 0, .ref q7, .int 0, .int 0, .int 0, .int 0, .ref q8, .int 0, .ref q9, .ref q10, .ref q11, .ref q12, .long 0])), (q1, .inl (cA, 3305, .inl fun k => Int32.ofInt (μz 61 k))), (q2, .inl (cA, 6, .inl fun k => Int32.ofInt (μz 62 k))), (q3, .inl (cA, 6, .inl fun k => Int32.ofInt (μz 63 k))), (q4, .inl (cA, 240, .inl fun k => Int32.ofInt (μz 64 k))), (q5, .inl (cA, 4, .inl fun k => Int32.ofInt (μz 65 k))), (q6, .inl (cA, 240, .inl fun k => Int32.ofInt (μz 66 k))), (q7, .inl (cA, 6, .inl fun k => Int32.ofInt (μz 67 k))), (q8, .inl (cA, 18, .inl fun k => Int32.ofInt (μz 68 k))), (q9, .inl (cA, 6, .inl fun k => Int32.ofInt (μz 69 k))), (q10, .inl (cA, 6, .inl fun k => Int32.ofInt (μz 70 k))), (q11, .inl (cA, 147, .inl fun k => Int32.ofInt (μz 71 k))), (q12, .inl (cA, 49, .inl fun k => Int32.ofInt (μz 72 k)))]
set_option maxHeartbeats 4000000 in
set_option maxRecDepth 100000 in
theorem K_X2_init (l : Launch) (D : va_G) (h0 sz : Nat) : Met l yX2_init (Cond.code yX2_init cX2_init 2 none :: gd_tbl) ({ frames := 1, cells := 12, slots := 4033, locals := 40 } : Room) (va_Pc [.ref h0] (fun U => U.heap.size = sz ∧ va_P D cls3 [(h0, .inr (2, [.null, .int 0, .null, .null, .null, .null, .null, .int 0, .long 0, .long 0, .int 0, .null, .int 0, .int 0, .int 0, .int 0, .null, .int 0, .null, .null, .null, .null, .long 0]))] U.heap ∧ va_K D cls3 [] U ∧ va_D (fun _ => True) [(h0, .inr (2, [.null, .int 0, .null, .null, .null, .null, .null, .int 0, .long 0, .long 0, .int 0, .null, .int 0, .int 0, .int 0, .int 0, .null, .int 0, .null, .null, .null, .null, .long 0]))])) (va_Qv (fun _ : Unit => True) (fun _ => modelP D (va_A [(h0, .inr (2, [.null, .int 0, .null, .null, .null, .null, .null, .int 0, .long 0, .long 0, .int 0, .null, .int 0, .int 0, .int 0, .int 0, .null, .int 0, .null, .null, .null, .null, .long 0]))] sz) h0) (va_A [(h0, .inr (2, [.null, .int 0, .null, .null, .null, .null, .null, .int 0, .long 0, .long 0, .int 0, .null, .int 0, .int 0, .int 0, .int 0, .null, .int 0, .null, .null, .null, .null, .long 0]))] sz)) 12 4033 (va_A [(h0, .inr (2, [.null, .int 0, .null, .null, .null, .null, .null, .int 0, .long 0, .long 0, .int 0, .null, .int 0, .int 0, .int 0, .int 0, .null, .int 0, .null, .null, .null, .null, .long 0]))] sz) := by
  refine Met.ofW (cc := cX2_init) (maxL := 2) (ret := none) (by decide) rfl ?_
  intro p e s m args below meth c s₁ B hml hv
  obtain ⟨rfl, hsz, hP, hK, hD0⟩ := hv
  have hx := B.exec
  have hb := B.bytes
  have hr := B.returns
  have hts0 := atoms_spec (ws := Cond.code yX2_init cX2_init 2 none :: gd_tbl) B.pre
  have hts : ∀ w ∈ gd_tbl, w.before _ s = true := fun w hw => hts0 w (List.mem_cons_of_mem _ hw)
  have hown : s.vm.findClass RX2 = some m.cls := findClass_of_methodNamed B.named
  have hlocks := B.notSynchronized
  have hin : meth.name = "<init>" := (name_of_methodNamed B.named B.method).1
  subst hsz
  have hD := hD0.self (sz := s.heap.size)
  generalize hAe : va_A [(h0, .inr (2, [.null, .int 0, .null, .null, .null, .null, .null, .int 0, .long 0, .long 0, .int 0, .null, .int 0, .int 0, .int 0, .int 0, .null, .int 0, .null, .null, .null, .null, .long 0]))] s.heap.size = A at hD ⊢
  have hA : ∀ q : Nat, s.heap.size ≤ q → A q := fun q h => by rw [← hAe]; exact Or.inr h
  have hS : va_S A s.heap s.heap [] := va_S.rf
  have hP : va_P D cls3 [(h0, .inr (2, [.null, .int 0, .null, .null, .null, .null, .null, .int 0, .long 0, .long 0, .int 0, .null, .int 0, .int 0, .int 0, .int 0, .null, .int 0, .null, .null, .null, .null, .long 0]))] s.heap := hP
  have hl := lv_entry ([.ref h0]) (n := 2) (Nat.le_of_ble_eq_true rfl)
  rw [lg_entry_eq]
  generalize (lg_sl ([.ref h0]) ++ List.replicate (2 - (lg_sl ([.ref h0])).length) Slot.unset).toArray = ls at hl ⊢
  have hl : lv_has ls 2 [(0, .ref h0)] := hl
  refine lv_aload_n hx hb dX2_init_0 rfl (lv_at hl 0 rfl) ?_
  refine W.objInit hx hb hown (hts _ lk2_o) (hts _ gd_oi) (hts _ gd_oc) rfl (by rw [hml]; exact hl.1) rfl dX2_init_1 (Nat.le_of_ble_eq_true rfl) (Nat.le_of_ble_eq_true rfl) ?_
  refine lv_aload_n hx hb dX2_init_4 rfl (lv_at hl 0 rfl) ?_
  refine lv_sipush (v := 3305) hx hb dX2_init_5 (by decide) ?_
  refine va_newa (atype := .int) hx hb (hts _ gd_aI) (ty := .int) rfl hK hP hD hS hA (N' := 3305) (a0 := (3305, .inl fun _ => 0)) (fun _ => rfl) (by decide) (by decide) (by decide) (Nat.le_of_ble_eq_true rfl) (Nat.le_of_ble_eq_true rfl) dX2_init_8 (fun q1 cB H hK hP hD hS => ?_)
  obtain ⟨cA, rfl⟩ : ∃ z, z = cB := ⟨_, rfl⟩
  have hK : va_K D cls3 [(cA, .int)] s := hK
  have hP : va_P D cls3 [(h0, .inr (2, [.null, .int 0, .null, .null, .null, .null, .null, .int 0, .long 0, .long 0, .int 0, .null, .int 0, .int 0, .int 0, .int 0, .null, .int 0, .null, .null, .null, .null, .long 0])), (q1, .inl (cA, 3305, .inl (fun _ => 0)))] H := hP
  have hD : va_D A [(h0, .inr (2, [.null, .int 0, .null, .null, .null, .null, .null, .int 0, .long 0, .long 0, .int 0, .null, .int 0, .int 0, .int 0, .int 0, .null, .int 0, .null, .null, .null, .null, .long 0])), (q1, .inl (cA, 3305, .inl (fun _ => 0)))] := hD
  refine va_putF (D := D) (ci := 2) (v := .ref q1) (ty := .array .int) (C := RX2) (T := TX2) (N := 23) hx hb hts inG2 tyX2 tyX2_ok nmX2 hown hK hP hD hS 0 rfl rfl 0 (by decide) (hts _ lk2_0) (fun _ h9 => h9) rfl hin rfl (by decide +kernel) rfl rfl (Nat.le_of_ble_eq_true rfl) dX2_init_10 (fun H locs hP hD hS => ?_)
  have hP : va_P D cls3 [(h0, .inr (2, [.ref q1, .int 0, .null, .null, .null, .null, .null, .int 0, .long 0, .long 0, .int 0, .null, .int 0, .int 0, .int 0, .int 0, .null, .int 0, .null, .null, .null, .null, .long 0])), (q1, .inl (cA, 3305, .inl (fun _ => 0)))] H := hP
  have hD : va_D A [(h0, .inr (2, [.ref q1, .int 0, .null, .null, .null, .null, .null, .int 0, .long 0, .long 0, .int 0, .null, .int 0, .int 0, .int 0, .int 0, .null, .int 0, .null, .null, .null, .null, .long 0])), (q1, .inl (cA, 3305, .inl (fun _ => 0)))] := hD
  refine lv_aload_n hx hb dX2_init_13 rfl (lv_at hl 0 rfl) ?_
  refine lv_bipush (v := 6) hx hb dX2_init_14 (by decide) ?_
  refine va_newa (atype := .int) hx hb (hts _ gd_aI) (ty := .int) rfl hK hP hD hS hA (N' := 6) (a0 := (6, .inl fun _ => 0)) (fun _ => rfl) (by decide) (by decide) (by decide) (Nat.le_of_ble_eq_true rfl) (Nat.le_of_ble_eq_true rfl) dX2_init_16 (fun q2 cB H hK hP hD hS => ?_)
  obtain rfl : cB = cA := K_same hK (i := 0) (j := 1) rfl rfl
  have hK := hK.sub (tys' := [(cB, .int)]) [0] rfl
  obtain ⟨cA, rfl⟩ : ∃ z, z = cB := ⟨_, rfl⟩
  have hP : va_P D cls3 [(h0, .inr (2, [.ref q1, .int 0, .null, .null, .null, .null, .null, .int 0, .long 0, .long 0, .int 0, .null, .int 0, .int 0, .int 0, .int 0, .null, .int 0, .null, .null, .null, .null, .long 0])), (q1, .inl (cA, 3305, .inl (fun _ => 0))), (q2, .inl (cA, 6, .inl (fun _ => 0)))] H := hP
  have hD : va_D A [(h0, .inr (2, [.ref q1, .int 0, .null, .null, .null, .null, .null, .int 0, .long 0, .long 0, .int 0, .null, .int 0, .int 0, .int 0, .int 0, .null, .int 0, .null, .null, .null, .null, .long 0])), (q1, .inl (cA, 3305, .inl (fun _ => 0))), (q2, .inl (cA, 6, .inl (fun _ => 0)))] := hD
  refine va_putF (D := D) (ci := 2) (v := .ref q2) (ty := .array .int) (C := RX2) (T := TX2) (N := 23) hx hb hts inG2 tyX2 tyX2_ok nmX2 hown hK hP hD hS 0 rfl rfl 2 (by decide) (hts _ lk2_2) (fun _ h9 => h9) rfl hin rfl (by decide +kernel) rfl rfl (Nat.le_of_ble_eq_true rfl) dX2_init_18 (fun H locs hP hD hS => ?_)
  have hP : va_P D cls3 [(h0, .inr (2, [.ref q1, .int 0, .ref q2, .null, .null, .null, .null, .int 0, .long 0, .long 0, .int 0, .null, .int 0, .int 0, .int 0, .int 0, .null, .int 0, .null, .null, .null, .null, .long 0])), (q1, .inl (cA, 3305, .inl (fun _ => 0))), (q2, .inl (cA, 6, .inl (fun _ => 0)))] H := hP
  have hD : va_D A [(h0, .inr (2, [.ref q1, .int 0, .ref q2, .null, .null, .null, .null, .int 0, .long 0, .long 0, .int 0, .null, .int 0, .int 0, .int 0, .int 0, .null, .int 0, .null, .null, .null, .null, .long 0])), (q1, .inl (cA, 3305, .inl (fun _ => 0))), (q2, .inl (cA, 6, .inl (fun _ => 0)))] := hD
  refine lv_aload_n hx hb dX2_init_21 rfl (lv_at hl 0 rfl) ?_
  refine lv_bipush (v := 6) hx hb dX2_init_22 (by decide) ?_
  refine va_newa (atype := .int) hx hb (hts _ gd_aI) (ty := .int) rfl hK hP hD hS hA (N' := 6) (a0 := (6, .inl fun _ => 0)) (fun _ => rfl) (by decide) (by decide) (by decide) (Nat.le_of_ble_eq_true rfl) (Nat.le_of_ble_eq_true rfl) dX2_init_24 (fun q3 cB H hK hP hD hS => ?_)
  obtain rfl : cB = cA := K_same hK (i := 0) (j := 1) rfl rfl
  have hK := hK.sub (tys' := [(cB, .int)]) [0] rfl
  obtain ⟨cA, rfl⟩ : ∃ z, z = cB := ⟨_, rfl⟩
  have hP : va_P D cls3 [(h0, .inr (2, [.ref q1, .int 0, .ref q2, .null, .null, .null, .null, .int 0, .long 0, .long 0, .int 0, .null, .int 0, .int 0, .int 0, .int 0, .null, .int 0, .null, .null, .null, .null, .long 0])), (q1, .inl (cA, 3305, .inl (fun _ => 0))), (q2, .inl (cA, 6, .inl (fun _ => 0))), (q3, .inl (cA, 6, .inl (fun _ => 0)))] H := hP
  have hD : va_D A [(h0, .inr (2, [.ref q1, .int 0, .ref q2, .null, .null, .null, .null, .int 0, .long 0, .long 0, .int 0, .null, .int 0, .int 0, .int 0, .int 0, .null, .int 0, .null, .null, .null, .null, .long 0])), (q1, .inl (cA, 3305, .inl (fun _ => 0))), (q2, .inl (cA, 6, .inl (fun _ => 0))), (q3, .inl (cA, 6, .inl (fun _ => 0)))] := hD
  refine lv_dup hx hb dX2_init_26 rfl ?_
  refine lv_iconst (v := 0) hx hb dX2_init_27 (by decide) ?_
  refine lv_iconst (v := -1) hx hb dX2_init_28 (by decide) ?_
  refine va_iast hx hb hK hP hD hS 3 0 rfl rfl (by unfold vp_in; decide) dX2_init_29 (fun H locs hP hD hS => ?_)
  rw [show (0 : Int32).toNatClampNeg = 0 from by decide] at hP hD
  have hP : va_P D cls3 [(h0, .inr (2, [.ref q1, .int 0, .ref q2, .null, .null, .null, .null, .int 0, .long 0, .long 0, .int 0, .null, .int 0, .int 0, .int 0, .int 0, .null, .int 0, .null, .null, .null, .null, .long 0])), (q1, .inl (cA, 3305, .inl (fun _ => 0))), (q2, .inl (cA, 6, .inl (fun _ => 0))), (q3, .inl (cA, 6, .inl (upd (fun _ => 0) 0 (-1))))] H := hP
  have hD : va_D A [(h0, .inr (2, [.ref q1, .int 0, .ref q2, .null, .null, .null, .null, .int 0, .long 0, .long 0, .int 0, .null, .int 0, .int 0, .int 0, .int 0, .null, .int 0, .null, .null, .null, .null, .long 0])), (q1, .inl (cA, 3305, .inl (fun _ => 0))), (q2, .inl (cA, 6, .inl (fun _ => 0))), (q3, .inl (cA, 6, .inl (upd (fun _ => 0) 0 (-1))))] := hD
  refine lv_dup hx hb dX2_init_30 rfl ?_
  refine lv_iconst (v := 1) hx hb dX2_init_31 (by decide) ?_
  refine lv_iconst (v := -1) hx hb dX2_init_32 (by decide) ?_
  refine va_iast hx hb hK hP hD hS 3 0 rfl rfl (by unfold vp_in; decide) dX2_init_33 (fun H locs hP hD hS => ?_)
  rw [show (1 : Int32).toNatClampNeg = 1 from by decide] at hP hD
  have hP : va_P D cls3 [(h0, .inr (2, [.ref q1, .int 0, .ref q2, .null, .null, .null, .null, .int 0, .long 0, .long 0, .int 0, .null, .int 0, .int 0, .int 0, .int 0, .null, .int 0, .null, .null, .null, .null, .long 0])), (q1, .inl (cA, 3305, .inl (fun _ => 0))), (q2, .inl (cA, 6, .inl (fun _ => 0))), (q3, .inl (cA, 6, .inl (upd (upd (fun _ => 0) 0 (-1)) 1 (-1))))] H := hP
  have hD : va_D A [(h0, .inr (2, [.ref q1, .int 0, .ref q2, .null, .null, .null, .null, .int 0, .long 0, .long 0, .int 0, .null, .int 0, .int 0, .int 0, .int 0, .null, .int 0, .null, .null, .null, .null, .long 0])), (q1, .inl (cA, 3305, .inl (fun _ => 0))), (q2, .inl (cA, 6, .inl (fun _ => 0))), (q3, .inl (cA, 6, .inl (upd (upd (fun _ => 0) 0 (-1)) 1 (-1))))] := hD
  refine lv_dup hx hb dX2_init_34 rfl ?_
  refine lv_iconst (v := 2) hx hb dX2_init_35 (by decide) ?_
  refine lv_iconst (v := -1) hx hb dX2_init_36 (by decide) ?_
  refine va_iast hx hb hK hP hD hS 3 0 rfl rfl (by unfold vp_in; decide) dX2_init_37 (fun H locs hP hD hS => ?_)
  rw [show (2 : Int32).toNatClampNeg = 2 from by decide] at hP hD
  have hP : va_P D cls3 [(h0, .inr (2, [.ref q1, .int 0, .ref q2, .null, .null, .null, .null, .int 0, .long 0, .long 0, .int 0, .null, .int 0, .int 0, .int 0, .int 0, .null, .int 0, .null, .null, .null, .null, .long 0])), (q1, .inl (cA, 3305, .inl (fun _ => 0))), (q2, .inl (cA, 6, .inl (fun _ => 0))), (q3, .inl (cA, 6, .inl (upd (upd (upd (fun _ => 0) 0 (-1)) 1 (-1)) 2 (-1))))] H := hP
  have hD : va_D A [(h0, .inr (2, [.ref q1, .int 0, .ref q2, .null, .null, .null, .null, .int 0, .long 0, .long 0, .int 0, .null, .int 0, .int 0, .int 0, .int 0, .null, .int 0, .null, .null, .null, .null, .long 0])), (q1, .inl (cA, 3305, .inl (fun _ => 0))), (q2, .inl (cA, 6, .inl (fun _ => 0))), (q3, .inl (cA, 6, .inl (upd (upd (upd (fun _ => 0) 0 (-1)) 1 (-1)) 2 (-1))))] := hD
  refine lv_dup hx hb dX2_init_38 rfl ?_
  refine lv_iconst (v := 3) hx hb dX2_init_39 (by decide) ?_
  refine lv_iconst (v := -1) hx hb dX2_init_40 (by decide) ?_
  refine va_iast hx hb hK hP hD hS 3 0 rfl rfl (by unfold vp_in; decide) dX2_init_41 (fun H locs hP hD hS => ?_)
  rw [show (3 : Int32).toNatClampNeg = 3 from by decide] at hP hD
  have hP : va_P D cls3 [(h0, .inr (2, [.ref q1, .int 0, .ref q2, .null, .null, .null, .null, .int 0, .long 0, .long 0, .int 0, .null, .int 0, .int 0, .int 0, .int 0, .null, .int 0, .null, .null, .null, .null, .long 0])), (q1, .inl (cA, 3305, .inl (fun _ => 0))), (q2, .inl (cA, 6, .inl (fun _ => 0))), (q3, .inl (cA, 6, .inl (upd (upd (upd (upd (fun _ => 0) 0 (-1)) 1 (-1)) 2 (-1)) 3 (-1))))] H := hP
  have hD : va_D A [(h0, .inr (2, [.ref q1, .int 0, .ref q2, .null, .null, .null, .null, .int 0, .long 0, .long 0, .int 0, .null, .int 0, .int 0, .int 0, .int 0, .null, .int 0, .null, .null, .null, .null, .long 0])), (q1, .inl (cA, 3305, .inl (fun _ => 0))), (q2, .inl (cA, 6, .inl (fun _ => 0))), (q3, .inl (cA, 6, .inl (upd (upd (upd (upd (fun _ => 0) 0 (-1)) 1 (-1)) 2 (-1)) 3 (-1))))] := hD
  refine lv_dup hx hb dX2_init_42 rfl ?_
  refine lv_iconst (v := 4) hx hb dX2_init_43 (by decide) ?_
  refine lv_iconst (v := -1) hx hb dX2_init_44 (by decide) ?_
  refine va_iast hx hb hK hP hD hS 3 0 rfl rfl (by unfold vp_in; decide) dX2_init_45 (fun H locs hP hD hS => ?_)
  rw [show (4 : Int32).toNatClampNeg = 4 from by decide] at hP hD
  have hP : va_P D cls3 [(h0, .inr (2, [.ref q1, .int 0, .ref q2, .null, .null, .null, .null, .int 0, .long 0, .long 0, .int 0, .null, .int 0, .int 0, .int 0, .int 0, .null, .int 0, .null, .null, .null, .null, .long 0])), (q1, .inl (cA, 3305, .inl (fun _ => 0))), (q2, .inl (cA, 6, .inl (fun _ => 0))), (q3, .inl (cA, 6, .inl (upd (upd (upd (upd (upd (fun _ => 0) 0 (-1)) 1 (-1)) 2 (-1)) 3 (-1)) 4 (-1))))] H := hP
  have hD : va_D A [(h0, .inr (2, [.ref q1, .int 0, .ref q2, .null, .null, .null, .null, .int 0, .long 0, .long 0, .int 0, .null, .int 0, .int 0, .int 0, .int 0, .null, .int 0, .null, .null, .null, .null, .long 0])), (q1, .inl (cA, 3305, .inl (fun _ => 0))), (q2, .inl (cA, 6, .inl (fun _ => 0))), (q3, .inl (cA, 6, .inl (upd (upd (upd (upd (upd (fun _ => 0) 0 (-1)) 1 (-1)) 2 (-1)) 3 (-1)) 4 (-1))))] := hD
  refine lv_dup hx hb dX2_init_46 rfl ?_
  refine lv_iconst (v := 5) hx hb dX2_init_47 (by decide) ?_
  refine lv_iconst (v := -1) hx hb dX2_init_48 (by decide) ?_
  refine va_iast hx hb hK hP hD hS 3 0 rfl rfl (by unfold vp_in; decide) dX2_init_49 (fun H locs hP hD hS => ?_)
  rw [show (5 : Int32).toNatClampNeg = 5 from by decide] at hP hD
  have hP : va_P D cls3 [(h0, .inr (2, [.ref q1, .int 0, .ref q2, .null, .null, .null, .null, .int 0, .long 0, .long 0, .int 0, .null, .int 0, .int 0, .int 0, .int 0, .null, .int 0, .null, .null, .null, .null, .long 0])), (q1, .inl (cA, 3305, .inl (fun _ => 0))), (q2, .inl (cA, 6, .inl (fun _ => 0))), (q3, .inl (cA, 6, .inl (upd (upd (upd (upd (upd (upd (fun _ => 0) 0 (-1)) 1 (-1)) 2 (-1)) 3 (-1)) 4 (-1)) 5 (-1))))] H := hP
  have hD : va_D A [(h0, .inr (2, [.ref q1, .int 0, .ref q2, .null, .null, .null, .null, .int 0, .long 0, .long 0, .int 0, .null, .int 0, .int 0, .int 0, .int 0, .null, .int 0, .null, .null, .null, .null, .long 0])), (q1, .inl (cA, 3305, .inl (fun _ => 0))), (q2, .inl (cA, 6, .inl (fun _ => 0))), (q3, .inl (cA, 6, .inl (upd (upd (upd (upd (upd (upd (fun _ => 0) 0 (-1)) 1 (-1)) 2 (-1)) 3 (-1)) 4 (-1)) 5 (-1))))] := hD
  refine va_putF (D := D) (ci := 2) (v := .ref q3) (ty := .array .int) (C := RX2) (T := TX2) (N := 23) hx hb hts inG2 tyX2 tyX2_ok nmX2 hown hK hP hD hS 0 rfl rfl 3 (by decide) (hts _ lk2_3) (fun _ h9 => h9) rfl hin rfl (by decide +kernel) rfl rfl (Nat.le_of_ble_eq_true rfl) dX2_init_50 (fun H locs hP hD hS => ?_)
  have hP : va_P D cls3 [(h0, .inr (2, [.ref q1, .int 0, .ref q2, .ref q3, .null, .null, .null, .int 0, .long 0, .long 0, .int 0, .null, .int 0, .int 0, .int 0, .int 0, .null, .int 0, .null, .null, .null, .null, .long 0])), (q1, .inl (cA, 3305, .inl (fun _ => 0))), (q2, .inl (cA, 6, .inl (fun _ => 0))), (q3, .inl (cA, 6, .inl (upd (upd (upd (upd (upd (upd (fun _ => 0) 0 (-1)) 1 (-1)) 2 (-1)) 3 (-1)) 4 (-1)) 5 (-1))))] H := hP
  have hD : va_D A [(h0, .inr (2, [.ref q1, .int 0, .ref q2, .ref q3, .null, .null, .null, .int 0, .long 0, .long 0, .int 0, .null, .int 0, .int 0, .int 0, .int 0, .null, .int 0, .null, .null, .null, .null, .long 0])), (q1, .inl (cA, 3305, .inl (fun _ => 0))), (q2, .inl (cA, 6, .inl (fun _ => 0))), (q3, .inl (cA, 6, .inl (upd (upd (upd (upd (upd (upd (fun _ => 0) 0 (-1)) 1 (-1)) 2 (-1)) 3 (-1)) 4 (-1)) 5 (-1))))] := hD
  refine lv_aload_n hx hb dX2_init_53 rfl (lv_at hl 0 rfl) ?_
  refine lv_sipush (v := 240) hx hb dX2_init_54 (by decide) ?_
  refine va_newa (atype := .int) hx hb (hts _ gd_aI) (ty := .int) rfl hK hP hD hS hA (N' := 240) (a0 := (240, .inl fun _ => 0)) (fun _ => rfl) (by decide) (by decide) (by decide) (Nat.le_of_ble_eq_true rfl) (Nat.le_of_ble_eq_true rfl) dX2_init_57 (fun q4 cB H hK hP hD hS => ?_)
  obtain rfl : cB = cA := K_same hK (i := 0) (j := 1) rfl rfl
  have hK := hK.sub (tys' := [(cB, .int)]) [0] rfl
  obtain ⟨cA, rfl⟩ : ∃ z, z = cB := ⟨_, rfl⟩
  have hP : va_P D cls3 [(h0, .inr (2, [.ref q1, .int 0, .ref q2, .ref q3, .null, .null, .null, .int 0, .long 0, .long 0, .int 0, .null, .int 0, .int 0, .int 0, .int 0, .null, .int 0, .null, .null, .null, .null, .long 0])), (q1, .inl (cA, 3305, .inl (fun _ => 0))), (q2, .inl (cA, 6, .inl (fun _ => 0))), (q3, .inl (cA, 6, .inl (upd (upd (upd (upd (upd (upd (fun _ => 0) 0 (-1)) 1 (-1)) 2 (-1)) 3 (-1)) 4 (-1)) 5 (-1)))), (q4, .inl (cA, 240, .inl (fun _ => 0)))] H := hP
  have hD : va_D A [(h0, .inr (2, [.ref q1, .int 0, .ref q2, .ref q3, .null, .null, .null, .int 0, .long 0, .long 0, .int 0, .null, .int 0, .int 0, .int 0, .int 0, .null, .int 0, .null, .null, .null, .null, .long 0])), (q1, .inl (cA, 3305, .inl (fun _ => 0))), (q2, .inl (cA, 6, .inl (fun _ => 0))), (q3, .inl (cA, 6, .inl (upd (upd (upd (upd (upd (upd (fun _ => 0) 0 (-1)) 1 (-1)) 2 (-1)) 3 (-1)) 4 (-1)) 5 (-1)))), (q4, .inl (cA, 240, .inl (fun _ => 0)))] := hD
  refine va_putF (D := D) (ci := 2) (v := .ref q4) (ty := .array .int) (C := RX2) (T := TX2) (N := 23) hx hb hts inG2 tyX2 tyX2_ok nmX2 hown hK hP hD hS 0 rfl rfl 4 (by decide) (hts _ lk2_4) (fun _ h9 => h9) rfl hin rfl (by decide +kernel) rfl rfl (Nat.le_of_ble_eq_true rfl) dX2_init_59 (fun H locs hP hD hS => ?_)
  have hP : va_P D cls3 [(h0, .inr (2, [.ref q1, .int 0, .ref q2, .ref q3, .ref q4, .null, .null, .int 0, .long 0, .long 0, .int 0, .null, .int 0, .int 0, .int 0, .int 0, .null, .int 0, .null, .null, .null, .null, .long 0])), (q1, .inl (cA, 3305, .inl (fun _ => 0))), (q2, .inl (cA, 6, .inl (fun _ => 0))), (q3, .inl (cA, 6, .inl (upd (upd (upd (upd (upd (upd (fun _ => 0) 0 (-1)) 1 (-1)) 2 (-1)) 3 (-1)) 4 (-1)) 5 (-1)))), (q4, .inl (cA, 240, .inl (fun _ => 0)))] H := hP
  have hD : va_D A [(h0, .inr (2, [.ref q1, .int 0, .ref q2, .ref q3, .ref q4, .null, .null, .int 0, .long 0, .long 0, .int 0, .null, .int 0, .int 0, .int 0, .int 0, .null, .int 0, .null, .null, .null, .null, .long 0])), (q1, .inl (cA, 3305, .inl (fun _ => 0))), (q2, .inl (cA, 6, .inl (fun _ => 0))), (q3, .inl (cA, 6, .inl (upd (upd (upd (upd (upd (upd (fun _ => 0) 0 (-1)) 1 (-1)) 2 (-1)) 3 (-1)) 4 (-1)) 5 (-1)))), (q4, .inl (cA, 240, .inl (fun _ => 0)))] := hD
  refine lv_aload_n hx hb dX2_init_62 rfl (lv_at hl 0 rfl) ?_
  refine lv_iconst (v := 4) hx hb dX2_init_63 (by decide) ?_
  refine va_newa (atype := .int) hx hb (hts _ gd_aI) (ty := .int) rfl hK hP hD hS hA (N' := 4) (a0 := (4, .inl fun _ => 0)) (fun _ => rfl) (by decide) (by decide) (by decide) (Nat.le_of_ble_eq_true rfl) (Nat.le_of_ble_eq_true rfl) dX2_init_64 (fun q5 cB H hK hP hD hS => ?_)
  obtain rfl : cB = cA := K_same hK (i := 0) (j := 1) rfl rfl
  have hK := hK.sub (tys' := [(cB, .int)]) [0] rfl
  obtain ⟨cA, rfl⟩ : ∃ z, z = cB := ⟨_, rfl⟩
  have hP : va_P D cls3 [(h0, .inr (2, [.ref q1, .int 0, .ref q2, .ref q3, .ref q4, .null, .null, .int 0, .long 0, .long 0, .int 0, .null, .int 0, .int 0, .int 0, .int 0, .null, .int 0, .null, .null, .null, .null, .long 0])), (q1, .inl (cA, 3305, .inl (fun _ => 0))), (q2, .inl (cA, 6, .inl (fun _ => 0))), (q3, .inl (cA, 6, .inl (upd (upd (upd (upd (upd (upd (fun _ => 0) 0 (-1)) 1 (-1)) 2 (-1)) 3 (-1)) 4 (-1)) 5 (-1)))), (q4, .inl (cA, 240, .inl (fun _ => 0))), (q5, .inl (cA, 4, .inl (fun _ => 0)))] H := hP
  have hD : va_D A [(h0, .inr (2, [.ref q1, .int 0, .ref q2, .ref q3, .ref q4, .null, .null, .int 0, .long 0, .long 0, .int 0, .null, .int 0, .int 0, .int 0, .int 0, .null, .int 0, .null, .null, .null, .null, .long 0])), (q1, .inl (cA, 3305, .inl (fun _ => 0))), (q2, .inl (cA, 6, .inl (fun _ => 0))), (q3, .inl (cA, 6, .inl (upd (upd (upd (upd (upd (upd (fun _ => 0) 0 (-1)) 1 (-1)) 2 (-1)) 3 (-1)) 4 (-1)) 5 (-1)))), (q4, .inl (cA, 240, .inl (fun _ => 0))), (q5, .inl (cA, 4, .inl (fun _ => 0)))] := hD
  refine lv_dup hx hb dX2_init_66 rfl ?_
  refine lv_iconst (v := 0) hx hb dX2_init_67 (by decide) ?_
  refine lv_iconst (v := -1) hx hb dX2_init_68 (by decide) ?_
  refine va_iast hx hb hK hP hD hS 5 0 rfl rfl (by unfold vp_in; decide) dX2_init_69 (fun H locs hP hD hS => ?_)
  rw [show (0 : Int32).toNatClampNeg = 0 from by decide] at hP hD
  have hP : va_P D cls3 [(h0, .inr (2, [.ref q1, .int 0, .ref q2, .ref q3, .ref q4, .null, .null, .int 0, .long 0, .long 0, .int 0, .null, .int 0, .int 0, .int 0, .int 0, .null, .int 0, .null, .null, .null, .null, .long 0])), (q1, .inl (cA, 3305, .inl (fun _ => 0))), (q2, .inl (cA, 6, .inl (fun _ => 0))), (q3, .inl (cA, 6, .inl (upd (upd (upd (upd (upd (upd (fun _ => 0) 0 (-1)) 1 (-1)) 2 (-1)) 3 (-1)) 4 (-1)) 5 (-1)))), (q4, .inl (cA, 240, .inl (fun _ => 0))), (q5, .inl (cA, 4, .inl (upd (fun _ => 0) 0 (-1))))] H := hP
  have hD : va_D A [(h0, .inr (2, [.ref q1, .int 0, .ref q2, .ref q3, .ref q4, .null, .null, .int 0, .long 0, .long 0, .int 0, .null, .int 0, .int 0, .int 0, .int 0, .null, .int 0, .null, .null, .null, .null, .long 0])), (q1, .inl (cA, 3305, .inl (fun _ => 0))), (q2, .inl (cA, 6, .inl (fun _ => 0))), (q3, .inl (cA, 6, .inl (upd (upd (upd (upd (upd (upd (fun _ => 0) 0 (-1)) 1 (-1)) 2 (-1)) 3 (-1)) 4 (-1)) 5 (-1)))), (q4, .inl (cA, 240, .inl (fun _ => 0))), (q5, .inl (cA, 4, .inl (upd (fun _ => 0) 0 (-1))))] := hD
  refine lv_dup hx hb dX2_init_70 rfl ?_
  refine lv_iconst (v := 1) hx hb dX2_init_71 (by decide) ?_
  refine lv_iconst (v := -1) hx hb dX2_init_72 (by decide) ?_
  refine va_iast hx hb hK hP hD hS 5 0 rfl rfl (by unfold vp_in; decide) dX2_init_73 (fun H locs hP hD hS => ?_)
  rw [show (1 : Int32).toNatClampNeg = 1 from by decide] at hP hD
  have hP : va_P D cls3 [(h0, .inr (2, [.ref q1, .int 0, .ref q2, .ref q3, .ref q4, .null, .null, .int 0, .long 0, .long 0, .int 0, .null, .int 0, .int 0, .int 0, .int 0, .null, .int 0, .null, .null, .null, .null, .long 0])), (q1, .inl (cA, 3305, .inl (fun _ => 0))), (q2, .inl (cA, 6, .inl (fun _ => 0))), (q3, .inl (cA, 6, .inl (upd (upd (upd (upd (upd (upd (fun _ => 0) 0 (-1)) 1 (-1)) 2 (-1)) 3 (-1)) 4 (-1)) 5 (-1)))), (q4, .inl (cA, 240, .inl (fun _ => 0))), (q5, .inl (cA, 4, .inl (upd (upd (fun _ => 0) 0 (-1)) 1 (-1))))] H := hP
  have hD : va_D A [(h0, .inr (2, [.ref q1, .int 0, .ref q2, .ref q3, .ref q4, .null, .null, .int 0, .long 0, .long 0, .int 0, .null, .int 0, .int 0, .int 0, .int 0, .null, .int 0, .null, .null, .null, .null, .long 0])), (q1, .inl (cA, 3305, .inl (fun _ => 0))), (q2, .inl (cA, 6, .inl (fun _ => 0))), (q3, .inl (cA, 6, .inl (upd (upd (upd (upd (upd (upd (fun _ => 0) 0 (-1)) 1 (-1)) 2 (-1)) 3 (-1)) 4 (-1)) 5 (-1)))), (q4, .inl (cA, 240, .inl (fun _ => 0))), (q5, .inl (cA, 4, .inl (upd (upd (fun _ => 0) 0 (-1)) 1 (-1))))] := hD
  refine lv_dup hx hb dX2_init_74 rfl ?_
  refine lv_iconst (v := 2) hx hb dX2_init_75 (by decide) ?_
  refine lv_iconst (v := -1) hx hb dX2_init_76 (by decide) ?_
  refine va_iast hx hb hK hP hD hS 5 0 rfl rfl (by unfold vp_in; decide) dX2_init_77 (fun H locs hP hD hS => ?_)
  rw [show (2 : Int32).toNatClampNeg = 2 from by decide] at hP hD
  have hP : va_P D cls3 [(h0, .inr (2, [.ref q1, .int 0, .ref q2, .ref q3, .ref q4, .null, .null, .int 0, .long 0, .long 0, .int 0, .null, .int 0, .int 0, .int 0, .int 0, .null, .int 0, .null, .null, .null, .null, .long 0])), (q1, .inl (cA, 3305, .inl (fun _ => 0))), (q2, .inl (cA, 6, .inl (fun _ => 0))), (q3, .inl (cA, 6, .inl (upd (upd (upd (upd (upd (upd (fun _ => 0) 0 (-1)) 1 (-1)) 2 (-1)) 3 (-1)) 4 (-1)) 5 (-1)))), (q4, .inl (cA, 240, .inl (fun _ => 0))), (q5, .inl (cA, 4, .inl (upd (upd (upd (fun _ => 0) 0 (-1)) 1 (-1)) 2 (-1))))] H := hP
  have hD : va_D A [(h0, .inr (2, [.ref q1, .int 0, .ref q2, .ref q3, .ref q4, .null, .null, .int 0, .long 0, .long 0, .int 0, .null, .int 0, .int 0, .int 0, .int 0, .null, .int 0, .null, .null, .null, .null, .long 0])), (q1, .inl (cA, 3305, .inl (fun _ => 0))), (q2, .inl (cA, 6, .inl (fun _ => 0))), (q3, .inl (cA, 6, .inl (upd (upd (upd (upd (upd (upd (fun _ => 0) 0 (-1)) 1 (-1)) 2 (-1)) 3 (-1)) 4 (-1)) 5 (-1)))), (q4, .inl (cA, 240, .inl (fun _ => 0))), (q5, .inl (cA, 4, .inl (upd (upd (upd (fun _ => 0) 0 (-1)) 1 (-1)) 2 (-1))))] := hD
  refine lv_dup hx hb dX2_init_78 rfl ?_
  refine lv_iconst (v := 3) hx hb dX2_init_79 (by decide) ?_
  refine lv_iconst (v := -1) hx hb dX2_init_80 (by decide) ?_
  refine va_iast hx hb hK hP hD hS 5 0 rfl rfl (by unfold vp_in; decide) dX2_init_81 (fun H locs hP hD hS => ?_)
  rw [show (3 : Int32).toNatClampNeg = 3 from by decide] at hP hD
  have hP : va_P D cls3 [(h0, .inr (2, [.ref q1, .int 0, .ref q2, .ref q3, .ref q4, .null, .null, .int 0, .long 0, .long 0, .int 0, .null, .int 0, .int 0, .int 0, .int 0, .null, .int 0, .null, .null, .null, .null, .long 0])), (q1, .inl (cA, 3305, .inl (fun _ => 0))), (q2, .inl (cA, 6, .inl (fun _ => 0))), (q3, .inl (cA, 6, .inl (upd (upd (upd (upd (upd (upd (fun _ => 0) 0 (-1)) 1 (-1)) 2 (-1)) 3 (-1)) 4 (-1)) 5 (-1)))), (q4, .inl (cA, 240, .inl (fun _ => 0))), (q5, .inl (cA, 4, .inl (upd (upd (upd (upd (fun _ => 0) 0 (-1)) 1 (-1)) 2 (-1)) 3 (-1))))] H := hP
  have hD : va_D A [(h0, .inr (2, [.ref q1, .int 0, .ref q2, .ref q3, .ref q4, .null, .null, .int 0, .long 0, .long 0, .int 0, .null, .int 0, .int 0, .int 0, .int 0, .null, .int 0, .null, .null, .null, .null, .long 0])), (q1, .inl (cA, 3305, .inl (fun _ => 0))), (q2, .inl (cA, 6, .inl (fun _ => 0))), (q3, .inl (cA, 6, .inl (upd (upd (upd (upd (upd (upd (fun _ => 0) 0 (-1)) 1 (-1)) 2 (-1)) 3 (-1)) 4 (-1)) 5 (-1)))), (q4, .inl (cA, 240, .inl (fun _ => 0))), (q5, .inl (cA, 4, .inl (upd (upd (upd (upd (fun _ => 0) 0 (-1)) 1 (-1)) 2 (-1)) 3 (-1))))] := hD
  refine va_putF (D := D) (ci := 2) (v := .ref q5) (ty := .array .int) (C := RX2) (T := TX2) (N := 23) hx hb hts inG2 tyX2 tyX2_ok nmX2 hown hK hP hD hS 0 rfl rfl 5 (by decide) (hts _ lk2_5) (fun _ h9 => h9) rfl hin rfl (by decide +kernel) rfl rfl (Nat.le_of_ble_eq_true rfl) dX2_init_82 (fun H locs hP hD hS => ?_)
  have hP : va_P D cls3 [(h0, .inr (2, [.ref q1, .int 0, .ref q2, .ref q3, .ref q4, .ref q5, .null, .int 0, .long 0, .long 0, .int 0, .null, .int 0, .int 0, .int 0, .int 0, .null, .int 0, .null, .null, .null, .null, .long 0])), (q1, .inl (cA, 3305, .inl (fun _ => 0))), (q2, .inl (cA, 6, .inl (fun _ => 0))), (q3, .inl (cA, 6, .inl (upd (upd (upd (upd (upd (upd (fun _ => 0) 0 (-1)) 1 (-1)) 2 (-1)) 3 (-1)) 4 (-1)) 5 (-1)))), (q4, .inl (cA, 240, .inl (fun _ => 0))), (q5, .inl (cA, 4, .inl (upd (upd (upd (upd (fun _ => 0) 0 (-1)) 1 (-1)) 2 (-1)) 3 (-1))))] H := hP
  have hD : va_D A [(h0, .inr (2, [.ref q1, .int 0, .ref q2, .ref q3, .ref q4, .ref q5, .null, .int 0, .long 0, .long 0, .int 0, .null, .int 0, .int 0, .int 0, .int 0, .null, .int 0, .null, .null, .null, .null, .long 0])), (q1, .inl (cA, 3305, .inl (fun _ => 0))), (q2, .inl (cA, 6, .inl (fun _ => 0))), (q3, .inl (cA, 6, .inl (upd (upd (upd (upd (upd (upd (fun _ => 0) 0 (-1)) 1 (-1)) 2 (-1)) 3 (-1)) 4 (-1)) 5 (-1)))), (q4, .inl (cA, 240, .inl (fun _ => 0))), (q5, .inl (cA, 4, .inl (upd (upd (upd (upd (fun _ => 0) 0 (-1)) 1 (-1)) 2 (-1)) 3 (-1))))] := hD
  refine lv_aload_n hx hb dX2_init_85 rfl (lv_at hl 0 rfl) ?_
  refine lv_sipush (v := 240) hx hb dX2_init_86 (by decide) ?_
  refine va_newa (atype := .int) hx hb (hts _ gd_aI) (ty := .int) rfl hK hP hD hS hA (N' := 240) (a0 := (240, .inl fun _ => 0)) (fun _ => rfl) (by decide) (by decide) (by decide) (Nat.le_of_ble_eq_true rfl) (Nat.le_of_ble_eq_true rfl) dX2_init_89 (fun q6 cB H hK hP hD hS => ?_)
  obtain rfl : cB = cA := K_same hK (i := 0) (j := 1) rfl rfl
  have hK := hK.sub (tys' := [(cB, .int)]) [0] rfl
  obtain ⟨cA, rfl⟩ : ∃ z, z = cB := ⟨_, rfl⟩
  have hP : va_P D cls3 [(h0, .inr (2, [.ref q1, .int 0, .ref q2, .ref q3, .ref q4, .ref q5, .null, .int 0, .long 0, .long 0, .int 0, .null, .int 0, .int 0, .int 0, .int 0, .null, .int 0, .null, .null, .null, .null, .long 0])), (q1, .inl (cA, 3305, .inl (fun _ => 0))), (q2, .inl (cA, 6, .inl (fun _ => 0))), (q3, .inl (cA, 6, .inl (upd (upd (upd (upd (upd (upd (fun _ => 0) 0 (-1)) 1 (-1)) 2 (-1)) 3 (-1)) 4 (-1)) 5 (-1)))), (q4, .inl (cA, 240, .inl (fun _ => 0))), (q5, .inl (cA, 4, .inl (upd (upd (upd (upd (fun _ => 0) 0 (-1)) 1 (-1)) 2 (-1)) 3 (-1)))), (q6, .inl (cA, 240, .inl (fun _ => 0)))] H := hP
  have hD : va_D A [(h0, .inr (2, [.ref q1, .int 0, .ref q2, .ref q3, .ref q4, .ref q5, .null, .int 0, .long 0, .long 0, .int 0, .null, .int 0, .int 0, .int 0, .int 0, .null, .int 0, .null, .null, .null, .null, .long 0])), (q1, .inl (cA, 3305, .inl (fun _ => 0))), (q2, .inl (cA, 6, .inl (fun _ => 0))), (q3, .inl (cA, 6, .inl (upd (upd (upd (upd (upd (upd (fun _ => 0) 0 (-1)) 1 (-1)) 2 (-1)) 3 (-1)) 4 (-1)) 5 (-1)))), (q4, .inl (cA, 240, .inl (fun _ => 0))), (q5, .inl (cA, 4, .inl (upd (upd (upd (upd (fun _ => 0) 0 (-1)) 1 (-1)) 2 (-1)) 3 (-1)))), (q6, .inl (cA, 240, .inl (fun _ => 0)))] := hD
  refine va_putF (D := D) (ci := 2) (v := .ref q6) (ty := .array .int) (C := RX2) (T := TX2) (N := 23) hx hb hts inG2 tyX2 tyX2_ok nmX2 hown hK hP hD hS 0 rfl rfl 6 (by decide) (hts _ lk2_6) (fun _ h9 => h9) rfl hin rfl (by decide +kernel) rfl rfl (Nat.le_of_ble_eq_true rfl) dX2_init_91 (fun H locs hP hD hS => ?_)
  have hP : va_P D cls3 [(h0, .inr (2, [.ref q1, .int 0, .ref q2, .ref q3, .ref q4, .ref q5, .ref q6, .int 0, .long 0, .long 0, .int 0, .null, .int 0, .int 0, .int 0, .int 0, .null, .int 0, .null, .null, .null, .null, .long 0])), (q1, .inl (cA, 3305, .inl (fun _ => 0))), (q2, .inl (cA, 6, .inl (fun _ => 0))), (q3, .inl (cA, 6, .inl (upd (upd (upd (upd (upd (upd (fun _ => 0) 0 (-1)) 1 (-1)) 2 (-1)) 3 (-1)) 4 (-1)) 5 (-1)))), (q4, .inl (cA, 240, .inl (fun _ => 0))), (q5, .inl (cA, 4, .inl (upd (upd (upd (upd (fun _ => 0) 0 (-1)) 1 (-1)) 2 (-1)) 3 (-1)))), (q6, .inl (cA, 240, .inl (fun _ => 0)))] H := hP
  have hD : va_D A [(h0, .inr (2, [.ref q1, .int 0, .ref q2, .ref q3, .ref q4, .ref q5, .ref q6, .int 0, .long 0, .long 0, .int 0, .null, .int 0, .int 0, .int 0, .int 0, .null, .int 0, .null, .null, .null, .null, .long 0])), (q1, .inl (cA, 3305, .inl (fun _ => 0))), (q2, .inl (cA, 6, .inl (fun _ => 0))), (q3, .inl (cA, 6, .inl (upd (upd (upd (upd (upd (upd (fun _ => 0) 0 (-1)) 1 (-1)) 2 (-1)) 3 (-1)) 4 (-1)) 5 (-1)))), (q4, .inl (cA, 240, .inl (fun _ => 0))), (q5, .inl (cA, 4, .inl (upd (upd (upd (upd (fun _ => 0) 0 (-1)) 1 (-1)) 2 (-1)) 3 (-1)))), (q6, .inl (cA, 240, .inl (fun _ => 0)))] := hD
  refine lv_aload_n hx hb dX2_init_94 rfl (lv_at hl 0 rfl) ?_
  refine lv_lconst (v := 1) hx hb dX2_init_95 (by decide) ?_
  refine va_put (D := D) (ci := 2) (v := .long 1) (ty := .long) (C := RX2) (T := TX2) (N := 23) hx hb hts inG2 tyX2 tyX2_ok nmX2 hown hK hP hD hS 0 rfl rfl 9 (by decide) (hts _ lk2_9) (fun _ h9 => h9) rfl (by decide +kernel) rfl rfl (Nat.le_of_ble_eq_true rfl) dX2_init_96 (fun H locs hP hD hS => ?_)
  have hP : va_P D cls3 [(h0, .inr (2, [.ref q1, .int 0, .ref q2, .ref q3, .ref q4, .ref q5, .ref q6, .int 0, .long 0, .long 1, .int 0, .null, .int 0, .int 0, .int 0, .int 0, .null, .int 0, .null, .null, .null, .null, .long 0])), (q1, .inl (cA, 3305, .inl (fun _ => 0))), (q2, .inl (cA, 6, .inl (fun _ => 0))), (q3, .inl (cA, 6, .inl (upd (upd (upd (upd (upd (upd (fun _ => 0) 0 (-1)) 1 (-1)) 2 (-1)) 3 (-1)) 4 (-1)) 5 (-1)))), (q4, .inl (cA, 240, .inl (fun _ => 0))), (q5, .inl (cA, 4, .inl (upd (upd (upd (upd (fun _ => 0) 0 (-1)) 1 (-1)) 2 (-1)) 3 (-1)))), (q6, .inl (cA, 240, .inl (fun _ => 0)))] H := hP
  have hD : va_D A [(h0, .inr (2, [.ref q1, .int 0, .ref q2, .ref q3, .ref q4, .ref q5, .ref q6, .int 0, .long 0, .long 1, .int 0, .null, .int 0, .int 0, .int 0, .int 0, .null, .int 0, .null, .null, .null, .null, .long 0])), (q1, .inl (cA, 3305, .inl (fun _ => 0))), (q2, .inl (cA, 6, .inl (fun _ => 0))), (q3, .inl (cA, 6, .inl (upd (upd (upd (upd (upd (upd (fun _ => 0) 0 (-1)) 1 (-1)) 2 (-1)) 3 (-1)) 4 (-1)) 5 (-1)))), (q4, .inl (cA, 240, .inl (fun _ => 0))), (q5, .inl (cA, 4, .inl (upd (upd (upd (upd (fun _ => 0) 0 (-1)) 1 (-1)) 2 (-1)) 3 (-1)))), (q6, .inl (cA, 240, .inl (fun _ => 0)))] := hD
  refine lv_aload_n hx hb dX2_init_99 rfl (lv_at hl 0 rfl) ?_
  refine lv_bipush (v := 6) hx hb dX2_init_100 (by decide) ?_
  refine va_newa (atype := .int) hx hb (hts _ gd_aI) (ty := .int) rfl hK hP hD hS hA (N' := 6) (a0 := (6, .inl fun _ => 0)) (fun _ => rfl) (by decide) (by decide) (by decide) (Nat.le_of_ble_eq_true rfl) (Nat.le_of_ble_eq_true rfl) dX2_init_102 (fun q7 cB H hK hP hD hS => ?_)
  obtain rfl : cB = cA := K_same hK (i := 0) (j := 1) rfl rfl
  have hK := hK.sub (tys' := [(cB, .int)]) [0] rfl
  obtain ⟨cA, rfl⟩ : ∃ z, z = cB := ⟨_, rfl⟩
  have hP : va_P D cls3 [(h0, .inr (2, [.ref q1, .int 0, .ref q2, .ref q3, .ref q4, .ref q5, .ref q6, .int 0, .long 0, .long 1, .int 0, .null, .int 0, .int 0, .int 0, .int 0, .null, .int 0, .null, .null, .null, .null, .long 0])), (q1, .inl (cA, 3305, .inl (fun _ => 0))), (q2, .inl (cA, 6, .inl (fun _ => 0))), (q3, .inl (cA, 6, .inl (upd (upd (upd (upd (upd (upd (fun _ => 0) 0 (-1)) 1 (-1)) 2 (-1)) 3 (-1)) 4 (-1)) 5 (-1)))), (q4, .inl (cA, 240, .inl (fun _ => 0))), (q5, .inl (cA, 4, .inl (upd (upd (upd (upd (fun _ => 0) 0 (-1)) 1 (-1)) 2 (-1)) 3 (-1)))), (q6, .inl (cA, 240, .inl (fun _ => 0))), (q7, .inl (cA, 6, .inl (fun _ => 0)))] H := hP
  have hD : va_D A [(h0, .inr (2, [.ref q1, .int 0, .ref q2, .ref q3, .ref q4, .ref q5, .ref q6, .int 0, .long 0, .long 1, .int 0, .null, .int 0, .int 0, .int 0, .int 0, .null, .int 0, .null, .null, .null, .null, .long 0])), (q1, .inl (cA, 3305, .inl (fun _ => 0))), (q2, .inl (cA, 6, .inl (fun _ => 0))), (q3, .inl (cA, 6, .inl (upd (upd (upd (upd (upd (upd (fun _ => 0) 0 (-1)) 1 (-1)) 2 (-1)) 3 (-1)) 4 (-1)) 5 (-1)))), (q4, .inl (cA, 240, .inl (fun _ => 0))), (q5, .inl (cA, 4, .inl (upd (upd (upd (upd (fun _ => 0) 0 (-1)) 1 (-1)) 2 (-1)) 3 (-1)))), (q6, .inl (cA, 240, .inl (fun _ => 0))), (q7, .inl (cA, 6, .inl (fun _ => 0)))] := hD
  refine va_putF (D := D) (ci := 2) (v := .ref q7) (ty := .array .int) (C := RX2) (T := TX2) (N := 23) hx hb hts inG2 tyX2 tyX2_ok nmX2 hown hK hP hD hS 0 rfl rfl 11 (by decide) (hts _ lk2_11) (fun _ h9 => h9) rfl hin rfl (by decide +kernel) rfl rfl (Nat.le_of_ble_eq_true rfl) dX2_init_104 (fun H locs hP hD hS => ?_)
  have hP : va_P D cls3 [(h0, .inr (2, [.ref q1, .int 0, .ref q2, .ref q3, .ref q4, .ref q5, .ref q6, .int 0, .long 0, .long 1, .int 0, .ref q7, .int 0, .int 0, .int 0, .int 0, .null, .int 0, .null, .null, .null, .null, .long 0])), (q1, .inl (cA, 3305, .inl (fun _ => 0))), (q2, .inl (cA, 6, .inl (fun _ => 0))), (q3, .inl (cA, 6, .inl (upd (upd (upd (upd (upd (upd (fun _ => 0) 0 (-1)) 1 (-1)) 2 (-1)) 3 (-1)) 4 (-1)) 5 (-1)))), (q4, .inl (cA, 240, .inl (fun _ => 0))), (q5, .inl (cA, 4, .inl (upd (upd (upd (upd (fun _ => 0) 0 (-1)) 1 (-1)) 2 (-1)) 3 (-1)))), (q6, .inl (cA, 240, .inl (fun _ => 0))), (q7, .inl (cA, 6, .inl (fun _ => 0)))] H := hP
  have hD : va_D A [(h0, .inr (2, [.ref q1, .int 0, .ref q2, .ref q3, .ref q4, .ref q5, .ref q6, .int 0, .long 0, .long 1, .int 0, .ref q7, .int 0, .int 0, .int 0, .int 0, .null, .int 0, .null, .null, .null, .null, .long 0])), (q1, .inl (cA, 3305, .inl (fun _ => 0))), (q2, .inl (cA, 6, .inl (fun _ => 0))), (q3, .inl (cA, 6, .inl (upd (upd (upd (upd (upd (upd (fun _ => 0) 0 (-1)) 1 (-1)) 2 (-1)) 3 (-1)) 4 (-1)) 5 (-1)))), (q4, .inl (cA, 240, .inl (fun _ => 0))), (q5, .inl (cA, 4, .inl (upd (upd (upd (upd (fun _ => 0) 0 (-1)) 1 (-1)) 2 (-1)) 3 (-1)))), (q6, .inl (cA, 240, .inl (fun _ => 0))), (q7, .inl (cA, 6, .inl (fun _ => 0)))] := hD
  refine lv_aload_n hx hb dX2_init_107 rfl (lv_at hl 0 rfl) ?_
  refine lv_bipush (v := 18) hx hb dX2_init_108 (by decide) ?_
  refine va_newa (atype := .int) hx hb (hts _ gd_aI) (ty := .int) rfl hK hP hD hS hA (N' := 18) (a0 := (18, .inl fun _ => 0)) (fun _ => rfl) (by decide) (by decide) (by decide) (Nat.le_of_ble_eq_true rfl) (Nat.le_of_ble_eq_true rfl) dX2_init_110 (fun q8 cB H hK hP hD hS => ?_)
  obtain rfl : cB = cA := K_same hK (i := 0) (j := 1) rfl rfl
  have hK := hK.sub (tys' := [(cB, .int)]) [0] rfl
  obtain ⟨cA, rfl⟩ : ∃ z, z = cB := ⟨_, rfl⟩
  have hP : va_P D cls3 [(h0, .inr (2, [.ref q1, .int 0, .ref q2, .ref q3, .ref q4, .ref q5, .ref q6, .int 0, .long 0, .long 1, .int 0, .ref q7, .int 0, .int 0, .int 0, .int 0, .null, .int 0, .null, .null, .null, .null, .long 0])), (q1, .inl (cA, 3305, .inl (fun _ => 0))), (q2, .inl (cA, 6, .inl (fun _ => 0))), (q3, .inl (cA, 6, .inl (upd (upd (upd (upd (upd (upd (fun _ => 0) 0 (-1)) 1 (-1)) 2 (-1)) 3 (-1)) 4 (-1)) 5 (-1)))), (q4, .inl (cA, 240, .inl (fun _ => 0))), (q5, .inl (cA, 4, .inl (upd (upd (upd (upd (fun _ => 0) 0 (-1)) 1 (-1)) 2 (-1)) 3 (-1)))), (q6, .inl (cA, 240, .inl (fun _ => 0))), (q7, .inl (cA, 6, .inl (fun _ => 0))), (q8, .inl (cA, 18, .inl (fun _ => 0)))] H := hP
  have hD : va_D A [(h0, .inr (2, [.ref q1, .int 0, .ref q2, .ref q3, .ref q4, .ref q5, .ref q6, .int 0, .long 0, .long 1, .int 0, .ref q7, .int 0, .int 0, .int 0, .int 0, .null, .int 0, .null, .null, .null, .null, .long 0])), (q1, .inl (cA, 3305, .inl (fun _ => 0))), (q2, .inl (cA, 6, .inl (fun _ => 0))), (q3, .inl (cA, 6, .inl (upd (upd (upd (upd (upd (upd (fun _ => 0) 0 (-1)) 1 (-1)) 2 (-1)) 3 (-1)) 4 (-1)) 5 (-1)))), (q4, .inl (cA, 240, .inl (fun _ => 0))), (q5, .inl (cA, 4, .inl (upd (upd (upd (upd (fun _ => 0) 0 (-1)) 1 (-1)) 2 (-1)) 3 (-1)))), (q6, .inl (cA, 240, .inl (fun _ => 0))), (q7, .inl (cA, 6, .inl (fun _ => 0))), (q8, .inl (cA, 18, .inl (fun _ => 0)))] := hD
  refine va_putF (D := D) (ci := 2) (v := .ref q8) (ty := .array .int) (C := RX2) (T := TX2) (N := 23) hx hb hts inG2 tyX2 tyX2_ok nmX2 hown hK hP hD hS 0 rfl rfl 16 (by decide) (hts _ lk2_16) (fun _ h9 => h9) rfl hin rfl (by decide +kernel) rfl rfl (Nat.le_of_ble_eq_true rfl) dX2_init_112 (fun H locs hP hD hS => ?_)
  have hP : va_P D cls3 [(h0, .inr (2, [.ref q1, .int 0, .ref q2, .ref q3, .ref q4, .ref q5, .ref q6, .int 0, .long 0, .long 1, .int 0, .ref q7, .int 0, .int 0, .int 0, .int 0, .ref q8, .int 0, .null, .null, .null, .null, .long 0])), (q1, .inl (cA, 3305, .inl (fun _ => 0))), (q2, .inl (cA, 6, .inl (fun _ => 0))), (q3, .inl (cA, 6, .inl (upd (upd (upd (upd (upd (upd (fun _ => 0) 0 (-1)) 1 (-1)) 2 (-1)) 3 (-1)) 4 (-1)) 5 (-1)))), (q4, .inl (cA, 240, .inl (fun _ => 0))), (q5, .inl (cA, 4, .inl (upd (upd (upd (upd (fun _ => 0) 0 (-1)) 1 (-1)) 2 (-1)) 3 (-1)))), (q6, .inl (cA, 240, .inl (fun _ => 0))), (q7, .inl (cA, 6, .inl (fun _ => 0))), (q8, .inl (cA, 18, .inl (fun _ => 0)))] H := hP
  have hD : va_D A [(h0, .inr (2, [.ref q1, .int 0, .ref q2, .ref q3, .ref q4, .ref q5, .ref q6, .int 0, .long 0, .long 1, .int 0, .ref q7, .int 0, .int 0, .int 0, .int 0, .ref q8, .int 0, .null, .null, .null, .null, .long 0])), (q1, .inl (cA, 3305, .inl (fun _ => 0))), (q2, .inl (cA, 6, .inl (fun _ => 0))), (q3, .inl (cA, 6, .inl (upd (upd (upd (upd (upd (upd (fun _ => 0) 0 (-1)) 1 (-1)) 2 (-1)) 3 (-1)) 4 (-1)) 5 (-1)))), (q4, .inl (cA, 240, .inl (fun _ => 0))), (q5, .inl (cA, 4, .inl (upd (upd (upd (upd (fun _ => 0) 0 (-1)) 1 (-1)) 2 (-1)) 3 (-1)))), (q6, .inl (cA, 240, .inl (fun _ => 0))), (q7, .inl (cA, 6, .inl (fun _ => 0))), (q8, .inl (cA, 18, .inl (fun _ => 0)))] := hD
  refine lv_aload_n hx hb dX2_init_115 rfl (lv_at hl 0 rfl) ?_
  refine lv_bipush (v := 6) hx hb dX2_init_116 (by decide) ?_
  refine va_newa (atype := .int) hx hb (hts _ gd_aI) (ty := .int) rfl hK hP hD hS hA (N' := 6) (a0 := (6, .inl fun _ => 0)) (fun _ => rfl) (by decide) (by decide) (by decide) (Nat.le_of_ble_eq_true rfl) (Nat.le_of_ble_eq_true rfl) dX2_init_118 (fun q9 cB H hK hP hD hS => ?_)
  obtain rfl : cB = cA := K_same hK (i := 0) (j := 1) rfl rfl
  have hK := hK.sub (tys' := [(cB, .int)]) [0] rfl
  obtain ⟨cA, rfl⟩ : ∃ z, z = cB := ⟨_, rfl⟩
  have hP : va_P D cls3 [(h0, .inr (2, [.ref q1, .int 0, .ref q2, .ref q3, .ref q4, .ref q5, .ref q6, .int 0, .long 0, .long 1, .int 0, .ref q7, .int 0, .int 0, .int 0, .int 0, .ref q8, .int 0, .null, .null, .null, .null, .long 0])), (q1, .inl (cA, 3305, .inl (fun _ => 0))), (q2, .inl (cA, 6, .inl (fun _ => 0))), (q3, .inl (cA, 6, .inl (upd (upd (upd (upd (upd (upd (fun _ => 0) 0 (-1)) 1 (-1)) 2 (-1)) 3 (-1)) 4 (-1)) 5 (-1)))), (q4, .inl (cA, 240, .inl (fun _ => 0))), (q5, .inl (cA, 4, .inl (upd (upd (upd (upd (fun _ => 0) 0 (-1)) 1 (-1)) 2 (-1)) 3 (-1)))), (q6, .inl (cA, 240, .inl (fun _ => 0))), (q7, .inl (cA, 6, .inl (fun _ => 0))), (q8, .inl (cA, 18, .inl (fun _ => 0))), (q9, .inl (cA, 6, .inl (fun _ => 0)))] H := hP
  have hD : va_D A [(h0, .inr (2, [.ref q1, .int 0, .ref q2, .ref q3, .ref q4, .ref q5, .ref q6, .int 0, .long 0, .long 1, .int 0, .ref q7, .int 0, .int 0, .int 0, .int 0, .ref q8, .int 0, .null, .null, .null, .null, .long 0])), (q1, .inl (cA, 3305, .inl (fun _ => 0))), (q2, .inl (cA, 6, .inl (fun _ => 0))), (q3, .inl (cA, 6, .inl (upd (upd (upd (upd (upd (upd (fun _ => 0) 0 (-1)) 1 (-1)) 2 (-1)) 3 (-1)) 4 (-1)) 5 (-1)))), (q4, .inl (cA, 240, .inl (fun _ => 0))), (q5, .inl (cA, 4, .inl (upd (upd (upd (upd (fun _ => 0) 0 (-1)) 1 (-1)) 2 (-1)) 3 (-1)))), (q6, .inl (cA, 240, .inl (fun _ => 0))), (q7, .inl (cA, 6, .inl (fun _ => 0))), (q8, .inl (cA, 18, .inl (fun _ => 0))), (q9, .inl (cA, 6, .inl (fun _ => 0)))] := hD
  refine va_putF (D := D) (ci := 2) (v := .ref q9) (ty := .array .int) (C := RX2) (T := TX2) (N := 23) hx hb hts inG2 tyX2 tyX2_ok nmX2 hown hK hP hD hS 0 rfl rfl 18 (by decide) (hts _ lk2_18) (fun _ h9 => h9) rfl hin rfl (by decide +kernel) rfl rfl (Nat.le_of_ble_eq_true rfl) dX2_init_120 (fun H locs hP hD hS => ?_)
  have hP : va_P D cls3 [(h0, .inr (2, [.ref q1, .int 0, .ref q2, .ref q3, .ref q4, .ref q5, .ref q6, .int 0, .long 0, .long 1, .int 0, .ref q7, .int 0, .int 0, .int 0, .int 0, .ref q8, .int 0, .ref q9, .null, .null, .null, .long 0])), (q1, .inl (cA, 3305, .inl (fun _ => 0))), (q2, .inl (cA, 6, .inl (fun _ => 0))), (q3, .inl (cA, 6, .inl (upd (upd (upd (upd (upd (upd (fun _ => 0) 0 (-1)) 1 (-1)) 2 (-1)) 3 (-1)) 4 (-1)) 5 (-1)))), (q4, .inl (cA, 240, .inl (fun _ => 0))), (q5, .inl (cA, 4, .inl (upd (upd (upd (upd (fun _ => 0) 0 (-1)) 1 (-1)) 2 (-1)) 3 (-1)))), (q6, .inl (cA, 240, .inl (fun _ => 0))), (q7, .inl (cA, 6, .inl (fun _ => 0))), (q8, .inl (cA, 18, .inl (fun _ => 0))), (q9, .inl (cA, 6, .inl (fun _ => 0)))] H := hP
  have hD : va_D A [(h0, .inr (2, [.ref q1, .int 0, .ref q2, .ref q3, .ref q4, .ref q5, .ref q6, .int 0, .long 0, .long 1, .int 0, .ref q7, .int 0, .int 0, .int 0, .int 0, .ref q8, .int 0, .ref q9, .null, .null, .null, .long 0])), (q1, .inl (cA, 3305, .inl (fun _ => 0))), (q2, .inl (cA, 6, .inl (fun _ => 0))), (q3, .inl (cA, 6, .inl (upd (upd (upd (upd (upd (upd (fun _ => 0) 0 (-1)) 1 (-1)) 2 (-1)) 3 (-1)) 4 (-1)) 5 (-1)))), (q4, .inl (cA, 240, .inl (fun _ => 0))), (q5, .inl (cA, 4, .inl (upd (upd (upd (upd (fun _ => 0) 0 (-1)) 1 (-1)) 2 (-1)) 3 (-1)))), (q6, .inl (cA, 240, .inl (fun _ => 0))), (q7, .inl (cA, 6, .inl (fun _ => 0))), (q8, .inl (cA, 18, .inl (fun _ => 0))), (q9, .inl (cA, 6, .inl (fun _ => 0)))] := hD
  refine lv_aload_n hx hb dX2_init_123 rfl (lv_at hl 0 rfl) ?_
  refine lv_bipush (v := 6) hx hb dX2_init_124 (by decide) ?_
  refine va_newa (atype := .int) hx hb (hts _ gd_aI) (ty := .int) rfl hK hP hD hS hA (N' := 6) (a0 := (6, .inl fun _ => 0)) (fun _ => rfl) (by decide) (by decide) (by decide) (Nat.le_of_ble_eq_true rfl) (Nat.le_of_ble_eq_true rfl) dX2_init_126 (fun q10 cB H hK hP hD hS => ?_)
  obtain rfl : cB = cA := K_same hK (i := 0) (j := 1) rfl rfl
  have hK := hK.sub (tys' := [(cB, .int)]) [0] rfl
  obtain ⟨cA, rfl⟩ : ∃ z, z = cB := ⟨_, rfl⟩
  have hP : va_P D cls3 [(h0, .inr (2, [.ref q1, .int 0, .ref q2, .ref q3, .ref q4, .ref q5, .ref q6, .int 0, .long 0, .long 1, .int 0, .ref q7, .int 0, .int 0, .int 0, .int 0, .ref q8, .int 0, .ref q9, .null, .null, .null, .long 0])), (q1, .inl (cA, 3305, .inl (fun _ => 0))), (q2, .inl (cA, 6, .inl (fun _ => 0))), (q3, .inl (cA, 6, .inl (upd (upd (upd (upd (upd (upd (fun _ => 0) 0 (-1)) 1 (-1)) 2 (-1)) 3 (-1)) 4 (-1)) 5 (-1)))), (q4, .inl (cA, 240, .inl (fun _ => 0))), (q5, .inl (cA, 4, .inl (upd (upd (upd (upd (fun _ => 0) 0 (-1)) 1 (-1)) 2 (-1)) 3 (-1)))), (q6, .inl (cA, 240, .inl (fun _ => 0))), (q7, .inl (cA, 6, .inl (fun _ => 0))), (q8, .inl (cA, 18, .inl (fun _ => 0))), (q9, .inl (cA, 6, .inl (fun _ => 0))), (q10, .inl (cA, 6, .inl (fun _ => 0)))] H := hP
  have hD : va_D A [(h0, .inr (2, [.ref q1, .int 0, .ref q2, .ref q3, .ref q4, .ref q5, .ref q6, .int 0, .long 0, .long 1, .int 0, .ref q7, .int 0, .int 0, .int 0, .int 0, .ref q8, .int 0, .ref q9, .null, .null, .null, .long 0])), (q1, .inl (cA, 3305, .inl (fun _ => 0))), (q2, .inl (cA, 6, .inl (fun _ => 0))), (q3, .inl (cA, 6, .inl (upd (upd (upd (upd (upd (upd (fun _ => 0) 0 (-1)) 1 (-1)) 2 (-1)) 3 (-1)) 4 (-1)) 5 (-1)))), (q4, .inl (cA, 240, .inl (fun _ => 0))), (q5, .inl (cA, 4, .inl (upd (upd (upd (upd (fun _ => 0) 0 (-1)) 1 (-1)) 2 (-1)) 3 (-1)))), (q6, .inl (cA, 240, .inl (fun _ => 0))), (q7, .inl (cA, 6, .inl (fun _ => 0))), (q8, .inl (cA, 18, .inl (fun _ => 0))), (q9, .inl (cA, 6, .inl (fun _ => 0))), (q10, .inl (cA, 6, .inl (fun _ => 0)))] := hD
  refine va_putF (D := D) (ci := 2) (v := .ref q10) (ty := .array .int) (C := RX2) (T := TX2) (N := 23) hx hb hts inG2 tyX2 tyX2_ok nmX2 hown hK hP hD hS 0 rfl rfl 19 (by decide) (hts _ lk2_19) (fun _ h9 => h9) rfl hin rfl (by decide +kernel) rfl rfl (Nat.le_of_ble_eq_true rfl) dX2_init_128 (fun H locs hP hD hS => ?_)
  have hP : va_P D cls3 [(h0, .inr (2, [.ref q1, .int 0, .ref q2, .ref q3, .ref q4, .ref q5, .ref q6, .int 0, .long 0, .long 1, .int 0, .ref q7, .int 0, .int 0, .int 0, .int 0, .ref q8, .int 0, .ref q9, .ref q10, .null, .null, .long 0])), (q1, .inl (cA, 3305, .inl (fun _ => 0))), (q2, .inl (cA, 6, .inl (fun _ => 0))), (q3, .inl (cA, 6, .inl (upd (upd (upd (upd (upd (upd (fun _ => 0) 0 (-1)) 1 (-1)) 2 (-1)) 3 (-1)) 4 (-1)) 5 (-1)))), (q4, .inl (cA, 240, .inl (fun _ => 0))), (q5, .inl (cA, 4, .inl (upd (upd (upd (upd (fun _ => 0) 0 (-1)) 1 (-1)) 2 (-1)) 3 (-1)))), (q6, .inl (cA, 240, .inl (fun _ => 0))), (q7, .inl (cA, 6, .inl (fun _ => 0))), (q8, .inl (cA, 18, .inl (fun _ => 0))), (q9, .inl (cA, 6, .inl (fun _ => 0))), (q10, .inl (cA, 6, .inl (fun _ => 0)))] H := hP
  have hD : va_D A [(h0, .inr (2, [.ref q1, .int 0, .ref q2, .ref q3, .ref q4, .ref q5, .ref q6, .int 0, .long 0, .long 1, .int 0, .ref q7, .int 0, .int 0, .int 0, .int 0, .ref q8, .int 0, .ref q9, .ref q10, .null, .null, .long 0])), (q1, .inl (cA, 3305, .inl (fun _ => 0))), (q2, .inl (cA, 6, .inl (fun _ => 0))), (q3, .inl (cA, 6, .inl (upd (upd (upd (upd (upd (upd (fun _ => 0) 0 (-1)) 1 (-1)) 2 (-1)) 3 (-1)) 4 (-1)) 5 (-1)))), (q4, .inl (cA, 240, .inl (fun _ => 0))), (q5, .inl (cA, 4, .inl (upd (upd (upd (upd (fun _ => 0) 0 (-1)) 1 (-1)) 2 (-1)) 3 (-1)))), (q6, .inl (cA, 240, .inl (fun _ => 0))), (q7, .inl (cA, 6, .inl (fun _ => 0))), (q8, .inl (cA, 18, .inl (fun _ => 0))), (q9, .inl (cA, 6, .inl (fun _ => 0))), (q10, .inl (cA, 6, .inl (fun _ => 0)))] := hD
  refine lv_aload_n hx hb dX2_init_131 rfl (lv_at hl 0 rfl) ?_
  refine lv_sipush (v := 147) hx hb dX2_init_132 (by decide) ?_
  refine va_newa (atype := .int) hx hb (hts _ gd_aI) (ty := .int) rfl hK hP hD hS hA (N' := 147) (a0 := (147, .inl fun _ => 0)) (fun _ => rfl) (by decide) (by decide) (by decide) (Nat.le_of_ble_eq_true rfl) (Nat.le_of_ble_eq_true rfl) dX2_init_135 (fun q11 cB H hK hP hD hS => ?_)
  obtain rfl : cB = cA := K_same hK (i := 0) (j := 1) rfl rfl
  have hK := hK.sub (tys' := [(cB, .int)]) [0] rfl
  obtain ⟨cA, rfl⟩ : ∃ z, z = cB := ⟨_, rfl⟩
  have hP : va_P D cls3 [(h0, .inr (2, [.ref q1, .int 0, .ref q2, .ref q3, .ref q4, .ref q5, .ref q6, .int 0, .long 0, .long 1, .int 0, .ref q7, .int 0, .int 0, .int 0, .int 0, .ref q8, .int 0, .ref q9, .ref q10, .null, .null, .long 0])), (q1, .inl (cA, 3305, .inl (fun _ => 0))), (q2, .inl (cA, 6, .inl (fun _ => 0))), (q3, .inl (cA, 6, .inl (upd (upd (upd (upd (upd (upd (fun _ => 0) 0 (-1)) 1 (-1)) 2 (-1)) 3 (-1)) 4 (-1)) 5 (-1)))), (q4, .inl (cA, 240, .inl (fun _ => 0))), (q5, .inl (cA, 4, .inl (upd (upd (upd (upd (fun _ => 0) 0 (-1)) 1 (-1)) 2 (-1)) 3 (-1)))), (q6, .inl (cA, 240, .inl (fun _ => 0))), (q7, .inl (cA, 6, .inl (fun _ => 0))), (q8, .inl (cA, 18, .inl (fun _ => 0))), (q9, .inl (cA, 6, .inl (fun _ => 0))), (q10, .inl (cA, 6, .inl (fun _ => 0))), (q11, .inl (cA, 147, .inl (fun _ => 0)))] H := hP
  have hD : va_D A [(h0, .inr (2, [.ref q1, .int 0, .ref q2, .ref q3, .ref q4, .ref q5, .ref q6, .int 0, .long 0, .long 1, .int 0, .ref q7, .int 0, .int 0, .int 0, .int 0, .ref q8, .int 0, .ref q9, .ref q10, .null, .null, .long 0])), (q1, .inl (cA, 3305, .inl (fun _ => 0))), (q2, .inl (cA, 6, .inl (fun _ => 0))), (q3, .inl (cA, 6, .inl (upd (upd (upd (upd (upd (upd (fun _ => 0) 0 (-1)) 1 (-1)) 2 (-1)) 3 (-1)) 4 (-1)) 5 (-1)))), (q4, .inl (cA, 240, .inl (fun _ => 0))), (q5, .inl (cA, 4, .inl (upd (upd (upd (upd (fun _ => 0) 0 (-1)) 1 (-1)) 2 (-1)) 3 (-1)))), (q6, .inl (cA, 240, .inl (fun _ => 0))), (q7, .inl (cA, 6, .inl (fun _ => 0))), (q8, .inl (cA, 18, .inl (fun _ => 0))), (q9, .inl (cA, 6, .inl (fun _ => 0))), (q10, .inl (cA, 6, .inl (fun _ => 0))), (q11, .inl (cA, 147, .inl (fun _ => 0)))] := hD
  refine va_putF (D := D) (ci := 2) (v := .ref q11) (ty := .array .int) (C := RX2) (T := TX2) (N := 23) hx hb hts inG2 tyX2 tyX2_ok nmX2 hown hK hP hD hS 0 rfl rfl 20 (by decide) (hts _ lk2_20) (fun _ h9 => h9) rfl hin rfl (by decide +kernel) rfl rfl (Nat.le_of_ble_eq_true rfl) dX2_init_137 (fun H locs hP hD hS => ?_)
  have hP : va_P D cls3 [(h0, .inr (2, [.ref q1, .int 0, .ref q2, .ref q3, .ref q4, .ref q5, .ref q6, .int 0, .long 0, .long 1, .int 0, .ref q7, .int 0, .int 0, .int 0, .int 0, .ref q8, .int 0, .ref q9, .ref q10, .ref q11, .null, .long 0])), (q1, .inl (cA, 3305, .inl (fun _ => 0))), (q2, .inl (cA, 6, .inl (fun _ => 0))), (q3, .inl (cA, 6, .inl (upd (upd (upd (upd (upd (upd (fun _ => 0) 0 (-1)) 1 (-1)) 2 (-1)) 3 (-1)) 4 (-1)) 5 (-1)))), (q4, .inl (cA, 240, .inl (fun _ => 0))), (q5, .inl (cA, 4, .inl (upd (upd (upd (upd (fun _ => 0) 0 (-1)) 1 (-1)) 2 (-1)) 3 (-1)))), (q6, .inl (cA, 240, .inl (fun _ => 0))), (q7, .inl (cA, 6, .inl (fun _ => 0))), (q8, .inl (cA, 18, .inl (fun _ => 0))), (q9, .inl (cA, 6, .inl (fun _ => 0))), (q10, .inl (cA, 6, .inl (fun _ => 0))), (q11, .inl (cA, 147, .inl (fun _ => 0)))] H := hP
  have hD : va_D A [(h0, .inr (2, [.ref q1, .int 0, .ref q2, .ref q3, .ref q4, .ref q5, .ref q6, .int 0, .long 0, .long 1, .int 0, .ref q7, .int 0, .int 0, .int 0, .int 0, .ref q8, .int 0, .ref q9, .ref q10, .ref q11, .null, .long 0])), (q1, .inl (cA, 3305, .inl (fun _ => 0))), (q2, .inl (cA, 6, .inl (fun _ => 0))), (q3, .inl (cA, 6, .inl (upd (upd (upd (upd (upd (upd (fun _ => 0) 0 (-1)) 1 (-1)) 2 (-1)) 3 (-1)) 4 (-1)) 5 (-1)))), (q4, .inl (cA, 240, .inl (fun _ => 0))), (q5, .inl (cA, 4, .inl (upd (upd (upd (upd (fun _ => 0) 0 (-1)) 1 (-1)) 2 (-1)) 3 (-1)))), (q6, .inl (cA, 240, .inl (fun _ => 0))), (q7, .inl (cA, 6, .inl (fun _ => 0))), (q8, .inl (cA, 18, .inl (fun _ => 0))), (q9, .inl (cA, 6, .inl (fun _ => 0))), (q10, .inl (cA, 6, .inl (fun _ => 0))), (q11, .inl (cA, 147, .inl (fun _ => 0)))] := hD
  refine lv_aload_n hx hb dX2_init_140 rfl (lv_at hl 0 rfl) ?_
  refine lv_bipush (v := 49) hx hb dX2_init_141 (by decide) ?_
  refine va_newa (atype := .int) hx hb (hts _ gd_aI) (ty := .int) rfl hK hP hD hS hA (N' := 49) (a0 := (49, .inl fun _ => 0)) (fun _ => rfl) (by decide) (by decide) (by decide) (Nat.le_of_ble_eq_true rfl) (Nat.le_of_ble_eq_true rfl) dX2_init_143 (fun q12 cB H hK hP hD hS => ?_)
  obtain rfl : cB = cA := K_same hK (i := 0) (j := 1) rfl rfl
  have hK := hK.sub (tys' := [(cB, .int)]) [0] rfl
  obtain ⟨cA, rfl⟩ : ∃ z, z = cB := ⟨_, rfl⟩
  have hP : va_P D cls3 [(h0, .inr (2, [.ref q1, .int 0, .ref q2, .ref q3, .ref q4, .ref q5, .ref q6, .int 0, .long 0, .long 1, .int 0, .ref q7, .int 0, .int 0, .int 0, .int 0, .ref q8, .int 0, .ref q9, .ref q10, .ref q11, .null, .long 0])), (q1, .inl (cA, 3305, .inl (fun _ => 0))), (q2, .inl (cA, 6, .inl (fun _ => 0))), (q3, .inl (cA, 6, .inl (upd (upd (upd (upd (upd (upd (fun _ => 0) 0 (-1)) 1 (-1)) 2 (-1)) 3 (-1)) 4 (-1)) 5 (-1)))), (q4, .inl (cA, 240, .inl (fun _ => 0))), (q5, .inl (cA, 4, .inl (upd (upd (upd (upd (fun _ => 0) 0 (-1)) 1 (-1)) 2 (-1)) 3 (-1)))), (q6, .inl (cA, 240, .inl (fun _ => 0))), (q7, .inl (cA, 6, .inl (fun _ => 0))), (q8, .inl (cA, 18, .inl (fun _ => 0))), (q9, .inl (cA, 6, .inl (fun _ => 0))), (q10, .inl (cA, 6, .inl (fun _ => 0))), (q11, .inl (cA, 147, .inl (fun _ => 0))), (q12, .inl (cA, 49, .inl (fun _ => 0)))] H := hP
  have hD : va_D A [(h0, .inr (2, [.ref q1, .int 0, .ref q2, .ref q3, .ref q4, .ref q5, .ref q6, .int 0, .long 0, .long 1, .int 0, .ref q7, .int 0, .int 0, .int 0, .int 0, .ref q8, .int 0, .ref q9, .ref q10, .ref q11, .null, .long 0])), (q1, .inl (cA, 3305, .inl (fun _ => 0))), (q2, .inl (cA, 6, .inl (fun _ => 0))), (q3, .inl (cA, 6, .inl (upd (upd (upd (upd (upd (upd (fun _ => 0) 0 (-1)) 1 (-1)) 2 (-1)) 3 (-1)) 4 (-1)) 5 (-1)))), (q4, .inl (cA, 240, .inl (fun _ => 0))), (q5, .inl (cA, 4, .inl (upd (upd (upd (upd (fun _ => 0) 0 (-1)) 1 (-1)) 2 (-1)) 3 (-1)))), (q6, .inl (cA, 240, .inl (fun _ => 0))), (q7, .inl (cA, 6, .inl (fun _ => 0))), (q8, .inl (cA, 18, .inl (fun _ => 0))), (q9, .inl (cA, 6, .inl (fun _ => 0))), (q10, .inl (cA, 6, .inl (fun _ => 0))), (q11, .inl (cA, 147, .inl (fun _ => 0))), (q12, .inl (cA, 49, .inl (fun _ => 0)))] := hD
  refine va_putF (D := D) (ci := 2) (v := .ref q12) (ty := .array .int) (C := RX2) (T := TX2) (N := 23) hx hb hts inG2 tyX2 tyX2_ok nmX2 hown hK hP hD hS 0 rfl rfl 21 (by decide) (hts _ lk2_21) (fun _ h9 => h9) rfl hin rfl (by decide +kernel) rfl rfl (Nat.le_of_ble_eq_true rfl) dX2_init_145 (fun H locs hP hD hS => ?_)
  have hP : va_P D cls3 [(h0, .inr (2, [.ref q1, .int 0, .ref q2, .ref q3, .ref q4, .ref q5, .ref q6, .int 0, .long 0, .long 1, .int 0, .ref q7, .int 0, .int 0, .int 0, .int 0, .ref q8, .int 0, .ref q9, .ref q10, .ref q11, .ref q12, .long 0])), (q1, .inl (cA, 3305, .inl (fun _ => 0))), (q2, .inl (cA, 6, .inl (fun _ => 0))), (q3, .inl (cA, 6, .inl (upd (upd (upd (upd (upd (upd (fun _ => 0) 0 (-1)) 1 (-1)) 2 (-1)) 3 (-1)) 4 (-1)) 5 (-1)))), (q4, .inl (cA, 240, .inl (fun _ => 0))), (q5, .inl (cA, 4, .inl (upd (upd (upd (upd (fun _ => 0) 0 (-1)) 1 (-1)) 2 (-1)) 3 (-1)))), (q6, .inl (cA, 240, .inl (fun _ => 0))), (q7, .inl (cA, 6, .inl (fun _ => 0))), (q8, .inl (cA, 18, .inl (fun _ => 0))), (q9, .inl (cA, 6, .inl (fun _ => 0))), (q10, .inl (cA, 6, .inl (fun _ => 0))), (q11, .inl (cA, 147, .inl (fun _ => 0))), (q12, .inl (cA, 49, .inl (fun _ => 0)))] H := hP
  have hD : va_D A [(h0, .inr (2, [.ref q1, .int 0, .ref q2, .ref q3, .ref q4, .ref q5, .ref q6, .int 0, .long 0, .long 1, .int 0, .ref q7, .int 0, .int 0, .int 0, .int 0, .ref q8, .int 0, .ref q9, .ref q10, .ref q11, .ref q12, .long 0])), (q1, .inl (cA, 3305, .inl (fun _ => 0))), (q2, .inl (cA, 6, .inl (fun _ => 0))), (q3, .inl (cA, 6, .inl (upd (upd (upd (upd (upd (upd (fun _ => 0) 0 (-1)) 1 (-1)) 2 (-1)) 3 (-1)) 4 (-1)) 5 (-1)))), (q4, .inl (cA, 240, .inl (fun _ => 0))), (q5, .inl (cA, 4, .inl (upd (upd (upd (upd (fun _ => 0) 0 (-1)) 1 (-1)) 2 (-1)) 3 (-1)))), (q6, .inl (cA, 240, .inl (fun _ => 0))), (q7, .inl (cA, 6, .inl (fun _ => 0))), (q8, .inl (cA, 18, .inl (fun _ => 0))), (q9, .inl (cA, 6, .inl (fun _ => 0))), (q10, .inl (cA, 6, .inl (fun _ => 0))), (q11, .inl (cA, 147, .inl (fun _ => 0))), (q12, .inl (cA, 49, .inl (fun _ => 0)))] := hD
  refine lv_iconst (v := 1) hx hb dX2_init_148 (by decide) ?_
  refine lv_istore_n (lv' := [(1, .int 1), (0, .ref h0)]) hx hb dX2_init_149 rfl hl (by decide) rfl (fun ls hl => ?_)
  refine lv_iload_n hx hb dX2_init_150 rfl (lv_at hl 0 rfl) ?_
  refine lv_iconst (v := 4) hx hb dX2_init_151 (by decide) ?_
  refine lv_icmp_ge (tgt := 174) hx hb dX2_init_152 (show ((152 : Nat) : Int) + 22 = ((174 : Nat) : Int) by decide) (fun c9 => absurd c9 (by decide)) (fun _ => ?_)
  refine lv_aload_n hx hb dX2_init_155 rfl (lv_at hl 1 rfl) ?_
  refine va_get (D := D) (ci := 2) (v := .ref q1) (C := RX2) (T := TX2) (N := 23) hx hb hts inG2 hown hK hP 0 rfl rfl 0 (by decide) (hts _ lk2_0) (fun _ h9 => h9) rfl dX2_init_156 ?_
  refine lv_sipush (v := 821) hx hb dX2_init_159 (by decide) ?_
  refine lv_iload_n hx hb dX2_init_162 rfl (lv_at hl 0 rfl) ?_
  refine lv_imul hx hb dX2_init_163 ?_
  refine lv_iconst (v := 0) hx hb dX2_init_164 (by decide) ?_
  refine lv_iadd hx hb dX2_init_165 ?_
  refine lv_iconst (v := -1) hx hb dX2_init_166 (by decide) ?_
  refine va_iast hx hb hK hP hD hS 1 0 rfl rfl (by unfold vp_in; decide) dX2_init_167 (fun H locs hP hD hS => ?_)
  rw [show ((821 : Int32) * 1 + 0 : Int32).toNatClampNeg = 821 from by decide] at hP hD
  have hP : va_P D cls3 [(h0, .inr (2, [.ref q1, .int 0, .ref q2, .ref q3, .ref q4, .ref q5, .ref q6, .int 0, .long 0, .long 1, .int 0, .ref q7, .int 0, .int 0, .int 0, .int 0, .ref q8, .int 0, .ref q9, .ref q10, .ref q11, .ref q12, .long 0])), (q1, .inl (cA, 3305, .inl (upd (fun _ => 0) 821 (-1)))), (q2, .inl (cA, 6, .inl (fun _ => 0))), (q3, .inl (cA, 6, .inl (upd (upd (upd (upd (upd (upd (fun _ => 0) 0 (-1)) 1 (-1)) 2 (-1)) 3 (-1)) 4 (-1)) 5 (-1)))), (q4, .inl (cA, 240, .inl (fun _ => 0))), (q5, .inl (cA, 4, .inl (upd (upd (upd (upd (fun _ => 0) 0 (-1)) 1 (-1)) 2 (-1)) 3 (-1)))), (q6, .inl (cA, 240, .inl (fun _ => 0))), (q7, .inl (cA, 6, .inl (fun _ => 0))), (q8, .inl (cA, 18, .inl (fun _ => 0))), (q9, .inl (cA, 6, .inl (fun _ => 0))), (q10, .inl (cA, 6, .inl (fun _ => 0))), (q11, .inl (cA, 147, .inl (fun _ => 0))), (q12, .inl (cA, 49, .inl (fun _ => 0)))] H := hP
  have hD : va_D A [(h0, .inr (2, [.ref q1, .int 0, .ref q2, .ref q3, .ref q4, .ref q5, .ref q6, .int 0, .long 0, .long 1, .int 0, .ref q7, .int 0, .int 0, .int 0, .int 0, .ref q8, .int 0, .ref q9, .ref q10, .ref q11, .ref q12, .long 0])), (q1, .inl (cA, 3305, .inl (upd (fun _ => 0) 821 (-1)))), (q2, .inl (cA, 6, .inl (fun _ => 0))), (q3, .inl (cA, 6, .inl (upd (upd (upd (upd (upd (upd (fun _ => 0) 0 (-1)) 1 (-1)) 2 (-1)) 3 (-1)) 4 (-1)) 5 (-1)))), (q4, .inl (cA, 240, .inl (fun _ => 0))), (q5, .inl (cA, 4, .inl (upd (upd (upd (upd (fun _ => 0) 0 (-1)) 1 (-1)) 2 (-1)) 3 (-1)))), (q6, .inl (cA, 240, .inl (fun _ => 0))), (q7, .inl (cA, 6, .inl (fun _ => 0))), (q8, .inl (cA, 18, .inl (fun _ => 0))), (q9, .inl (cA, 6, .inl (fun _ => 0))), (q10, .inl (cA, 6, .inl (fun _ => 0))), (q11, .inl (cA, 147, .inl (fun _ => 0))), (q12, .inl (cA, 49, .inl (fun _ => 0)))] := hD
  refine lv_iinc (v := 2) (lv' := [(1, .int 2), (0, .ref h0)]) hx hb dX2_init_168 hl (k := 0) rfl (by decide) (by decide) rfl (fun ls hl => ?_)
  refine lv_goto (tgt := 150) hx hb dX2_init_171 (show ((171 : Nat) : Int) + (-21) = ((150 : Nat) : Int) by decide) ?_
  refine lv_iload_n hx hb dX2_init_150 rfl (lv_at hl 0 rfl) ?_
  refine lv_iconst (v := 4) hx hb dX2_init_151 (by decide) ?_
  refine lv_icmp_ge (tgt := 174) hx hb dX2_init_152 (show ((152 : Nat) : Int) + 22 = ((174 : Nat) : Int) by decide) (fun c9 => absurd c9 (by decide)) (fun _ => ?_)
  refine lv_aload_n hx hb dX2_init_155 rfl (lv_at hl 1 rfl) ?_
  refine va_get (D := D) (ci := 2) (v := .ref q1) (C := RX2) (T := TX2) (N := 23) hx hb hts inG2 hown hK hP 0 rfl rfl 0 (by decide) (hts _ lk2_0) (fun _ h9 => h9) rfl dX2_init_156 ?_
  refine lv_sipush (v := 821) hx hb dX2_init_159 (by decide) ?_
  refine lv_iload_n hx hb dX2_init_162 rfl (lv_at hl 0 rfl) ?_
  refine lv_imul hx hb dX2_init_163 ?_
  refine lv_iconst (v := 0) hx hb dX2_init_164 (by decide) ?_
  refine lv_iadd hx hb dX2_init_165 ?_
  refine lv_iconst (v := -1) hx hb dX2_init_166 (by decide) ?_
  refine va_iast hx hb hK hP hD hS 1 0 rfl rfl (by unfold vp_in; decide) dX2_init_167 (fun H locs hP hD hS => ?_)
  rw [show ((821 : Int32) * 2 + 0 : Int32).toNatClampNeg = 1642 from by decide] at hP hD
  have hP : va_P D cls3 [(h0, .inr (2, [.ref q1, .int 0, .ref q2, .ref q3, .ref q4, .ref q5, .ref q6, .int 0, .long 0, .long 1, .int 0, .ref q7, .int 0, .int 0, .int 0, .int 0, .ref q8, .int 0, .ref q9, .ref q10, .ref q11, .ref q12, .long 0])), (q1, .inl (cA, 3305, .inl (upd (upd (fun _ => 0) 821 (-1)) 1642 (-1)))), (q2, .inl (cA, 6, .inl (fun _ => 0))), (q3, .inl (cA, 6, .inl (upd (upd (upd (upd (upd (upd (fun _ => 0) 0 (-1)) 1 (-1)) 2 (-1)) 3 (-1)) 4 (-1)) 5 (-1)))), (q4, .inl (cA, 240, .inl (fun _ => 0))), (q5, .inl (cA, 4, .inl (upd (upd (upd (upd (fun _ => 0) 0 (-1)) 1 (-1)) 2 (-1)) 3 (-1)))), (q6, .inl (cA, 240, .inl (fun _ => 0))), (q7, .inl (cA, 6, .inl (fun _ => 0))), (q8, .inl (cA, 18, .inl (fun _ => 0))), (q9, .inl (cA, 6, .inl (fun _ => 0))), (q10, .inl (cA, 6, .inl (fun _ => 0))), (q11, .inl (cA, 147, .inl (fun _ => 0))), (q12, .inl (cA, 49, .inl (fun _ => 0)))] H := hP
  have hD : va_D A [(h0, .inr (2, [.ref q1, .int 0, .ref q2, .ref q3, .ref q4, .ref q5, .ref q6, .int 0, .long 0, .long 1, .int 0, .ref q7, .int 0, .int 0, .int 0, .int 0, .ref q8, .int 0, .ref q9, .ref q10, .ref q11, .ref q12, .long 0])), (q1, .inl (cA, 3305, .inl (upd (upd (fun _ => 0) 821 (-1)) 1642 (-1)))), (q2, .inl (cA, 6, .inl (fun _ => 0))), (q3, .inl (cA, 6, .inl (upd (upd (upd (upd (upd (upd (fun _ => 0) 0 (-1)) 1 (-1)) 2 (-1)) 3 (-1)) 4 (-1)) 5 (-1)))), (q4, .inl (cA, 240, .inl (fun _ => 0))), (q5, .inl (cA, 4, .inl (upd (upd (upd (upd (fun _ => 0) 0 (-1)) 1 (-1)) 2 (-1)) 3 (-1)))), (q6, .inl (cA, 240, .inl (fun _ => 0))), (q7, .inl (cA, 6, .inl (fun _ => 0))), (q8, .inl (cA, 18, .inl (fun _ => 0))), (q9, .inl (cA, 6, .inl (fun _ => 0))), (q10, .inl (cA, 6, .inl (fun _ => 0))), (q11, .inl (cA, 147, .inl (fun _ => 0))), (q12, .inl (cA, 49, .inl (fun _ => 0)))] := hD
  refine lv_iinc (v := 3) (lv' := [(1, .int 3), (0, .ref h0)]) hx hb dX2_init_168 hl (k := 0) rfl (by decide) (by decide) rfl (fun ls hl => ?_)
  refine lv_goto (tgt := 150) hx hb dX2_init_171 (show ((171 : Nat) : Int) + (-21) = ((150 : Nat) : Int) by decide) ?_
  refine lv_iload_n hx hb dX2_init_150 rfl (lv_at hl 0 rfl) ?_
  refine lv_iconst (v := 4) hx hb dX2_init_151 (by decide) ?_
  refine lv_icmp_ge (tgt := 174) hx hb dX2_init_152 (show ((152 : Nat) : Int) + 22 = ((174 : Nat) : Int) by decide) (fun c9 => absurd c9 (by decide)) (fun _ => ?_)
  refine lv_aload_n hx hb dX2_init_155 rfl (lv_at hl 1 rfl) ?_
  refine va_get (D := D) (ci := 2) (v := .ref q1) (C := RX2) (T := TX2) (N := 23) hx hb hts inG2 hown hK hP 0 rfl rfl 0 (by decide) (hts _ lk2_0) (fun _ h9 => h9) rfl dX2_init_156 ?_
  refine lv_sipush (v := 821) hx hb dX2_init_159 (by decide) ?_
  refine lv_iload_n hx hb dX2_init_162 rfl (lv_at hl 0 rfl) ?_
  refine lv_imul hx hb dX2_init_163 ?_
  refine lv_iconst (v := 0) hx hb dX2_init_164 (by decide) ?_
  refine lv_iadd hx hb dX2_init_165 ?_
  refine lv_iconst (v := -1) hx hb dX2_init_166 (by decide) ?_
  refine va_iast hx hb hK hP hD hS 1 0 rfl rfl (by unfold vp_in; decide) dX2_init_167 (fun H locs hP hD hS => ?_)
  rw [show ((821 : Int32) * 3 + 0 : Int32).toNatClampNeg = 2463 from by decide] at hP hD
  have hP : va_P D cls3 [(h0, .inr (2, [.ref q1, .int 0, .ref q2, .ref q3, .ref q4, .ref q5, .ref q6, .int 0, .long 0, .long 1, .int 0, .ref q7, .int 0, .int 0, .int 0, .int 0, .ref q8, .int 0, .ref q9, .ref q10, .ref q11, .ref q12, .long 0])), (q1, .inl (cA, 3305, .inl (upd (upd (upd (fun _ => 0) 821 (-1)) 1642 (-1)) 2463 (-1)))), (q2, .inl (cA, 6, .inl (fun _ => 0))), (q3, .inl (cA, 6, .inl (upd (upd (upd (upd (upd (upd (fun _ => 0) 0 (-1)) 1 (-1)) 2 (-1)) 3 (-1)) 4 (-1)) 5 (-1)))), (q4, .inl (cA, 240, .inl (fun _ => 0))), (q5, .inl (cA, 4, .inl (upd (upd (upd (upd (fun _ => 0) 0 (-1)) 1 (-1)) 2 (-1)) 3 (-1)))), (q6, .inl (cA, 240, .inl (fun _ => 0))), (q7, .inl (cA, 6, .inl (fun _ => 0))), (q8, .inl (cA, 18, .inl (fun _ => 0))), (q9, .inl (cA, 6, .inl (fun _ => 0))), (q10, .inl (cA, 6, .inl (fun _ => 0))), (q11, .inl (cA, 147, .inl (fun _ => 0))), (q12, .inl (cA, 49, .inl (fun _ => 0)))] H := hP
  have hD : va_D A [(h0, .inr (2, [.ref q1, .int 0, .ref q2, .ref q3, .ref q4, .ref q5, .ref q6, .int 0, .long 0, .long 1, .int 0, .ref q7, .int 0, .int 0, .int 0, .int 0, .ref q8, .int 0, .ref q9, .ref q10, .ref q11, .ref q12, .long 0])), (q1, .inl (cA, 3305, .inl (upd (upd (upd (fun _ => 0) 821 (-1)) 1642 (-1)) 2463 (-1)))), (q2, .inl (cA, 6, .inl (fun _ => 0))), (q3, .inl (cA, 6, .inl (upd (upd (upd (upd (upd (upd (fun _ => 0) 0 (-1)) 1 (-1)) 2 (-1)) 3 (-1)) 4 (-1)) 5 (-1)))), (q4, .inl (cA, 240, .inl (fun _ => 0))), (q5, .inl (cA, 4, .inl (upd (upd (upd (upd (fun _ => 0) 0 (-1)) 1 (-1)) 2 (-1)) 3 (-1)))), (q6, .inl (cA, 240, .inl (fun _ => 0))), (q7, .inl (cA, 6, .inl (fun _ => 0))), (q8, .inl (cA, 18, .inl (fun _ => 0))), (q9, .inl (cA, 6, .inl (fun _ => 0))), (q10, .inl (cA, 6, .inl (fun _ => 0))), (q11, .inl (cA, 147, .inl (fun _ => 0))), (q12, .inl (cA, 49, .inl (fun _ => 0)))] := hD
  refine lv_iinc (v := 4) (lv' := [(1, .int 4), (0, .ref h0)]) hx hb dX2_init_168 hl (k := 0) rfl (by decide) (by decide) rfl (fun ls hl => ?_)
  refine lv_goto (tgt := 150) hx hb dX2_init_171 (show ((171 : Nat) : Int) + (-21) = ((150 : Nat) : Int) by decide) ?_
  refine lv_iload_n hx hb dX2_init_150 rfl (lv_at hl 0 rfl) ?_
  refine lv_iconst (v := 4) hx hb dX2_init_151 (by decide) ?_
  refine lv_icmp_ge (tgt := 174) hx hb dX2_init_152 (show ((152 : Nat) : Int) + 22 = ((174 : Nat) : Int) by decide) (fun _ => ?_) (fun c9 => absurd (by decide) c9)
  have hP : va_P D cls3 [(h0, .inr (2, [.ref q1, .int 0, .ref q2, .ref q3, .ref q4, .ref q5, .ref q6, .int 0, .long 0, .long 1, .int 0, .ref q7, .int 0, .int 0, .int 0, .int 0, .ref q8, .int 0, .ref q9, .ref q10, .ref q11, .ref q12, .long 0])), (q1, .inl (cA, 3305, .inl fun k => Int32.ofInt (μz 61 k))), (q2, .inl (cA, 6, .inl fun k => Int32.ofInt (μz 62 k))), (q3, .inl (cA, 6, .inl fun k => Int32.ofInt (μz 63 k))), (q4, .inl (cA, 240, .inl fun k => Int32.ofInt (μz 64 k))), (q5, .inl (cA, 4, .inl fun k => Int32.ofInt (μz 65 k))), (q6, .inl (cA, 240, .inl fun k => Int32.ofInt (μz 66 k))), (q7, .inl (cA, 6, .inl fun k => Int32.ofInt (μz 67 k))), (q8, .inl (cA, 18, .inl fun k => Int32.ofInt (μz 68 k))), (q9, .inl (cA, 6, .inl fun k => Int32.ofInt (μz 69 k))), (q10, .inl (cA, 6, .inl fun k => Int32.ofInt (μz 70 k))), (q11, .inl (cA, 147, .inl fun k => Int32.ofInt (μz 71 k))), (q12, .inl (cA, 49, .inl fun k => Int32.ofInt (μz 72 k)))] H := by
    rw [← zf_61, ← zf_62, ← zf_63, ← zf_64, ← zf_65, ← zf_66, ← zf_67, ← zf_68, ← zf_69, ← zf_70, ← zf_71, ← zf_72]
    exact hP
  have hD : va_D A [(h0, .inr (2, [.ref q1, .int 0, .ref q2, .ref q3, .ref q4, .ref q5, .ref q6, .int 0, .long 0, .long 1, .int 0, .ref q7, .int 0, .int 0, .int 0, .int 0, .ref q8, .int 0, .ref q9, .ref q10, .ref q11, .ref q12, .long 0])), (q1, .inl (cA, 3305, .inl fun k => Int32.ofInt (μz 61 k))), (q2, .inl (cA, 6, .inl fun k => Int32.ofInt (μz 62 k))), (q3, .inl (cA, 6, .inl fun k => Int32.ofInt (μz 63 k))), (q4, .inl (cA, 240, .inl fun k => Int32.ofInt (μz 64 k))), (q5, .inl (cA, 4, .inl fun k => Int32.ofInt (μz 65 k))), (q6, .inl (cA, 240, .inl fun k => Int32.ofInt (μz 66 k))), (q7, .inl (cA, 6, .inl fun k => Int32.ofInt (μz 67 k))), (q8, .inl (cA, 18, .inl fun k => Int32.ofInt (μz 68 k))), (q9, .inl (cA, 6, .inl fun k => Int32.ofInt (μz 69 k))), (q10, .inl (cA, 6, .inl fun k => Int32.ofInt (μz 70 k))), (q11, .inl (cA, 147, .inl fun k => Int32.ofInt (μz 71 k))), (q12, .inl (cA, 49, .inl fun k => Int32.ofInt (μz 72 k)))] := by
    rw [← zf_61, ← zf_62, ← zf_63, ← zf_64, ← zf_65, ← zf_66, ← zf_67, ← zf_68, ← zf_69, ← zf_70, ← zf_71, ← zf_72]
    exact hD
  refine W.widen (k := 12) (n := 4033) (Nat.le_of_ble_eq_true rfl) (Nat.le_of_ble_eq_true rfl) ?_
  exact W.vret hx hb hr (fun t ht hW => ⟨⟨(), rfl, trivial, cA, q1, q2, q3, q4, q5, q6, q7, q8, q9, q10, q11, q12, by rw [ht]; exact hP, va_K.moved hW.alike hK, hD⟩, hS.F ht⟩) hS.2.2 dX2_init_174
