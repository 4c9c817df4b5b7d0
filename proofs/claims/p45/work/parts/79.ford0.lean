/-! the class -/
theorem dX1_init_0 : decode cX1_init 0 = .ok (.aload_n 0, 1) := by decide +kernel
theorem dX1_init_1 : decode cX1_init 1 = .ok (.invokespecial 3, 3) := by decide +kernel
theorem dX1_init_4 : decode cX1_init 4 = .ok (.aload_n 0, 1) := by decide +kernel
theorem dX1_init_5 : decode cX1_init 5 = .ok (.bipush 6, 2) := by decide +kernel
theorem dX1_init_7 : decode cX1_init 7 = .ok (.bipush 40, 2) := by decide +kernel
theorem dX1_init_9 : decode cX1_init 9 = .ok (.multianewarray 9 2, 4) := by decide +kernel
theorem dX1_init_13 : decode cX1_init 13 = .ok (.putfield 11, 3) := by decide +kernel
theorem dX1_init_16 : decode cX1_init 16 = .ok (.aload_n 0, 1) := by decide +kernel
theorem dX1_init_17 : decode cX1_init 17 = .ok (.bipush 6, 2) := by decide +kernel
theorem dX1_init_19 : decode cX1_init 19 = .ok (.newarray .int, 2) := by decide +kernel
theorem dX1_init_21 : decode cX1_init 21 = .ok (.putfield 14, 3) := by decide +kernel
theorem dX1_init_24 : decode cX1_init 24 = .ok (.aload_n 0, 1) := by decide +kernel
theorem dX1_init_25 : decode cX1_init 25 = .ok (.iconst 4, 1) := by decide +kernel
theorem dX1_init_26 : decode cX1_init 26 = .ok (.bipush 60, 2) := by decide +kernel
theorem dX1_init_28 : decode cX1_init 28 = .ok (.multianewarray 18 2, 4) := by decide +kernel
theorem dX1_init_32 : decode cX1_init 32 = .ok (.putfield 20, 3) := by decide +kernel
theorem dX1_init_35 : decode cX1_init 35 = .ok (.aload_n 0, 1) := by decide +kernel
theorem dX1_init_36 : decode cX1_init 36 = .ok (.iconst 4, 1) := by decide +kernel
theorem dX1_init_37 : decode cX1_init 37 = .ok (.newarray .int, 2) := by decide +kernel
theorem dX1_init_39 : decode cX1_init 39 = .ok (.putfield 23, 3) := by decide +kernel
theorem dX1_init_42 : decode cX1_init 42 = .ok (.aload_n 0, 1) := by decide +kernel
theorem dX1_init_43 : decode cX1_init 43 = .ok (.new 26, 3) := by decide +kernel
theorem dX1_init_46 : decode cX1_init 46 = .ok (.dup, 1) := by decide +kernel
theorem dX1_init_47 : decode cX1_init 47 = .ok (.invokespecial 28, 3) := by decide +kernel
theorem dX1_init_50 : decode cX1_init 50 = .ok (.putfield 29, 3) := by decide +kernel
theorem dX1_init_53 : decode cX1_init 53 = .ok (.aload_n 0, 1) := by decide +kernel
theorem dX1_init_54 : decode cX1_init 54 = .ok (.new 26, 3) := by decide +kernel
theorem dX1_init_57 : decode cX1_init 57 = .ok (.dup, 1) := by decide +kernel
theorem dX1_init_58 : decode cX1_init 58 = .ok (.invokespecial 28, 3) := by decide +kernel
theorem dX1_init_61 : decode cX1_init 61 = .ok (.putfield 33, 3) := by decide +kernel
theorem dX1_init_64 : decode cX1_init 64 = .ok (.aload_n 0, 1) := by decide +kernel
theorem dX1_init_65 : decode cX1_init 65 = .ok (.new 26, 3) := by decide +kernel
theorem dX1_init_68 : decode cX1_init 68 = .ok (.dup, 1) := by decide +kernel
theorem dX1_init_69 : decode cX1_init 69 = .ok (.invokespecial 28, 3) := by decide +kernel
theorem dX1_init_72 : decode cX1_init 72 = .ok (.putfield 36, 3) := by decide +kernel
theorem dX1_init_75 : decode cX1_init 75 = .ok (.aload_n 0, 1) := by decide +kernel
theorem dX1_init_76 : decode cX1_init 76 = .ok (.bipush 40, 2) := by decide +kernel
theorem dX1_init_78 : decode cX1_init 78 = .ok (.newarray .int, 2) := by decide +kernel
theorem dX1_init_80 : decode cX1_init 80 = .ok (.putfield 39, 3) := by decide +kernel
theorem dX1_init_83 : decode cX1_init 83 = .ok (.aload_n 0, 1) := by decide +kernel
theorem dX1_init_84 : decode cX1_init 84 = .ok (.iconst 0, 1) := by decide +kernel
theorem dX1_init_85 : decode cX1_init 85 = .ok (.putfield 42, 3) := by decide +kernel
theorem dX1_init_88 : decode cX1_init 88 = .ok (.aload_n 0, 1) := by decide +kernel
theorem dX1_init_89 : decode cX1_init 89 = .ok (.iconst 3, 1) := by decide +kernel
theorem dX1_init_90 : decode cX1_init 90 = .ok (.bipush 40, 2) := by decide +kernel
theorem dX1_init_92 : decode cX1_init 92 = .ok (.multianewarray 9 2, 4) := by decide +kernel
theorem dX1_init_96 : decode cX1_init 96 = .ok (.putfield 46, 3) := by decide +kernel
theorem dX1_init_99 : decode cX1_init 99 = .ok (.aload_n 0, 1) := by decide +kernel
theorem dX1_init_100 : decode cX1_init 100 = .ok (.iconst 3, 1) := by decide +kernel
theorem dX1_init_101 : decode cX1_init 101 = .ok (.newarray .int, 2) := by decide +kernel
theorem dX1_init_103 : decode cX1_init 103 = .ok (.putfield 49, 3) := by decide +kernel
theorem dX1_init_106 : decode cX1_init 106 = .ok (.aload_n 0, 1) := by decide +kernel
theorem dX1_init_107 : decode cX1_init 107 = .ok (.iconst 0, 1) := by decide +kernel
theorem dX1_init_108 : decode cX1_init 108 = .ok (.putfield 52, 3) := by decide +kernel
theorem dX1_init_111 : decode cX1_init 111 = .ok (.aload_n 0, 1) := by decide +kernel
theorem dX1_init_112 : decode cX1_init 112 = .ok (.lconst 0, 1) := by decide +kernel
theorem dX1_init_113 : decode cX1_init 113 = .ok (.putfield 55, 3) := by decide +kernel
theorem dX1_init_116 : decode cX1_init 116 = .ok (.aload_n 0, 1) := by decide +kernel
theorem dX1_init_117 : decode cX1_init 117 = .ok (.lconst 1, 1) := by decide +kernel
theorem dX1_init_118 : decode cX1_init 118 = .ok (.putfield 59, 3) := by decide +kernel
theorem dX1_init_121 : decode cX1_init 121 = .ok (.aload_n 0, 1) := by decide +kernel
theorem dX1_init_122 : decode cX1_init 122 = .ok (.iconst 0, 1) := by decide +kernel
theorem dX1_init_123 : decode cX1_init 123 = .ok (.putfield 62, 3) := by decide +kernel
theorem dX1_init_126 : decode cX1_init 126 = .ok (.aload_n 0, 1) := by decide +kernel
theorem dX1_init_127 : decode cX1_init 127 = .ok (.bipush 6, 2) := by decide +kernel
theorem dX1_init_129 : decode cX1_init 129 = .ok (.newarray .int, 2) := by decide +kernel
theorem dX1_init_131 : decode cX1_init 131 = .ok (.putfield 65, 3) := by decide +kernel
theorem dX1_init_134 : decode cX1_init 134 = .ok (.aload_n 0, 1) := by decide +kernel
theorem dX1_init_135 : decode cX1_init 135 = .ok (.bipush 6, 2) := by decide +kernel
theorem dX1_init_137 : decode cX1_init 137 = .ok (.newarray .int, 2) := by decide +kernel
theorem dX1_init_139 : decode cX1_init 139 = .ok (.putfield 68, 3) := by decide +kernel
theorem dX1_init_142 : decode cX1_init 142 = .ok (.aload_n 0, 1) := by decide +kernel
theorem dX1_init_143 : decode cX1_init 143 = .ok (.bipush 7, 2) := by decide +kernel
theorem dX1_init_145 : decode cX1_init 145 = .ok (.newarray .int, 2) := by decide +kernel
theorem dX1_init_147 : decode cX1_init 147 = .ok (.putfield 71, 3) := by decide +kernel
theorem dX1_init_150 : decode cX1_init 150 = .ok (.aload_n 0, 1) := by decide +kernel
theorem dX1_init_151 : decode cX1_init 151 = .ok (.bipush 20, 2) := by decide +kernel
theorem dX1_init_153 : decode cX1_init 153 = .ok (.bipush 7, 2) := by decide +kernel
theorem dX1_init_155 : decode cX1_init 155 = .ok (.multianewarray 9 2, 4) := by decide +kernel
theorem dX1_init_159 : decode cX1_init 159 = .ok (.putfield 74, 3) := by decide +kernel
theorem dX1_init_162 : decode cX1_init 162 = .ok (.aload_n 0, 1) := by decide +kernel
theorem dX1_init_163 : decode cX1_init 163 = .ok (.getfield 14, 3) := by decide +kernel
theorem dX1_init_166 : decode cX1_init 166 = .ok (.iconst (-1), 1) := by decide +kernel
theorem dX1_init_167 : decode cX1_init 167 = .ok (.invokestatic 77, 3) := by decide +kernel
theorem dX1_init_170 : decode cX1_init 170 = .ok (.aload_n 0, 1) := by decide +kernel
theorem dX1_init_171 : decode cX1_init 171 = .ok (.getfield 23, 3) := by decide +kernel
theorem dX1_init_174 : decode cX1_init 174 = .ok (.iconst (-1), 1) := by decide +kernel
theorem dX1_init_175 : decode cX1_init 175 = .ok (.invokestatic 77, 3) := by decide +kernel
theorem dX1_init_178 : decode cX1_init 178 = .ok (.aload_n 0, 1) := by decide +kernel
theorem dX1_init_179 : decode cX1_init 179 = .ok (.getfield 49, 3) := by decide +kernel
theorem dX1_init_182 : decode cX1_init 182 = .ok (.iconst (-1), 1) := by decide +kernel
theorem dX1_init_183 : decode cX1_init 183 = .ok (.invokestatic 77, 3) := by decide +kernel
theorem dX1_init_186 : decode cX1_init 186 = .ok (.return_, 1) := by decide +kernel
theorem lk1_o : Cond.methodLink RX1 3 objectInit ∈ gd_tbl := in_gd (i := 46) (by decide +kernel) rfl
theorem lk1_c9 : Cond.classLink RX1 9 ("[" ++ (FieldType.array .int).toString) ∈ gd_tbl := in_gd (i := 49) (by decide +kernel) rfl
theorem lk1_c18 : Cond.classLink RX1 18 ("[" ++ (FieldType.array .byte).toString) ∈ gd_tbl := in_gd (i := 51) (by decide +kernel) rfl
theorem lk1_c26 : Cond.classLink RX1 26 RX0 ∈ gd_tbl := in_gd (i := 53) (by decide +kernel) rfl
theorem lk1_in0 : Cond.instantiable RX0 7 ∈ gd_tbl := in_gd (i := 54) (by decide +kernel) rfl
theorem lk1_ini : Cond.initialized RX0 ∈ gd_tbl := in_gd (i := 37) (by decide +kernel) rfl
theorem lk1_im : Cond.instanceMethod yX0_init ∈ gd_tbl := in_gd (i := 56) (by decide +kernel) rfl
theorem lk1_cd : Cond.code yX0_init cX0_init 1 none ∈ gd_tbl := in_gd (i := 57) (by decide +kernel) rfl
theorem lk1_ml : Cond.methodLinkNest RX1 28 yX0_init "DareFord" ∈ ns_tbl := in_ns (i := 55) (by decide +kernel) rfl
theorem yo0_init : yOk yX0_init 0 := ⟨by decide, by decide, by decide +kernel⟩
theorem lk1_fl : Cond.methodLink RX1 77 yJ7_fill_53178 ∈ gd_tbl := in_gd (i := 90) (by decide +kernel) rfl
theorem lk1_fs : Cond.static yJ7_fill_53178 ∈ gd_tbl := in_gd (i := 91) (by decide +kernel) rfl
theorem lk1_fi : Cond.initialized yJ7_fill_53178.cls ∈ gd_tbl := in_gd (i := 38) (by decide +kernel) rfl
theorem lk1_fc : Cond.code yJ7_fill_53178 cJ7_fill_53178 4 none ∈ gd_tbl := in_gd (i := 92) (by decide +kernel) rfl
theorem lk1_0 : Cond.fieldLink RX1 11 RX1 "rows" "[[I" ∈ gd_tbl := in_gd (i := 93) (by decide +kernel) rfl
theorem lk1_1 : Cond.fieldLink RX1 14 RX1 "rowSizes" "[I" ∈ gd_tbl := in_gd (i := 94) (by decide +kernel) rfl
theorem lk1_2 : Cond.fieldLink RX1 20 RX1 "texts" "[[B" ∈ gd_tbl := in_gd (i := 95) (by decide +kernel) rfl
theorem lk1_3 : Cond.fieldLink RX1 23 RX1 "textSizes" "[I" ∈ gd_tbl := in_gd (i := 96) (by decide +kernel) rfl
theorem lk1_4 : Cond.fieldLink RX1 29 RX1 "start" "LDareFord$Bank;" ∈ gd_tbl := in_gd (i := 97) (by decide +kernel) rfl
theorem lk1_5 : Cond.fieldLink RX1 33 RX1 "now" "LDareFord$Bank;" ∈ gd_tbl := in_gd (i := 98) (by decide +kernel) rfl
theorem lk1_6 : Cond.fieldLink RX1 36 RX1 "aside" "LDareFord$Bank;" ∈ gd_tbl := in_gd (i := 99) (by decide +kernel) rfl
theorem lk1_7 : Cond.fieldLink RX1 39 RX1 "deeds" "[I" ∈ gd_tbl := in_gd (i := 100) (by decide +kernel) rfl
theorem lk1_8 : Cond.fieldLink RX1 42 RX1 "deedCount" "I" ∈ gd_tbl := in_gd (i := 101) (by decide +kernel) rfl
theorem lk1_9 : Cond.fieldLink RX1 46 RX1 "keptDeeds" "[[I" ∈ gd_tbl := in_gd (i := 102) (by decide +kernel) rfl
theorem lk1_10 : Cond.fieldLink RX1 49 RX1 "keptCounts" "[I" ∈ gd_tbl := in_gd (i := 103) (by decide +kernel) rfl
theorem lk1_11 : Cond.fieldLink RX1 52 RX1 "askedTold" "I" ∈ gd_tbl := in_gd (i := 104) (by decide +kernel) rfl
theorem lk1_12 : Cond.fieldLink RX1 55 RX1 "upperTold" "J" ∈ gd_tbl := in_gd (i := 105) (by decide +kernel) rfl
theorem lk1_13 : Cond.fieldLink RX1 59 RX1 "lowerTold" "J" ∈ gd_tbl := in_gd (i := 106) (by decide +kernel) rfl
theorem lk1_14 : Cond.fieldLink RX1 62 RX1 "latestFinding" "I" ∈ gd_tbl := in_gd (i := 107) (by decide +kernel) rfl
theorem lk1_15 : Cond.fieldLink RX1 65 RX1 "findingCounts" "[I" ∈ gd_tbl := in_gd (i := 108) (by decide +kernel) rfl
theorem lk1_16 : Cond.fieldLink RX1 68 RX1 "shares" "[I" ∈ gd_tbl := in_gd (i := 109) (by decide +kernel) rfl
theorem lk1_17 : Cond.fieldLink RX1 71 RX1 "weights" "[I" ∈ gd_tbl := in_gd (i := 110) (by decide +kernel) rfl
theorem lk1_18 : Cond.fieldLink RX1 74 RX1 "parts" "[[I" ∈ gd_tbl := in_gd (i := 111) (by decide +kernel) rfl
abbrev fordP (D : va_G) (A : Nat → Prop) (h0 : Nat) (t : State) : Prop := ∃ (cA cB cC cE : ClassId) (ad : Nat → Nat) (F : va_W), ad 0 = h0 ∧ va_K D cls3 [(cA, .int), (cB, .byte), (cC, .array .int), (cE, .array .byte)] t ∧ va_P D cls3 F t.heap ∧ va_D A F ∧ ∀ (H : Heap) (A1 : Nat → Prop) (G : wC), G.2.1 0 = cA → G.2.1 1 = cB → G.2.1 2 = cC → G.2.1 3 = cE → (∀ c, c < 60 → G.2.2 c = ad c) → va_P D cls3 F H → va_D A1 F → va_P D cls3 (ws60 G) H ∧ va_D A1 (ws60 G)
theorem ltS9 {P : Nat → Prop} {n : Nat} (h : ∀ c, c < n → P c) (hn : P n) : ∀ c, c < n + 1 → P c := fun c hc => (Nat.lt_or_eq_of_le (Nat.le_of_lt_succ hc)).elim (h c) (fun e => e ▸ hn)
theorem ltZ9 {P : Nat → Prop} : ∀ c, c < 0 → P c := fun c hc => absurd hc (Nat.not_lt_zero c)
def gI : List Nat := [0, 4, 5, 6, 7, 8, 9, 10, 1, 11, 12, 13, 14, 15, 2, 16, 17, 18, 19, 20, 21, 22, 23, 24, 25, 26, 27, 28, 29, 30, 31, 32, 33, 34, 35, 3, 36, 37, 38, 39, 40, 41, 42, 43, 44, 45, 46, 47, 48, 49, 50, 51, 52, 53, 54, 55, 56, 57, 58, 59]
set_option maxHeartbeats 40000000 in
set_option maxRecDepth 100000 in
theorem ford_end {D : va_G} {A : Nat → Prop} {H : Heap} {h0 : Nat} {cA cB cC cE9 : ClassId} {q1 q2 q3 q4 q5 q5a1 q5a2 q5a3 q5a4 q6 q6a1 q6a2 q6a3 q6a4 q7 q7a1 q7a2 q7a3 q7a4 q8 q9 q10 q11 q12 q13 q14 : Nat} {r1 r2 r3 r4 : Nat → Nat} (hP : va_P D cls3 [(h0, .inr (1, [.ref q1, .ref q2, .ref q3, .ref q4, .ref q5, .ref q6, .ref q7, .ref q8, .int 0, .ref q9, .ref q10, .int 0, .long 0, .long 1, .int 0, .ref q11, .ref q12, .ref q13, .ref q14])), (q2, .inl (cA, 6, .inl (fl (fun _ => 0) (-1) 6))), (q4, .inl (cA, 4, .inl (fl (fun _ => 0) (-1) 4))), (q10, .inl (cA, 3, .inl (fl (fun _ => 0) (-1) 3))), (q1, .inl (cC, 6, .inr (.inr (.inr (.inr (fun i => if i < 6 then some (r1 i) else none)))))), (r1 0, .inl (cA, 40, .inl fun _ => 0)), (r1 1, .inl (cA, 40, .inl fun _ => 0)), (r1 2, .inl (cA, 40, .inl fun _ => 0)), (r1 3, .inl (cA, 40, .inl fun _ => 0)), (r1 4, .inl (cA, 40, .inl fun _ => 0)), (r1 5, .inl (cA, 40, .inl fun _ => 0)), (q3, .inl (cE9, 4, .inr (.inr (.inr (.inr (fun i => if i < 4 then some (r2 i) else none)))))), (r2 0, .inl (cB, 60, .inl fun _ => 0)), (r2 1, .inl (cB, 60, .inl fun _ => 0)), (r2 2, .inl (cB, 60, .inl fun _ => 0)), (r2 3, .inl (cB, 60, .inl fun _ => 0)), (q5, .inr (0, [.ref q5a1, .ref q5a2, .ref q5a3, .ref q5a4, .int 0, .int 0, .int 0])), (q5a1, .inl (cA, 6, .inl fun _ => 0)), (q5a2, .inl (cA, 6, .inl fun _ => 0)), (q5a3, .inl (cA, 6, .inl fun _ => 0)), (q5a4, .inl (cA, 6, .inl fun _ => 0)), (q6, .inr (0, [.ref q6a1, .ref q6a2, .ref q6a3, .ref q6a4, .int 0, .int 0, .int 0])), (q6a1, .inl (cA, 6, .inl fun _ => 0)), (q6a2, .inl (cA, 6, .inl fun _ => 0)), (q6a3, .inl (cA, 6, .inl fun _ => 0)), (q6a4, .inl (cA, 6, .inl fun _ => 0)), (q7, .inr (0, [.ref q7a1, .ref q7a2, .ref q7a3, .ref q7a4, .int 0, .int 0, .int 0])), (q7a1, .inl (cA, 6, .inl fun _ => 0)), (q7a2, .inl (cA, 6, .inl fun _ => 0)), (q7a3, .inl (cA, 6, .inl fun _ => 0)), (q7a4, .inl (cA, 6, .inl fun _ => 0)), (q8, .inl (cA, 40, .inl fun _ => 0)), (q9, .inl (cC, 3, .inr (.inr (.inr (.inr (fun i => if i < 3 then some (r3 i) else none)))))), (r3 0, .inl (cA, 40, .inl fun _ => 0)), (r3 1, .inl (cA, 40, .inl fun _ => 0)), (r3 2, .inl (cA, 40, .inl fun _ => 0)), (q11, .inl (cA, 6, .inl fun _ => 0)), (q12, .inl (cA, 6, .inl fun _ => 0)), (q13, .inl (cA, 7, .inl fun _ => 0)), (q14, .inl (cC, 20, .inr (.inr (.inr (.inr (fun i => if i < 20 then some (r4 i) else none)))))), (r4 0, .inl (cA, 7, .inl fun _ => 0)), (r4 1, .inl (cA, 7, .inl fun _ => 0)), (r4 2, .inl (cA, 7, .inl fun _ => 0)), (r4 3, .inl (cA, 7, .inl fun _ => 0)), (r4 4, .inl (cA, 7, .inl fun _ => 0)), (r4 5, .inl (cA, 7, .inl fun _ => 0)), (r4 6, .inl (cA, 7, .inl fun _ => 0)), (r4 7, .inl (cA, 7, .inl fun _ => 0)), (r4 8, .inl (cA, 7, .inl fun _ => 0)), (r4 9, .inl (cA, 7, .inl fun _ => 0)), (r4 10, .inl (cA, 7, .inl fun _ => 0)), (r4 11, .inl (cA, 7, .inl fun _ => 0)), (r4 12, .inl (cA, 7, .inl fun _ => 0)), (r4 13, .inl (cA, 7, .inl fun _ => 0)), (r4 14, .inl (cA, 7, .inl fun _ => 0)), (r4 15, .inl (cA, 7, .inl fun _ => 0)), (r4 16, .inl (cA, 7, .inl fun _ => 0)), (r4 17, .inl (cA, 7, .inl fun _ => 0)), (r4 18, .inl (cA, 7, .inl fun _ => 0)), (r4 19, .inl (cA, 7, .inl fun _ => 0))] H) (hD : va_D A [(h0, .inr (1, [.ref q1, .ref q2, .ref q3, .ref q4, .ref q5, .ref q6, .ref q7, .ref q8, .int 0, .ref q9, .ref q10, .int 0, .long 0, .long 1, .int 0, .ref q11, .ref q12, .ref q13, .ref q14])), (q2, .inl (cA, 6, .inl (fl (fun _ => 0) (-1) 6))), (q4, .inl (cA, 4, .inl (fl (fun _ => 0) (-1) 4))), (q10, .inl (cA, 3, .inl (fl (fun _ => 0) (-1) 3))), (q1, .inl (cC, 6, .inr (.inr (.inr (.inr (fun i => if i < 6 then some (r1 i) else none)))))), (r1 0, .inl (cA, 40, .inl fun _ => 0)), (r1 1, .inl (cA, 40, .inl fun _ => 0)), (r1 2, .inl (cA, 40, .inl fun _ => 0)), (r1 3, .inl (cA, 40, .inl fun _ => 0)), (r1 4, .inl (cA, 40, .inl fun _ => 0)), (r1 5, .inl (cA, 40, .inl fun _ => 0)), (q3, .inl (cE9, 4, .inr (.inr (.inr (.inr (fun i => if i < 4 then some (r2 i) else none)))))), (r2 0, .inl (cB, 60, .inl fun _ => 0)), (r2 1, .inl (cB, 60, .inl fun _ => 0)), (r2 2, .inl (cB, 60, .inl fun _ => 0)), (r2 3, .inl (cB, 60, .inl fun _ => 0)), (q5, .inr (0, [.ref q5a1, .ref q5a2, .ref q5a3, .ref q5a4, .int 0, .int 0, .int 0])), (q5a1, .inl (cA, 6, .inl fun _ => 0)), (q5a2, .inl (cA, 6, .inl fun _ => 0)), (q5a3, .inl (cA, 6, .inl fun _ => 0)), (q5a4, .inl (cA, 6, .inl fun _ => 0)), (q6, .inr (0, [.ref q6a1, .ref q6a2, .ref q6a3, .ref q6a4, .int 0, .int 0, .int 0])), (q6a1, .inl (cA, 6, .inl fun _ => 0)), (q6a2, .inl (cA, 6, .inl fun _ => 0)), (q6a3, .inl (cA, 6, .inl fun _ => 0)), (q6a4, .inl (cA, 6, .inl fun _ => 0)), (q7, .inr (0, [.ref q7a1, .ref q7a2, .ref q7a3, .ref q7a4, .int 0, .int 0, .int 0])), (q7a1, .inl (cA, 6, .inl fun _ => 0)), (q7a2, .inl (cA, 6, .inl fun _ => 0)), (q7a3, .inl (cA, 6, .inl fun _ => 0)), (q7a4, .inl (cA, 6, .inl fun _ => 0)), (q8, .inl (cA, 40, .inl fun _ => 0)), (q9, .inl (cC, 3, .inr (.inr (.inr (.inr (fun i => if i < 3 then some (r3 i) else none)))))), (r3 0, .inl (cA, 40, .inl fun _ => 0)), (r3 1, .inl (cA, 40, .inl fun _ => 0)), (r3 2, .inl (cA, 40, .inl fun _ => 0)), (q11, .inl (cA, 6, .inl fun _ => 0)), (q12, .inl (cA, 6, .inl fun _ => 0)), (q13, .inl (cA, 7, .inl fun _ => 0)), (q14, .inl (cC, 20, .inr (.inr (.inr (.inr (fun i => if i < 20 then some (r4 i) else none)))))), (r4 0, .inl (cA, 7, .inl fun _ => 0)), (r4 1, .inl (cA, 7, .inl fun _ => 0)), (r4 2, .inl (cA, 7, .inl fun _ => 0)), (r4 3, .inl (cA, 7, .inl fun _ => 0)), (r4 4, .inl (cA, 7, .inl fun _ => 0)), (r4 5, .inl (cA, 7, .inl fun _ => 0)), (r4 6, .inl (cA, 7, .inl fun _ => 0)), (r4 7, .inl (cA, 7, .inl fun _ => 0)), (r4 8, .inl (cA, 7, .inl fun _ => 0)), (r4 9, .inl (cA, 7, .inl fun _ => 0)), (r4 10, .inl (cA, 7, .inl fun _ => 0)), (r4 11, .inl (cA, 7, .inl fun _ => 0)), (r4 12, .inl (cA, 7, .inl fun _ => 0)), (r4 13, .inl (cA, 7, .inl fun _ => 0)), (r4 14, .inl (cA, 7, .inl fun _ => 0)), (r4 15, .inl (cA, 7, .inl fun _ => 0)), (r4 16, .inl (cA, 7, .inl fun _ => 0)), (r4 17, .inl (cA, 7, .inl fun _ => 0)), (r4 18, .inl (cA, 7, .inl fun _ => 0)), (r4 19, .inl (cA, 7, .inl fun _ => 0))]) (G : wC) (e0 : G.2.1 0 = cA) (e1 : G.2.1 1 = cB) (e2 : G.2.1 2 = cC) (e3 : G.2.1 3 = cE9) (he : ∀ c, c < 60 → G.2.2 c = [h0, q1, r1 0, r1 1, r1 2, r1 3, r1 4, r1 5, q2, q3, r2 0, r2 1, r2 2, r2 3, q4, q5, q5a1, q5a2, q5a3, q5a4, q6, q6a1, q6a2, q6a3, q6a4, q7, q7a1, q7a2, q7a3, q7a4, q8, q9, r3 0, r3 1, r3 2, q10, q11, q12, q13, q14, r4 0, r4 1, r4 2, r4 3, r4 4, r4 5, r4 6, r4 7, r4 8, r4 9, r4 10, r4 11, r4 12, r4 13, r4 14, r4 15, r4 16, r4 17, r4 18, r4 19].getD c 0) : va_P D cls3 (ws60 G) H ∧ va_D A (ws60 G) := by
  have a0 : G.2.2 0 = h0 := he 0 (by decide)
  have a1 : G.2.2 1 = q1 := he 1 (by decide)
  have a2 : G.2.2 2 = r1 0 := he 2 (by decide)
  have a3 : G.2.2 3 = r1 1 := he 3 (by decide)
  have a4 : G.2.2 4 = r1 2 := he 4 (by decide)
  have a5 : G.2.2 5 = r1 3 := he 5 (by decide)
  have a6 : G.2.2 6 = r1 4 := he 6 (by decide)
  have a7 : G.2.2 7 = r1 5 := he 7 (by decide)
  have a8 : G.2.2 8 = q2 := he 8 (by decide)
  have a9 : G.2.2 9 = q3 := he 9 (by decide)
  have a10 : G.2.2 10 = r2 0 := he 10 (by decide)
  have a11 : G.2.2 11 = r2 1 := he 11 (by decide)
  have a12 : G.2.2 12 = r2 2 := he 12 (by decide)
  have a13 : G.2.2 13 = r2 3 := he 13 (by decide)
  have a14 : G.2.2 14 = q4 := he 14 (by decide)
  have a15 : G.2.2 15 = q5 := he 15 (by decide)
  have a16 : G.2.2 16 = q5a1 := he 16 (by decide)
  have a17 : G.2.2 17 = q5a2 := he 17 (by decide)
  have a18 : G.2.2 18 = q5a3 := he 18 (by decide)
  have a19 : G.2.2 19 = q5a4 := he 19 (by decide)
  have a20 : G.2.2 20 = q6 := he 20 (by decide)
  have a21 : G.2.2 21 = q6a1 := he 21 (by decide)
  have a22 : G.2.2 22 = q6a2 := he 22 (by decide)
  have a23 : G.2.2 23 = q6a3 := he 23 (by decide)
  have a24 : G.2.2 24 = q6a4 := he 24 (by decide)
  have a25 : G.2.2 25 = q7 := he 25 (by decide)
  have a26 : G.2.2 26 = q7a1 := he 26 (by decide)
  have a27 : G.2.2 27 = q7a2 := he 27 (by decide)
  have a28 : G.2.2 28 = q7a3 := he 28 (by decide)
  have a29 : G.2.2 29 = q7a4 := he 29 (by decide)
  have a30 : G.2.2 30 = q8 := he 30 (by decide)
  have a31 : G.2.2 31 = q9 := he 31 (by decide)
  have a32 : G.2.2 32 = r3 0 := he 32 (by decide)
  have a33 : G.2.2 33 = r3 1 := he 33 (by decide)
  have a34 : G.2.2 34 = r3 2 := he 34 (by decide)
  have a35 : G.2.2 35 = q10 := he 35 (by decide)
  have a36 : G.2.2 36 = q11 := he 36 (by decide)
  have a37 : G.2.2 37 = q12 := he 37 (by decide)
  have a38 : G.2.2 38 = q13 := he 38 (by decide)
  have a39 : G.2.2 39 = q14 := he 39 (by decide)
  have a40 : G.2.2 40 = r4 0 := he 40 (by decide)
  have a41 : G.2.2 41 = r4 1 := he 41 (by decide)
  have a42 : G.2.2 42 = r4 2 := he 42 (by decide)
  have a43 : G.2.2 43 = r4 3 := he 43 (by decide)
  have a44 : G.2.2 44 = r4 4 := he 44 (by decide)
  have a45 : G.2.2 45 = r4 5 := he 45 (by decide)
  have a46 : G.2.2 46 = r4 6 := he 46 (by decide)
  have a47 : G.2.2 47 = r4 7 := he 47 (by decide)
  have a48 : G.2.2 48 = r4 8 := he 48 (by decide)
  have a49 : G.2.2 49 = r4 9 := he 49 (by decide)
  have a50 : G.2.2 50 = r4 10 := he 50 (by decide)
  have a51 : G.2.2 51 = r4 11 := he 51 (by decide)
  have a52 : G.2.2 52 = r4 12 := he 52 (by decide)
  have a53 : G.2.2 53 = r4 13 := he 53 (by decide)
  have a54 : G.2.2 54 = r4 14 := he 54 (by decide)
  have a55 : G.2.2 55 = r4 15 := he 55 (by decide)
  have a56 : G.2.2 56 = r4 16 := he 56 (by decide)
  have a57 : G.2.2 57 = r4 17 := he 57 (by decide)
  have a58 : G.2.2 58 = r4 18 := he 58 (by decide)
  have a59 : G.2.2 59 = r4 19 := he 59 (by decide)
  refine ⟨wp_by 60 G.2.2 (fun c => cE G μz c) ?_, wd_by hD 60 (fun c => gI.getD c 0) G.2.2 (fun c => cE G μz c) ?_ (by decide +kernel)⟩
  · refine ltS9 (P := fun c => va_at D cls3 (G.2.2 c, cE G μz c) H) ?_ (at_f (t := 0) rfl (by decide) e0 a59 (f_z (c := 59) (by decide)) (hP 59 _ rfl))
    refine ltS9 (P := fun c => va_at D cls3 (G.2.2 c, cE G μz c) H) ?_ (at_f (t := 0) rfl (by decide) e0 a58 (f_z (c := 58) (by decide)) (hP 58 _ rfl))
    refine ltS9 (P := fun c => va_at D cls3 (G.2.2 c, cE G μz c) H) ?_ (at_f (t := 0) rfl (by decide) e0 a57 (f_z (c := 57) (by decide)) (hP 57 _ rfl))
    refine ltS9 (P := fun c => va_at D cls3 (G.2.2 c, cE G μz c) H) ?_ (at_f (t := 0) rfl (by decide) e0 a56 (f_z (c := 56) (by decide)) (hP 56 _ rfl))
    refine ltS9 (P := fun c => va_at D cls3 (G.2.2 c, cE G μz c) H) ?_ (at_f (t := 0) rfl (by decide) e0 a55 (f_z (c := 55) (by decide)) (hP 55 _ rfl))
    refine ltS9 (P := fun c => va_at D cls3 (G.2.2 c, cE G μz c) H) ?_ (at_f (t := 0) rfl (by decide) e0 a54 (f_z (c := 54) (by decide)) (hP 54 _ rfl))
    refine ltS9 (P := fun c => va_at D cls3 (G.2.2 c, cE G μz c) H) ?_ (at_f (t := 0) rfl (by decide) e0 a53 (f_z (c := 53) (by decide)) (hP 53 _ rfl))
    refine ltS9 (P := fun c => va_at D cls3 (G.2.2 c, cE G μz c) H) ?_ (at_f (t := 0) rfl (by decide) e0 a52 (f_z (c := 52) (by decide)) (hP 52 _ rfl))
    refine ltS9 (P := fun c => va_at D cls3 (G.2.2 c, cE G μz c) H) ?_ (at_f (t := 0) rfl (by decide) e0 a51 (f_z (c := 51) (by decide)) (hP 51 _ rfl))
    refine ltS9 (P := fun c => va_at D cls3 (G.2.2 c, cE G μz c) H) ?_ (at_f (t := 0) rfl (by decide) e0 a50 (f_z (c := 50) (by decide)) (hP 50 _ rfl))
    refine ltS9 (P := fun c => va_at D cls3 (G.2.2 c, cE G μz c) H) ?_ (at_f (t := 0) rfl (by decide) e0 a49 (f_z (c := 49) (by decide)) (hP 49 _ rfl))
    refine ltS9 (P := fun c => va_at D cls3 (G.2.2 c, cE G μz c) H) ?_ (at_f (t := 0) rfl (by decide) e0 a48 (f_z (c := 48) (by decide)) (hP 48 _ rfl))
    refine ltS9 (P := fun c => va_at D cls3 (G.2.2 c, cE G μz c) H) ?_ (at_f (t := 0) rfl (by decide) e0 a47 (f_z (c := 47) (by decide)) (hP 47 _ rfl))
    refine ltS9 (P := fun c => va_at D cls3 (G.2.2 c, cE G μz c) H) ?_ (at_f (t := 0) rfl (by decide) e0 a46 (f_z (c := 46) (by decide)) (hP 46 _ rfl))
    refine ltS9 (P := fun c => va_at D cls3 (G.2.2 c, cE G μz c) H) ?_ (at_f (t := 0) rfl (by decide) e0 a45 (f_z (c := 45) (by decide)) (hP 45 _ rfl))
    refine ltS9 (P := fun c => va_at D cls3 (G.2.2 c, cE G μz c) H) ?_ (at_f (t := 0) rfl (by decide) e0 a44 (f_z (c := 44) (by decide)) (hP 44 _ rfl))
    refine ltS9 (P := fun c => va_at D cls3 (G.2.2 c, cE G μz c) H) ?_ (at_f (t := 0) rfl (by decide) e0 a43 (f_z (c := 43) (by decide)) (hP 43 _ rfl))
    refine ltS9 (P := fun c => va_at D cls3 (G.2.2 c, cE G μz c) H) ?_ (at_f (t := 0) rfl (by decide) e0 a42 (f_z (c := 42) (by decide)) (hP 42 _ rfl))
    refine ltS9 (P := fun c => va_at D cls3 (G.2.2 c, cE G μz c) H) ?_ (at_f (t := 0) rfl (by decide) e0 a41 (f_z (c := 41) (by decide)) (hP 41 _ rfl))
    refine ltS9 (P := fun c => va_at D cls3 (G.2.2 c, cE G μz c) H) ?_ (at_f (t := 0) rfl (by decide) e0 a40 (f_z (c := 40) (by decide)) (hP 40 _ rfl))
    refine ltS9 (P := fun c => va_at D cls3 (G.2.2 c, cE G μz c) H) ?_ (by
    refine at_r (t := 2) rfl (by decide) e2 a39 ?_ (hP 39 _ rfl)
    refine ltS9 (P := fun i => _ = some (G.2.2 (39 + 1 + i))) ?_ (by rw [show 39 + 1 + 19 = 59 from rfl, a59]; rfl)
    refine ltS9 (P := fun i => _ = some (G.2.2 (39 + 1 + i))) ?_ (by rw [show 39 + 1 + 18 = 58 from rfl, a58]; rfl)
    refine ltS9 (P := fun i => _ = some (G.2.2 (39 + 1 + i))) ?_ (by rw [show 39 + 1 + 17 = 57 from rfl, a57]; rfl)
    refine ltS9 (P := fun i => _ = some (G.2.2 (39 + 1 + i))) ?_ (by rw [show 39 + 1 + 16 = 56 from rfl, a56]; rfl)
    refine ltS9 (P := fun i => _ = some (G.2.2 (39 + 1 + i))) ?_ (by rw [show 39 + 1 + 15 = 55 from rfl, a55]; rfl)
    refine ltS9 (P := fun i => _ = some (G.2.2 (39 + 1 + i))) ?_ (by rw [show 39 + 1 + 14 = 54 from rfl, a54]; rfl)
    refine ltS9 (P := fun i => _ = some (G.2.2 (39 + 1 + i))) ?_ (by rw [show 39 + 1 + 13 = 53 from rfl, a53]; rfl)
    refine ltS9 (P := fun i => _ = some (G.2.2 (39 + 1 + i))) ?_ (by rw [show 39 + 1 + 12 = 52 from rfl, a52]; rfl)
    refine ltS9 (P := fun i => _ = some (G.2.2 (39 + 1 + i))) ?_ (by rw [show 39 + 1 + 11 = 51 from rfl, a51]; rfl)
    refine ltS9 (P := fun i => _ = some (G.2.2 (39 + 1 + i))) ?_ (by rw [show 39 + 1 + 10 = 50 from rfl, a50]; rfl)
    refine ltS9 (P := fun i => _ = some (G.2.2 (39 + 1 + i))) ?_ (by rw [show 39 + 1 + 9 = 49 from rfl, a49]; rfl)
    refine ltS9 (P := fun i => _ = some (G.2.2 (39 + 1 + i))) ?_ (by rw [show 39 + 1 + 8 = 48 from rfl, a48]; rfl)
    refine ltS9 (P := fun i => _ = some (G.2.2 (39 + 1 + i))) ?_ (by rw [show 39 + 1 + 7 = 47 from rfl, a47]; rfl)
    refine ltS9 (P := fun i => _ = some (G.2.2 (39 + 1 + i))) ?_ (by rw [show 39 + 1 + 6 = 46 from rfl, a46]; rfl)
    refine ltS9 (P := fun i => _ = some (G.2.2 (39 + 1 + i))) ?_ (by rw [show 39 + 1 + 5 = 45 from rfl, a45]; rfl)
    refine ltS9 (P := fun i => _ = some (G.2.2 (39 + 1 + i))) ?_ (by rw [show 39 + 1 + 4 = 44 from rfl, a44]; rfl)
    refine ltS9 (P := fun i => _ = some (G.2.2 (39 + 1 + i))) ?_ (by rw [show 39 + 1 + 3 = 43 from rfl, a43]; rfl)
    refine ltS9 (P := fun i => _ = some (G.2.2 (39 + 1 + i))) ?_ (by rw [show 39 + 1 + 2 = 42 from rfl, a42]; rfl)
    refine ltS9 (P := fun i => _ = some (G.2.2 (39 + 1 + i))) ?_ (by rw [show 39 + 1 + 1 = 41 from rfl, a41]; rfl)
    refine ltS9 (P := fun i => _ = some (G.2.2 (39 + 1 + i))) ?_ (by rw [show 39 + 1 + 0 = 40 from rfl, a40]; rfl)
    exact ltZ9)
    refine ltS9 (P := fun c => va_at D cls3 (G.2.2 c, cE G μz c) H) ?_ (at_f (t := 0) rfl (by decide) e0 a38 (f_z (c := 38) (by decide)) (hP 38 _ rfl))
    refine ltS9 (P := fun c => va_at D cls3 (G.2.2 c, cE G μz c) H) ?_ (at_f (t := 0) rfl (by decide) e0 a37 (f_z (c := 37) (by decide)) (hP 37 _ rfl))
    refine ltS9 (P := fun c => va_at D cls3 (G.2.2 c, cE G μz c) H) ?_ (at_f (t := 0) rfl (by decide) e0 a36 (f_z (c := 36) (by decide)) (hP 36 _ rfl))
    refine ltS9 (P := fun c => va_at D cls3 (G.2.2 c, cE G μz c) H) ?_ (at_f (t := 0) rfl (by decide) e0 a35 (f_m (c := 35) (by decide)) (hP 3 _ rfl))
    refine ltS9 (P := fun c => va_at D cls3 (G.2.2 c, cE G μz c) H) ?_ (at_f (t := 0) rfl (by decide) e0 a34 (f_z (c := 34) (by decide)) (hP 35 _ rfl))
    refine ltS9 (P := fun c => va_at D cls3 (G.2.2 c, cE G μz c) H) ?_ (at_f (t := 0) rfl (by decide) e0 a33 (f_z (c := 33) (by decide)) (hP 34 _ rfl))
    refine ltS9 (P := fun c => va_at D cls3 (G.2.2 c, cE G μz c) H) ?_ (at_f (t := 0) rfl (by decide) e0 a32 (f_z (c := 32) (by decide)) (hP 33 _ rfl))
    refine ltS9 (P := fun c => va_at D cls3 (G.2.2 c, cE G μz c) H) ?_ (by
    refine at_r (t := 2) rfl (by decide) e2 a31 ?_ (hP 32 _ rfl)
    refine ltS9 (P := fun i => _ = some (G.2.2 (31 + 1 + i))) ?_ (by rw [show 31 + 1 + 2 = 34 from rfl, a34]; rfl)
    refine ltS9 (P := fun i => _ = some (G.2.2 (31 + 1 + i))) ?_ (by rw [show 31 + 1 + 1 = 33 from rfl, a33]; rfl)
    refine ltS9 (P := fun i => _ = some (G.2.2 (31 + 1 + i))) ?_ (by rw [show 31 + 1 + 0 = 32 from rfl, a32]; rfl)
    exact ltZ9)
    refine ltS9 (P := fun c => va_at D cls3 (G.2.2 c, cE G μz c) H) ?_ (at_f (t := 0) rfl (by decide) e0 a30 (f_z (c := 30) (by decide)) (hP 31 _ rfl))
    refine ltS9 (P := fun c => va_at D cls3 (G.2.2 c, cE G μz c) H) ?_ (at_f (t := 0) rfl (by decide) e0 a29 (f_z (c := 29) (by decide)) (hP 30 _ rfl))
    refine ltS9 (P := fun c => va_at D cls3 (G.2.2 c, cE G μz c) H) ?_ (at_f (t := 0) rfl (by decide) e0 a28 (f_z (c := 28) (by decide)) (hP 29 _ rfl))
    refine ltS9 (P := fun c => va_at D cls3 (G.2.2 c, cE G μz c) H) ?_ (at_f (t := 0) rfl (by decide) e0 a27 (f_z (c := 27) (by decide)) (hP 28 _ rfl))
    refine ltS9 (P := fun c => va_at D cls3 (G.2.2 c, cE G μz c) H) ?_ (at_f (t := 0) rfl (by decide) e0 a26 (f_z (c := 26) (by decide)) (hP 27 _ rfl))
    refine ltS9 (P := fun c => va_at D cls3 (G.2.2 c, cE G μz c) H) ?_ (at_o (ci := 0) (fs := [.ref q7a1, .ref q7a2, .ref q7a3, .ref q7a4, .int 0, .int 0, .int 0]) rfl a25 (Eq.trans (b := [.ref (G.2.2 26), .ref (G.2.2 27), .ref (G.2.2 28), .ref (G.2.2 29), .int 0, .int 0, .int 0]) rfl (by rw [a26, a27, a28, a29])) (hP 26 _ rfl))
    refine ltS9 (P := fun c => va_at D cls3 (G.2.2 c, cE G μz c) H) ?_ (at_f (t := 0) rfl (by decide) e0 a24 (f_z (c := 24) (by decide)) (hP 25 _ rfl))
    refine ltS9 (P := fun c => va_at D cls3 (G.2.2 c, cE G μz c) H) ?_ (at_f (t := 0) rfl (by decide) e0 a23 (f_z (c := 23) (by decide)) (hP 24 _ rfl))
    refine ltS9 (P := fun c => va_at D cls3 (G.2.2 c, cE G μz c) H) ?_ (at_f (t := 0) rfl (by decide) e0 a22 (f_z (c := 22) (by decide)) (hP 23 _ rfl))
    refine ltS9 (P := fun c => va_at D cls3 (G.2.2 c, cE G μz c) H) ?_ (at_f (t := 0) rfl (by decide) e0 a21 (f_z (c := 21) (by decide)) (hP 22 _ rfl))
    refine ltS9 (P := fun c => va_at D cls3 (G.2.2 c, cE G μz c) H) ?_ (at_o (ci := 0) (fs := [.ref q6a1, .ref q6a2, .ref q6a3, .ref q6a4, .int 0, .int 0, .int 0]) rfl a20 (Eq.trans (b := [.ref (G.2.2 21), .ref (G.2.2 22), .ref (G.2.2 23), .ref (G.2.2 24), .int 0, .int 0, .int 0]) rfl (by rw [a21, a22, a23, a24])) (hP 21 _ rfl))
    refine ltS9 (P := fun c => va_at D cls3 (G.2.2 c, cE G μz c) H) ?_ (at_f (t := 0) rfl (by decide) e0 a19 (f_z (c := 19) (by decide)) (hP 20 _ rfl))
    refine ltS9 (P := fun c => va_at D cls3 (G.2.2 c, cE G μz c) H) ?_ (at_f (t := 0) rfl (by decide) e0 a18 (f_z (c := 18) (by decide)) (hP 19 _ rfl))
    refine ltS9 (P := fun c => va_at D cls3 (G.2.2 c, cE G μz c) H) ?_ (at_f (t := 0) rfl (by decide) e0 a17 (f_z (c := 17) (by decide)) (hP 18 _ rfl))
    refine ltS9 (P := fun c => va_at D cls3 (G.2.2 c, cE G μz c) H) ?_ (at_f (t := 0) rfl (by decide) e0 a16 (f_z (c := 16) (by decide)) (hP 17 _ rfl))
    refine ltS9 (P := fun c => va_at D cls3 (G.2.2 c, cE G μz c) H) ?_ (at_o (ci := 0) (fs := [.ref q5a1, .ref q5a2, .ref q5a3, .ref q5a4, .int 0, .int 0, .int 0]) rfl a15 (Eq.trans (b := [.ref (G.2.2 16), .ref (G.2.2 17), .ref (G.2.2 18), .ref (G.2.2 19), .int 0, .int 0, .int 0]) rfl (by rw [a16, a17, a18, a19])) (hP 16 _ rfl))
    refine ltS9 (P := fun c => va_at D cls3 (G.2.2 c, cE G μz c) H) ?_ (at_f (t := 0) rfl (by decide) e0 a14 (f_m (c := 14) (by decide)) (hP 2 _ rfl))
    refine ltS9 (P := fun c => va_at D cls3 (G.2.2 c, cE G μz c) H) ?_ (at_f (t := 1) rfl (by decide) e1 a13 (f_z (c := 13) (by decide)) (hP 15 _ rfl))
    refine ltS9 (P := fun c => va_at D cls3 (G.2.2 c, cE G μz c) H) ?_ (at_f (t := 1) rfl (by decide) e1 a12 (f_z (c := 12) (by decide)) (hP 14 _ rfl))
    refine ltS9 (P := fun c => va_at D cls3 (G.2.2 c, cE G μz c) H) ?_ (at_f (t := 1) rfl (by decide) e1 a11 (f_z (c := 11) (by decide)) (hP 13 _ rfl))
    refine ltS9 (P := fun c => va_at D cls3 (G.2.2 c, cE G μz c) H) ?_ (at_f (t := 1) rfl (by decide) e1 a10 (f_z (c := 10) (by decide)) (hP 12 _ rfl))
    refine ltS9 (P := fun c => va_at D cls3 (G.2.2 c, cE G μz c) H) ?_ (by
    refine at_r (t := 3) rfl (by decide) e3 a9 ?_ (hP 11 _ rfl)
    refine ltS9 (P := fun i => _ = some (G.2.2 (9 + 1 + i))) ?_ (by rw [show 9 + 1 + 3 = 13 from rfl, a13]; rfl)
    refine ltS9 (P := fun i => _ = some (G.2.2 (9 + 1 + i))) ?_ (by rw [show 9 + 1 + 2 = 12 from rfl, a12]; rfl)
    refine ltS9 (P := fun i => _ = some (G.2.2 (9 + 1 + i))) ?_ (by rw [show 9 + 1 + 1 = 11 from rfl, a11]; rfl)
    refine ltS9 (P := fun i => _ = some (G.2.2 (9 + 1 + i))) ?_ (by rw [show 9 + 1 + 0 = 10 from rfl, a10]; rfl)
    exact ltZ9)
    refine ltS9 (P := fun c => va_at D cls3 (G.2.2 c, cE G μz c) H) ?_ (at_f (t := 0) rfl (by decide) e0 a8 (f_m (c := 8) (by decide)) (hP 1 _ rfl))
    refine ltS9 (P := fun c => va_at D cls3 (G.2.2 c, cE G μz c) H) ?_ (at_f (t := 0) rfl (by decide) e0 a7 (f_z (c := 7) (by decide)) (hP 10 _ rfl))
    refine ltS9 (P := fun c => va_at D cls3 (G.2.2 c, cE G μz c) H) ?_ (at_f (t := 0) rfl (by decide) e0 a6 (f_z (c := 6) (by decide)) (hP 9 _ rfl))
    refine ltS9 (P := fun c => va_at D cls3 (G.2.2 c, cE G μz c) H) ?_ (at_f (t := 0) rfl (by decide) e0 a5 (f_z (c := 5) (by decide)) (hP 8 _ rfl))
    refine ltS9 (P := fun c => va_at D cls3 (G.2.2 c, cE G μz c) H) ?_ (at_f (t := 0) rfl (by decide) e0 a4 (f_z (c := 4) (by decide)) (hP 7 _ rfl))
    refine ltS9 (P := fun c => va_at D cls3 (G.2.2 c, cE G μz c) H) ?_ (at_f (t := 0) rfl (by decide) e0 a3 (f_z (c := 3) (by decide)) (hP 6 _ rfl))
    refine ltS9 (P := fun c => va_at D cls3 (G.2.2 c, cE G μz c) H) ?_ (at_f (t := 0) rfl (by decide) e0 a2 (f_z (c := 2) (by decide)) (hP 5 _ rfl))
    refine ltS9 (P := fun c => va_at D cls3 (G.2.2 c, cE G μz c) H) ?_ (by
    refine at_r (t := 2) rfl (by decide) e2 a1 ?_ (hP 4 _ rfl)
    refine ltS9 (P := fun i => _ = some (G.2.2 (1 + 1 + i))) ?_ (by rw [show 1 + 1 + 5 = 7 from rfl, a7]; rfl)
    refine ltS9 (P := fun i => _ = some (G.2.2 (1 + 1 + i))) ?_ (by rw [show 1 + 1 + 4 = 6 from rfl, a6]; rfl)
    refine ltS9 (P := fun i => _ = some (G.2.2 (1 + 1 + i))) ?_ (by rw [show 1 + 1 + 3 = 5 from rfl, a5]; rfl)
    refine ltS9 (P := fun i => _ = some (G.2.2 (1 + 1 + i))) ?_ (by rw [show 1 + 1 + 2 = 4 from rfl, a4]; rfl)
    refine ltS9 (P := fun i => _ = some (G.2.2 (1 + 1 + i))) ?_ (by rw [show 1 + 1 + 1 = 3 from rfl, a3]; rfl)
    refine ltS9 (P := fun i => _ = some (G.2.2 (1 + 1 + i))) ?_ (by rw [show 1 + 1 + 0 = 2 from rfl, a2]; rfl)
    exact ltZ9)
    refine ltS9 (P := fun c => va_at D cls3 (G.2.2 c, cE G μz c) H) ?_ (at_o (ci := 1) (fs := [.ref q1, .ref q2, .ref q3, .ref q4, .ref q5, .ref q6, .ref q7, .ref q8, .int 0, .ref q9, .ref q10, .int 0, .long 0, .long 1, .int 0, .ref q11, .ref q12, .ref q13, .ref q14]) rfl a0 (Eq.trans (b := [.ref (G.2.2 1), .ref (G.2.2 8), .ref (G.2.2 9), .ref (G.2.2 14), .ref (G.2.2 15), .ref (G.2.2 20), .ref (G.2.2 25), .ref (G.2.2 30), .int 0, .ref (G.2.2 31), .ref (G.2.2 35), .int 0, .long 0, .long 1, .int 0, .ref (G.2.2 36), .ref (G.2.2 37), .ref (G.2.2 38), .ref (G.2.2 39)]) rfl (by rw [a1, a8, a9, a14, a15, a20, a25, a30, a31, a35, a36, a37, a38, a39])) (hP 0 _ rfl))
    exact ltZ9
  · refine ltS9 (P := fun c => ∃ e, _ = some (G.2.2 c, e)) ?_ (⟨_, by rw [a59]; rfl⟩)
    refine ltS9 (P := fun c => ∃ e, _ = some (G.2.2 c, e)) ?_ (⟨_, by rw [a58]; rfl⟩)
    refine ltS9 (P := fun c => ∃ e, _ = some (G.2.2 c, e)) ?_ (⟨_, by rw [a57]; rfl⟩)
    refine ltS9 (P := fun c => ∃ e, _ = some (G.2.2 c, e)) ?_ (⟨_, by rw [a56]; rfl⟩)
    refine ltS9 (P := fun c => ∃ e, _ = some (G.2.2 c, e)) ?_ (⟨_, by rw [a55]; rfl⟩)
    refine ltS9 (P := fun c => ∃ e, _ = some (G.2.2 c, e)) ?_ (⟨_, by rw [a54]; rfl⟩)
    refine ltS9 (P := fun c => ∃ e, _ = some (G.2.2 c, e)) ?_ (⟨_, by rw [a53]; rfl⟩)
    refine ltS9 (P := fun c => ∃ e, _ = some (G.2.2 c, e)) ?_ (⟨_, by rw [a52]; rfl⟩)
    refine ltS9 (P := fun c => ∃ e, _ = some (G.2.2 c, e)) ?_ (⟨_, by rw [a51]; rfl⟩)
    refine ltS9 (P := fun c => ∃ e, _ = some (G.2.2 c, e)) ?_ (⟨_, by rw [a50]; rfl⟩)
    refine ltS9 (P := fun c => ∃ e, _ = some (G.2.2 c, e)) ?_ (⟨_, by rw [a49]; rfl⟩)
    refine ltS9 (P := fun c => ∃ e, _ = some (G.2.2 c, e)) ?_ (⟨_, by rw [a48]; rfl⟩)
    refine ltS9 (P := fun c => ∃ e, _ = some (G.2.2 c, e)) ?_ (⟨_, by rw [a47]; rfl⟩)
    refine ltS9 (P := fun c => ∃ e, _ = some (G.2.2 c, e)) ?_ (⟨_, by rw [a46]; rfl⟩)
    refine ltS9 (P := fun c => ∃ e, _ = some (G.2.2 c, e)) ?_ (⟨_, by rw [a45]; rfl⟩)
    refine ltS9 (P := fun c => ∃ e, _ = some (G.2.2 c, e)) ?_ (⟨_, by rw [a44]; rfl⟩)
    refine ltS9 (P := fun c => ∃ e, _ = some (G.2.2 c, e)) ?_ (⟨_, by rw [a43]; rfl⟩)
    refine ltS9 (P := fun c => ∃ e, _ = some (G.2.2 c, e)) ?_ (⟨_, by rw [a42]; rfl⟩)
    refine ltS9 (P := fun c => ∃ e, _ = some (G.2.2 c, e)) ?_ (⟨_, by rw [a41]; rfl⟩)
    refine ltS9 (P := fun c => ∃ e, _ = some (G.2.2 c, e)) ?_ (⟨_, by rw [a40]; rfl⟩)
    refine ltS9 (P := fun c => ∃ e, _ = some (G.2.2 c, e)) ?_ (⟨_, by rw [a39]; rfl⟩)
    refine ltS9 (P := fun c => ∃ e, _ = some (G.2.2 c, e)) ?_ (⟨_, by rw [a38]; rfl⟩)
    refine ltS9 (P := fun c => ∃ e, _ = some (G.2.2 c, e)) ?_ (⟨_, by rw [a37]; rfl⟩)
    refine ltS9 (P := fun c => ∃ e, _ = some (G.2.2 c, e)) ?_ (⟨_, by rw [a36]; rfl⟩)
    refine ltS9 (P := fun c => ∃ e, _ = some (G.2.2 c, e)) ?_ (⟨_, by rw [a35]; rfl⟩)
    refine ltS9 (P := fun c => ∃ e, _ = some (G.2.2 c, e)) ?_ (⟨_, by rw [a34]; rfl⟩)
    refine ltS9 (P := fun c => ∃ e, _ = some (G.2.2 c, e)) ?_ (⟨_, by rw [a33]; rfl⟩)
    refine ltS9 (P := fun c => ∃ e, _ = some (G.2.2 c, e)) ?_ (⟨_, by rw [a32]; rfl⟩)
    refine ltS9 (P := fun c => ∃ e, _ = some (G.2.2 c, e)) ?_ (⟨_, by rw [a31]; rfl⟩)
    refine ltS9 (P := fun c => ∃ e, _ = some (G.2.2 c, e)) ?_ (⟨_, by rw [a30]; rfl⟩)
    refine ltS9 (P := fun c => ∃ e, _ = some (G.2.2 c, e)) ?_ (⟨_, by rw [a29]; rfl⟩)
    refine ltS9 (P := fun c => ∃ e, _ = some (G.2.2 c, e)) ?_ (⟨_, by rw [a28]; rfl⟩)
    refine ltS9 (P := fun c => ∃ e, _ = some (G.2.2 c, e)) ?_ (⟨_, by rw [a27]; rfl⟩)
    refine ltS9 (P := fun c => ∃ e, _ = some (G.2.2 c, e)) ?_ (⟨_, by rw [a26]; rfl⟩)
    refine ltS9 (P := fun c => ∃ e, _ = some (G.2.2 c, e)) ?_ (⟨_, by rw [a25]; rfl⟩)
    refine ltS9 (P := fun c => ∃ e, _ = some (G.2.2 c, e)) ?_ (⟨_, by rw [a24]; rfl⟩)
    refine ltS9 (P := fun c => ∃ e, _ = some (G.2.2 c, e)) ?_ (⟨_, by rw [a23]; rfl⟩)
    refine ltS9 (P := fun c => ∃ e, _ = some (G.2.2 c, e)) ?_ (⟨_, by rw [a22]; rfl⟩)
    refine ltS9 (P := fun c => ∃ e, _ = some (G.2.2 c, e)) ?_ (⟨_, by rw [a21]; rfl⟩)
    refine ltS9 (P := fun c => ∃ e, _ = some (G.2.2 c, e)) ?_ (⟨_, by rw [a20]; rfl⟩)
    refine ltS9 (P := fun c => ∃ e, _ = some (G.2.2 c, e)) ?_ (⟨_, by rw [a19]; rfl⟩)
    refine ltS9 (P := fun c => ∃ e, _ = some (G.2.2 c, e)) ?_ (⟨_, by rw [a18]; rfl⟩)
    refine ltS9 (P := fun c => ∃ e, _ = some (G.2.2 c, e)) ?_ (⟨_, by rw [a17]; rfl⟩)
    refine ltS9 (P := fun c => ∃ e, _ = some (G.2.2 c, e)) ?_ (⟨_, by rw [a16]; rfl⟩)
    refine ltS9 (P := fun c => ∃ e, _ = some (G.2.2 c, e)) ?_ (⟨_, by rw [a15]; rfl⟩)
    refine ltS9 (P := fun c => ∃ e, _ = some (G.2.2 c, e)) ?_ (⟨_, by rw [a14]; rfl⟩)
    refine ltS9 (P := fun c => ∃ e, _ = some (G.2.2 c, e)) ?_ (⟨_, by rw [a13]; rfl⟩)
    refine ltS9 (P := fun c => ∃ e, _ = some (G.2.2 c, e)) ?_ (⟨_, by rw [a12]; rfl⟩)
    refine ltS9 (P := fun c => ∃ e, _ = some (G.2.2 c, e)) ?_ (⟨_, by rw [a11]; rfl⟩)
    refine ltS9 (P := fun c => ∃ e, _ = some (G.2.2 c, e)) ?_ (⟨_, by rw [a10]; rfl⟩)
    refine ltS9 (P := fun c => ∃ e, _ = some (G.2.2 c, e)) ?_ (⟨_, by rw [a9]; rfl⟩)
    refine ltS9 (P := fun c => ∃ e, _ = some (G.2.2 c, e)) ?_ (⟨_, by rw [a8]; rfl⟩)
    refine ltS9 (P := fun c => ∃ e, _ = some (G.2.2 c, e)) ?_ (⟨_, by rw [a7]; rfl⟩)
    refine ltS9 (P := fun c => ∃ e, _ = some (G.2.2 c, e)) ?_ (⟨_, by rw [a6]; rfl⟩)
    refine ltS9 (P := fun c => ∃ e, _ = some (G.2.2 c, e)) ?_ (⟨_, by rw [a5]; rfl⟩)
    refine ltS9 (P := fun c => ∃ e, _ = some (G.2.2 c, e)) ?_ (⟨_, by rw [a4]; rfl⟩)
    refine ltS9 (P := fun c => ∃ e, _ = some (G.2.2 c, e)) ?_ (⟨_, by rw [a3]; rfl⟩)
    refine ltS9 (P := fun c => ∃ e, _ = some (G.2.2 c, e)) ?_ (⟨_, by rw [a2]; rfl⟩)
    refine ltS9 (P := fun c => ∃ e, _ = some (G.2.2 c, e)) ?_ (⟨_, by rw [a1]; rfl⟩)
    refine ltS9 (P := fun c => ∃ e, _ = some (G.2.2 c, e)) ?_ (⟨_, by rw [a0]; rfl⟩)
    exact ltZ9
set_option maxHeartbeats 40000000 in
set_option maxRecDepth 100000 in
theorem K_X1_init (l : Launch) (D : va_G) (h0 sz : Nat) : Met l yX1_init (Cond.code yX1_init cX1_init 1 none :: gd_tbl) ({ frames := 2, cells := 59, slots := 938, locals := 120 } : Room) (va_Pc [.ref h0] (fun U => U.heap.size = sz ∧ va_P D cls3 [(h0, .inr (1, [.null, .null, .null, .null, .null, .null, .null, .null, .int 0, .null, .null, .int 0, .long 0, .long 0, .int 0, .null, .null, .null, .null]))] U.heap ∧ va_K D cls3 [] U ∧ va_D (fun _ => True) [(h0, .inr (1, [.null, .null, .null, .null, .null, .null, .null, .null, .int 0, .null, .null, .int 0, .long 0, .long 0, .int 0, .null, .null, .null, .null]))] ∧ (∀ w ∈ ns_tbl, va_Nw w U) ∧ va_AOA .int U ∧ va_AOA .byte U)) (va_Qv (fun _ : Unit => True) (fun _ => fordP D (va_A [(h0, .inr (1, [.null, .null, .null, .null, .null, .null, .null, .null, .int 0, .null, .null, .int 0, .long 0, .long 0, .int 0, .null, .null, .null, .null]))] sz) h0) (va_A [(h0, .inr (1, [.null, .null, .null, .null, .null, .null, .null, .null, .int 0, .null, .null, .int 0, .long 0, .long 0, .int 0, .null, .null, .null, .null]))] sz)) 59 938 (va_A [(h0, .inr (1, [.null, .null, .null, .null, .null, .null, .null, .null, .int 0, .null, .null, .int 0, .long 0, .long 0, .int 0, .null, .null, .null, .null]))] sz) := by
  refine Met.ofW (cc := cX1_init) (maxL := 1) (ret := none) (by decide) rfl ?_
  intro p e s m args below meth c s₁ B hml hv
  obtain ⟨rfl, hsz, hP, hK, hD0, hn0, hAI, hAB⟩ := hv
  have hx := B.exec
  have hb := B.bytes
  have hr := B.returns
  have hts0 := atoms_spec (ws := Cond.code yX1_init cX1_init 1 none :: gd_tbl) B.pre
  have hts : ∀ w ∈ gd_tbl, w.before _ s = true := fun w hw => hts0 w (List.mem_cons_of_mem _ hw)
  have hown : s.vm.findClass RX1 = some m.cls := findClass_of_methodNamed B.named
  have hlocks := B.notSynchronized
  have hin : meth.name = "<init>" := (name_of_methodNamed B.named B.method).1
  subst hsz
  have hD := hD0.self (sz := s.heap.size)
  generalize hAe : va_A [(h0, .inr (1, [.null, .null, .null, .null, .null, .null, .null, .null, .int 0, .null, .null, .int 0, .long 0, .long 0, .int 0, .null, .null, .null, .null]))] s.heap.size = A at hD ⊢
  have hA : ∀ q : Nat, s.heap.size ≤ q → A q := fun q h => by rw [← hAe]; exact Or.inr h
  have hS : va_S A s.heap s.heap [] := va_S.rf
  have hP : va_P D cls3 ([(h0, .inr (1, [.null, .null, .null, .null, .null, .null, .null, .null, .int 0, .null, .null, .int 0, .long 0, .long 0, .int 0, .null, .null, .null, .null]))] ++ []) s.heap := hP
  have hD : va_D A ([(h0, .inr (1, [.null, .null, .null, .null, .null, .null, .null, .null, .int 0, .null, .null, .int 0, .long 0, .long 0, .int 0, .null, .null, .null, .null]))] ++ []) := hD
  obtain ⟨cA, hK⟩ := K_start hK (hts _ gd_aI)
  obtain ⟨cB, hK⟩ := K_startB hK (hts _ gd_aB)
  have hK : va_K D cls3 [(cA, .int), (cB, .byte)] s := hK
  have hl := lv_entry ([.ref h0]) (n := 1) (Nat.le_of_ble_eq_true rfl)
  rw [lg_entry_eq]
  generalize (lg_sl ([.ref h0]) ++ List.replicate (1 - (lg_sl ([.ref h0])).length) Slot.unset).toArray = ls at hl ⊢
  have hl : lv_has ls 1 [(0, .ref h0)] := hl
  refine lv_aload_n hx hb dX1_init_0 rfl (lv_at hl 0 rfl) ?_
  refine W.objInit hx hb hown (hts _ lk1_o) (hts _ gd_oi) (hts _ gd_oc) rfl (by rw [hml]; exact hl.1) rfl dX1_init_1 (Nat.le_of_ble_eq_true rfl) (Nat.le_of_ble_eq_true rfl) ?_
  refine lv_aload_n hx hb dX1_init_4 rfl (lv_at hl 0 rfl) ?_
  refine lv_bipush (v := 6) hx hb dX1_init_5 (by decide) ?_
  refine lv_bipush (v := 40) hx hb dX1_init_7 (by decide) ?_
  refine mnaR (ty := .int) (cy := cA) hx hb hown (hts _ lk1_c9) hAI (hts _ gd_aI) (show s.vm.findClass (FieldType.array .int).toString = some cA from (hK.2 0 _ rfl).2) hK hP hD hS hA (N' := 6) (K' := 40) (z := (40, .inl fun _ => 0)) (by decide) (by decide) (by decide) (by decide) (by decide) (by decide) (by decide) rfl rfl (Nat.le_of_ble_eq_true rfl) (Nat.le_of_ble_eq_true rfl) (fun c9 => arrV_new c9 40 _) dX1_init_9 (fun q1 r1 cN H hK hP hD hS => ?_)
  obtain ⟨cC, rfl⟩ : ∃ z, z = cN := ⟨_, rfl⟩
  have hK : va_K D cls3 [(cA, .int), (cB, .byte), (cC, .array .int)] s := hK
  obtain ⟨R1, eR1, hP, hD⟩ := wret (X := [(h0, .inr (1, [.null, .null, .null, .null, .null, .null, .null, .null, .int 0, .null, .null, .int 0, .long 0, .long 0, .int 0, .null, .null, .null, .null]))]) (R := []) (Y := ([(q1, .inl (cC, 6, .inr (.inr (.inr (.inr (fun i => if i < 6 then some (r1 i) else none))))))] ++ (List.range 6).map (fun i => (r1 i, .inl (cA, 40, .inl fun _ => 0))))) hP hD
  refine va_putF (D := D) (ci := 1) (v := .ref q1) (ty := .array (.array .int)) (C := RX1) (T := TX1) (N := 19) hx hb hts inG1 tyX1 tyX1_ok nmX1 hown hK hP hD hS 0 rfl rfl 0 (by decide) (hts _ lk1_0) (fun _ h9 => h9) rfl hin rfl (by decide +kernel) rfl rfl (Nat.le_of_ble_eq_true rfl) dX1_init_13 (fun H locs hP hD hS => ?_)
  have hP : va_P D cls3 ([(h0, .inr (1, [.ref q1, .null, .null, .null, .null, .null, .null, .null, .int 0, .null, .null, .int 0, .long 0, .long 0, .int 0, .null, .null, .null, .null]))] ++ R1) H := hP
  have hD : va_D A ([(h0, .inr (1, [.ref q1, .null, .null, .null, .null, .null, .null, .null, .int 0, .null, .null, .int 0, .long 0, .long 0, .int 0, .null, .null, .null, .null]))] ++ R1) := hD
  refine lv_aload_n hx hb dX1_init_16 rfl (lv_at hl 0 rfl) ?_
  refine lv_bipush (v := 6) hx hb dX1_init_17 (by decide) ?_
  refine va_newa (atype := .int) hx hb (hts _ gd_aI) (ty := .int) rfl hK hP hD hS hA (N' := 6) (a0 := (6, .inl fun _ => 0)) (fun _ => rfl) (by decide) (by decide) (by decide) (Nat.le_of_ble_eq_true rfl) (Nat.le_of_ble_eq_true rfl) dX1_init_19 (fun q2 cN H hK hP hD hS => ?_)
  obtain rfl : cA = cN := (K_same hK (i := 0) (j := 3) rfl rfl).symm
  have hK := hK.sub (tys' := [(cA, .int), (cB, .byte), (cC, .array .int)]) [0, 1, 2] rfl
  obtain ⟨hP, hD⟩ := wswp (X := [(h0, .inr (1, [.ref q1, .null, .null, .null, .null, .null, .null, .null, .int 0, .null, .null, .int 0, .long 0, .long 0, .int 0, .null, .null, .null, .null]))]) (R := R1) (Y := [(q2, .inl (cA, 6, .inl fun _ => 0))]) hP hD
  have hP : va_P D cls3 ([(h0, .inr (1, [.ref q1, .null, .null, .null, .null, .null, .null, .null, .int 0, .null, .null, .int 0, .long 0, .long 0, .int 0, .null, .null, .null, .null])), (q2, .inl (cA, 6, .inl fun _ => 0))] ++ R1) H := hP
  have hD : va_D A ([(h0, .inr (1, [.ref q1, .null, .null, .null, .null, .null, .null, .null, .int 0, .null, .null, .int 0, .long 0, .long 0, .int 0, .null, .null, .null, .null])), (q2, .inl (cA, 6, .inl fun _ => 0))] ++ R1) := hD
  refine va_putF (D := D) (ci := 1) (v := .ref q2) (ty := .array .int) (C := RX1) (T := TX1) (N := 19) hx hb hts inG1 tyX1 tyX1_ok nmX1 hown hK hP hD hS 0 rfl rfl 1 (by decide) (hts _ lk1_1) (fun _ h9 => h9) rfl hin rfl (by decide +kernel) rfl rfl (Nat.le_of_ble_eq_true rfl) dX1_init_21 (fun H locs hP hD hS => ?_)
  have hP : va_P D cls3 ([(h0, .inr (1, [.ref q1, .ref q2, .null, .null, .null, .null, .null, .null, .int 0, .null, .null, .int 0, .long 0, .long 0, .int 0, .null, .null, .null, .null])), (q2, .inl (cA, 6, .inl fun _ => 0))] ++ R1) H := hP
  have hD : va_D A ([(h0, .inr (1, [.ref q1, .ref q2, .null, .null, .null, .null, .null, .null, .int 0, .null, .null, .int 0, .long 0, .long 0, .int 0, .null, .null, .null, .null])), (q2, .inl (cA, 6, .inl fun _ => 0))] ++ R1) := hD
  refine lv_aload_n hx hb dX1_init_24 rfl (lv_at hl 0 rfl) ?_
  refine lv_iconst (v := 4) hx hb dX1_init_25 (by decide) ?_
  refine lv_bipush (v := 60) hx hb dX1_init_26 (by decide) ?_
  refine mnaR (ty := .byte) (cy := cB) hx hb hown (hts _ lk1_c18) hAB (hts _ gd_aB) (show s.vm.findClass (FieldType.array .byte).toString = some cB from (hK.2 1 _ rfl).2) hK hP hD hS hA (N' := 4) (K' := 60) (z := (60, .inl fun _ => 0)) (by decide) (by decide) (by decide) (by decide) (by decide) (by decide) (by decide) rfl rfl (Nat.le_of_ble_eq_true rfl) (Nat.le_of_ble_eq_true rfl) (fun c9 => arrV_new c9 60 _) dX1_init_28 (fun q3 r2 cN H hK hP hD hS => ?_)
  obtain ⟨cE, rfl⟩ : ∃ z, z = cN := ⟨_, rfl⟩
  have hK : va_K D cls3 [(cA, .int), (cB, .byte), (cC, .array .int), (cE, .array .byte)] s := hK
  obtain ⟨R2, eR2, hP, hD⟩ := wret (X := [(h0, .inr (1, [.ref q1, .ref q2, .null, .null, .null, .null, .null, .null, .int 0, .null, .null, .int 0, .long 0, .long 0, .int 0, .null, .null, .null, .null])), (q2, .inl (cA, 6, .inl fun _ => 0))]) (R := R1) (Y := ([(q3, .inl (cE, 4, .inr (.inr (.inr (.inr (fun i => if i < 4 then some (r2 i) else none))))))] ++ (List.range 4).map (fun i => (r2 i, .inl (cB, 60, .inl fun _ => 0))))) hP hD
  refine va_putF (D := D) (ci := 1) (v := .ref q3) (ty := .array (.array .byte)) (C := RX1) (T := TX1) (N := 19) hx hb hts inG1 tyX1 tyX1_ok nmX1 hown hK hP hD hS 0 rfl rfl 2 (by decide) (hts _ lk1_2) (fun _ h9 => h9) rfl hin rfl (by decide +kernel) rfl rfl (Nat.le_of_ble_eq_true rfl) dX1_init_32 (fun H locs hP hD hS => ?_)
  have hP : va_P D cls3 ([(h0, .inr (1, [.ref q1, .ref q2, .ref q3, .null, .null, .null, .null, .null, .int 0, .null, .null, .int 0, .long 0, .long 0, .int 0, .null, .null, .null, .null])), (q2, .inl (cA, 6, .inl fun _ => 0))] ++ R2) H := hP
  have hD : va_D A ([(h0, .inr (1, [.ref q1, .ref q2, .ref q3, .null, .null, .null, .null, .null, .int 0, .null, .null, .int 0, .long 0, .long 0, .int 0, .null, .null, .null, .null])), (q2, .inl (cA, 6, .inl fun _ => 0))] ++ R2) := hD
  refine lv_aload_n hx hb dX1_init_35 rfl (lv_at hl 0 rfl) ?_
  refine lv_iconst (v := 4) hx hb dX1_init_36 (by decide) ?_
  refine va_newa (atype := .int) hx hb (hts _ gd_aI) (ty := .int) rfl hK hP hD hS hA (N' := 4) (a0 := (4, .inl fun _ => 0)) (fun _ => rfl) (by decide) (by decide) (by decide) (Nat.le_of_ble_eq_true rfl) (Nat.le_of_ble_eq_true rfl) dX1_init_37 (fun q4 cN H hK hP hD hS => ?_)
  obtain rfl : cA = cN := (K_same hK (i := 0) (j := 4) rfl rfl).symm
  have hK := hK.sub (tys' := [(cA, .int), (cB, .byte), (cC, .array .int), (cE, .array .byte)]) [0, 1, 2, 3] rfl
  obtain ⟨hP, hD⟩ := wswp (X := [(h0, .inr (1, [.ref q1, .ref q2, .ref q3, .null, .null, .null, .null, .null, .int 0, .null, .null, .int 0, .long 0, .long 0, .int 0, .null, .null, .null, .null])), (q2, .inl (cA, 6, .inl fun _ => 0))]) (R := R2) (Y := [(q4, .inl (cA, 4, .inl fun _ => 0))]) hP hD
  have hP : va_P D cls3 ([(h0, .inr (1, [.ref q1, .ref q2, .ref q3, .null, .null, .null, .null, .null, .int 0, .null, .null, .int 0, .long 0, .long 0, .int 0, .null, .null, .null, .null])), (q2, .inl (cA, 6, .inl fun _ => 0)), (q4, .inl (cA, 4, .inl fun _ => 0))] ++ R2) H := hP
  have hD : va_D A ([(h0, .inr (1, [.ref q1, .ref q2, .ref q3, .null, .null, .null, .null, .null, .int 0, .null, .null, .int 0, .long 0, .long 0, .int 0, .null, .null, .null, .null])), (q2, .inl (cA, 6, .inl fun _ => 0)), (q4, .inl (cA, 4, .inl fun _ => 0))] ++ R2) := hD
  refine va_putF (D := D) (ci := 1) (v := .ref q4) (ty := .array .int) (C := RX1) (T := TX1) (N := 19) hx hb hts inG1 tyX1 tyX1_ok nmX1 hown hK hP hD hS 0 rfl rfl 3 (by decide) (hts _ lk1_3) (fun _ h9 => h9) rfl hin rfl (by decide +kernel) rfl rfl (Nat.le_of_ble_eq_true rfl) dX1_init_39 (fun H locs hP hD hS => ?_)
  have hP : va_P D cls3 ([(h0, .inr (1, [.ref q1, .ref q2, .ref q3, .ref q4, .null, .null, .null, .null, .int 0, .null, .null, .int 0, .long 0, .long 0, .int 0, .null, .null, .null, .null])), (q2, .inl (cA, 6, .inl fun _ => 0)), (q4, .inl (cA, 4, .inl fun _ => 0))] ++ R2) H := hP
  have hD : va_D A ([(h0, .inr (1, [.ref q1, .ref q2, .ref q3, .ref q4, .null, .null, .null, .null, .int 0, .null, .null, .int 0, .long 0, .long 0, .int 0, .null, .null, .null, .null])), (q2, .inl (cA, 6, .inl fun _ => 0)), (q4, .inl (cA, 4, .inl fun _ => 0))] ++ R2) := hD
  refine lv_aload_n hx hb dX1_init_42 rfl (lv_at hl 0 rfl) ?_
  refine va_new (C := RX0) (T := TX0) (N := 7) (ci := 0) (fs := [.null, .null, .null, .null, .int 0, .int 0, .int 0]) hx hb hts inG0 tyX0 tyX0_ok hown (hts _ lk1_c26) (hts _ lk1_in0) (hts _ lk1_ini) hK hP hD hS hA rfl (fun j hj => match j, hj with | 0, _ => rfl | 1, _ => rfl | 2, _ => rfl | 3, _ => rfl | 4, _ => rfl | 5, _ => rfl | 6, _ => rfl) (Nat.le_of_ble_eq_true rfl) (Nat.le_of_ble_eq_true rfl) dX1_init_43 (fun q5 H hP hD hS => ?_)
  obtain ⟨hP, hD⟩ := wswp (X := [(h0, .inr (1, [.ref q1, .ref q2, .ref q3, .ref q4, .null, .null, .null, .null, .int 0, .null, .null, .int 0, .long 0, .long 0, .int 0, .null, .null, .null, .null])), (q2, .inl (cA, 6, .inl fun _ => 0)), (q4, .inl (cA, 4, .inl fun _ => 0))]) (R := R2) (Y := [(q5, .inr (0, [.null, .null, .null, .null, .int 0, .int 0, .int 0]))]) hP hD
  have hP : va_P D cls3 ([(h0, .inr (1, [.ref q1, .ref q2, .ref q3, .ref q4, .null, .null, .null, .null, .int 0, .null, .null, .int 0, .long 0, .long 0, .int 0, .null, .null, .null, .null])), (q2, .inl (cA, 6, .inl fun _ => 0)), (q4, .inl (cA, 4, .inl fun _ => 0)), (q5, .inr (0, [.null, .null, .null, .null, .int 0, .int 0, .int 0]))] ++ R2) H := hP
  have hD : va_D A ([(h0, .inr (1, [.ref q1, .ref q2, .ref q3, .ref q4, .null, .null, .null, .null, .int 0, .null, .null, .int 0, .long 0, .long 0, .int 0, .null, .null, .null, .null])), (q2, .inl (cA, 6, .inl fun _ => 0)), (q4, .inl (cA, 4, .inl fun _ => 0)), (q5, .inr (0, [.null, .null, .null, .null, .int 0, .int 0, .int 0]))] ++ R2) := hD
  refine lv_dup hx hb dX1_init_46 rfl ?_
  have hPc := hP.sub (ws' := [(q5, .inr (0, [.null, .null, .null, .null, .int 0, .int 0, .int 0]))]) [3] rfl
  have hDc := hD.sub (ws' := [(q5, .inr (0, [.null, .null, .null, .null, .int 0, .int 0, .int 0]))]) [3] (by decide) rfl
  have hKc := hK.sub (tys' := []) [] rfl
  have hFc := va_free (wc := [(q5, .inr (0, [.null, .null, .null, .null, .int 0, .int 0, .int 0]))]) hD hS hA [3] rfl
  refine va_callv (va_runIN (As := []) (rest := [.ref q5, .ref h0]) ⟨hx, hb, hml, hown, hts⟩ (K_X0_init l D q5 H.size) ⟨va_cnB 0 hts (gd_cons lk1_cd) rfl rfl rfl (hn0 _ lk1_ml) (hts _ lk1_ini) yo0_init ⟨(Nat.le_of_ble_eq_true rfl), (Nat.le_of_ble_eq_true rfl)⟩, rfl, hts _ lk1_im⟩ ⟨fun a U g mk q => by obtain ⟨q0, q1, qP, qK, qD⟩ := q; exact ⟨q0, q1, qP, va_K.moved (u := U) (U := U.calling g mk a) (Vm.Alike.refl U.vm) qK, qD⟩, fun U hU hW => ⟨rfl, by rw [hU], by rw [hU]; exact hPc, va_K.moved hW.alike hKc, hDc.weaken (fun _ _ _ _ => trivial)⟩⟩ rfl rfl hl.1 rfl (lv_room (Nat.le_of_ble_eq_true rfl)) dX1_init_47 ⟨(Nat.le_of_ble_eq_true rfl), (Nat.le_of_ble_eq_true rfl)⟩) hS (fun q _ h => hFc q h) hFc (fun u t H1 locs ht hvm hw hB hz1 hk1 hS => ?_)
  obtain ⟨cN, q5a1, q5a2, q5a3, q5a4, hP1, hK1, hD1⟩ := hB
  rw [ht] at hP1
  have hK1 := va_K.moved hvm.symm hK1
  obtain ⟨hP, hD⟩ := va_joinQ (X := [(h0, .inr (1, [.ref q1, .ref q2, .ref q3, .ref q4, .null, .null, .null, .null, .int 0, .null, .null, .int 0, .long 0, .long 0, .int 0, .null, .null, .null, .null])), (q2, .inl (cA, 6, .inl fun _ => 0)), (q4, .inl (cA, 4, .inl fun _ => 0)), (q5, .inr (0, [.null, .null, .null, .null, .int 0, .int 0, .int 0]))]) (wr := [(h0, .inr (1, [.ref q1, .ref q2, .ref q3, .ref q4, .null, .null, .null, .null, .int 0, .null, .null, .int 0, .long 0, .long 0, .int 0, .null, .null, .null, .null])), (q2, .inl (cA, 6, .inl fun _ => 0)), (q4, .inl (cA, 4, .inl fun _ => 0))]) (w1 := [(q5, .inr (0, [.ref q5a1, .ref q5a2, .ref q5a3, .ref q5a4, .int 0, .int 0, .int 0])), (q5a1, .inl (cN, 6, .inl fun _ => 0)), (q5a2, .inl (cN, 6, .inl fun _ => 0)), (q5a3, .inl (cN, 6, .inl fun _ => 0)), (q5a4, .inl (cN, 6, .inl fun _ => 0))]) (pl := R2) hP hD [3] [0, 1, 2] rfl rfl (by decide) (by decide) hk1 hFc hP1 hD1
  have hK := hK.app hK1
  obtain rfl : cA = cN := (K_same hK (i := 0) (j := 4) rfl rfl).symm
  have hK := hK.sub (tys' := [(cA, .int), (cB, .byte), (cC, .array .int), (cE, .array .byte)]) [0, 1, 2, 3] rfl
  generalize H1 = H at hP hS ⊢
  obtain ⟨hP, hD⟩ := wswp (X := [(h0, .inr (1, [.ref q1, .ref q2, .ref q3, .ref q4, .null, .null, .null, .null, .int 0, .null, .null, .int 0, .long 0, .long 0, .int 0, .null, .null, .null, .null])), (q2, .inl (cA, 6, .inl fun _ => 0)), (q4, .inl (cA, 4, .inl fun _ => 0))]) (R := [(q5, .inr (0, [.ref q5a1, .ref q5a2, .ref q5a3, .ref q5a4, .int 0, .int 0, .int 0])), (q5a1, .inl (cA, 6, .inl fun _ => 0)), (q5a2, .inl (cA, 6, .inl fun _ => 0)), (q5a3, .inl (cA, 6, .inl fun _ => 0)), (q5a4, .inl (cA, 6, .inl fun _ => 0))]) (Y := R2) hP hD
  obtain ⟨R3, eR3, hP, hD⟩ := wret (X := [(h0, .inr (1, [.ref q1, .ref q2, .ref q3, .ref q4, .null, .null, .null, .null, .int 0, .null, .null, .int 0, .long 0, .long 0, .int 0, .null, .null, .null, .null])), (q2, .inl (cA, 6, .inl fun _ => 0)), (q4, .inl (cA, 4, .inl fun _ => 0))]) (R := R2) (Y := [(q5, .inr (0, [.ref q5a1, .ref q5a2, .ref q5a3, .ref q5a4, .int 0, .int 0, .int 0])), (q5a1, .inl (cA, 6, .inl fun _ => 0)), (q5a2, .inl (cA, 6, .inl fun _ => 0)), (q5a3, .inl (cA, 6, .inl fun _ => 0)), (q5a4, .inl (cA, 6, .inl fun _ => 0))]) hP hD
  refine va_putF (D := D) (ci := 1) (v := .ref q5) (ty := .object "DareFord$Bank") (C := RX1) (T := TX1) (N := 19) hx hb hts inG1 tyX1 tyX1_ok nmX1 hown hK hP hD hS 0 rfl rfl 4 (by decide) (hts _ lk1_4) (fun _ h9 => h9) rfl hin rfl (by decide +kernel) rfl rfl (Nat.le_of_ble_eq_true rfl) dX1_init_50 (fun H locs hP hD hS => ?_)
  have hP : va_P D cls3 ([(h0, .inr (1, [.ref q1, .ref q2, .ref q3, .ref q4, .ref q5, .null, .null, .null, .int 0, .null, .null, .int 0, .long 0, .long 0, .int 0, .null, .null, .null, .null])), (q2, .inl (cA, 6, .inl fun _ => 0)), (q4, .inl (cA, 4, .inl fun _ => 0))] ++ R3) H := hP
  have hD : va_D A ([(h0, .inr (1, [.ref q1, .ref q2, .ref q3, .ref q4, .ref q5, .null, .null, .null, .int 0, .null, .null, .int 0, .long 0, .long 0, .int 0, .null, .null, .null, .null])), (q2, .inl (cA, 6, .inl fun _ => 0)), (q4, .inl (cA, 4, .inl fun _ => 0))] ++ R3) := hD
  refine lv_aload_n hx hb dX1_init_53 rfl (lv_at hl 0 rfl) ?_
  refine va_new (C := RX0) (T := TX0) (N := 7) (ci := 0) (fs := [.null, .null, .null, .null, .int 0, .int 0, .int 0]) hx hb hts inG0 tyX0 tyX0_ok hown (hts _ lk1_c26) (hts _ lk1_in0) (hts _ lk1_ini) hK hP hD hS hA rfl (fun j hj => match j, hj with | 0, _ => rfl | 1, _ => rfl | 2, _ => rfl | 3, _ => rfl | 4, _ => rfl | 5, _ => rfl | 6, _ => rfl) (Nat.le_of_ble_eq_true rfl) (Nat.le_of_ble_eq_true rfl) dX1_init_54 (fun q6 H hP hD hS => ?_)
  obtain ⟨hP, hD⟩ := wswp (X := [(h0, .inr (1, [.ref q1, .ref q2, .ref q3, .ref q4, .ref q5, .null, .null, .null, .int 0, .null, .null, .int 0, .long 0, .long 0, .int 0, .null, .null, .null, .null])), (q2, .inl (cA, 6, .inl fun _ => 0)), (q4, .inl (cA, 4, .inl fun _ => 0))]) (R := R3) (Y := [(q6, .inr (0, [.null, .null, .null, .null, .int 0, .int 0, .int 0]))]) hP hD
  have hP : va_P D cls3 ([(h0, .inr (1, [.ref q1, .ref q2, .ref q3, .ref q4, .ref q5, .null, .null, .null, .int 0, .null, .null, .int 0, .long 0, .long 0, .int 0, .null, .null, .null, .null])), (q2, .inl (cA, 6, .inl fun _ => 0)), (q4, .inl (cA, 4, .inl fun _ => 0)), (q6, .inr (0, [.null, .null, .null, .null, .int 0, .int 0, .int 0]))] ++ R3) H := hP
  have hD : va_D A ([(h0, .inr (1, [.ref q1, .ref q2, .ref q3, .ref q4, .ref q5, .null, .null, .null, .int 0, .null, .null, .int 0, .long 0, .long 0, .int 0, .null, .null, .null, .null])), (q2, .inl (cA, 6, .inl fun _ => 0)), (q4, .inl (cA, 4, .inl fun _ => 0)), (q6, .inr (0, [.null, .null, .null, .null, .int 0, .int 0, .int 0]))] ++ R3) := hD
  refine lv_dup hx hb dX1_init_57 rfl ?_
  have hPc := hP.sub (ws' := [(q6, .inr (0, [.null, .null, .null, .null, .int 0, .int 0, .int 0]))]) [3] rfl
  have hDc := hD.sub (ws' := [(q6, .inr (0, [.null, .null, .null, .null, .int 0, .int 0, .int 0]))]) [3] (by decide) rfl
  have hKc := hK.sub (tys' := []) [] rfl
  have hFc := va_free (wc := [(q6, .inr (0, [.null, .null, .null, .null, .int 0, .int 0, .int 0]))]) hD hS hA [3] rfl
  refine va_callv (va_runIN (As := []) (rest := [.ref q6, .ref h0]) ⟨hx, hb, hml, hown, hts⟩ (K_X0_init l D q6 H.size) ⟨va_cnB 0 hts (gd_cons lk1_cd) rfl rfl rfl (hn0 _ lk1_ml) (hts _ lk1_ini) yo0_init ⟨(Nat.le_of_ble_eq_true rfl), (Nat.le_of_ble_eq_true rfl)⟩, rfl, hts _ lk1_im⟩ ⟨fun a U g mk q => by obtain ⟨q0, q1, qP, qK, qD⟩ := q; exact ⟨q0, q1, qP, va_K.moved (u := U) (U := U.calling g mk a) (Vm.Alike.refl U.vm) qK, qD⟩, fun U hU hW => ⟨rfl, by rw [hU], by rw [hU]; exact hPc, va_K.moved hW.alike hKc, hDc.weaken (fun _ _ _ _ => trivial)⟩⟩ rfl rfl hl.1 rfl (lv_room (Nat.le_of_ble_eq_true rfl)) dX1_init_58 ⟨(Nat.le_of_ble_eq_true rfl), (Nat.le_of_ble_eq_true rfl)⟩) hS (fun q _ h => hFc q h) hFc (fun u t H1 locs ht hvm hw hB hz1 hk1 hS => ?_)
  obtain ⟨cN, q6a1, q6a2, q6a3, q6a4, hP1, hK1, hD1⟩ := hB
  rw [ht] at hP1
  have hK1 := va_K.moved hvm.symm hK1
  obtain ⟨hP, hD⟩ := va_joinQ (X := [(h0, .inr (1, [.ref q1, .ref q2, .ref q3, .ref q4, .ref q5, .null, .null, .null, .int 0, .null, .null, .int 0, .long 0, .long 0, .int 0, .null, .null, .null, .null])), (q2, .inl (cA, 6, .inl fun _ => 0)), (q4, .inl (cA, 4, .inl fun _ => 0)), (q6, .inr (0, [.null, .null, .null, .null, .int 0, .int 0, .int 0]))]) (wr := [(h0, .inr (1, [.ref q1, .ref q2, .ref q3, .ref q4, .ref q5, .null, .null, .null, .int 0, .null, .null, .int 0, .long 0, .long 0, .int 0, .null, .null, .null, .null])), (q2, .inl (cA, 6, .inl fun _ => 0)), (q4, .inl (cA, 4, .inl fun _ => 0))]) (w1 := [(q6, .inr (0, [.ref q6a1, .ref q6a2, .ref q6a3, .ref q6a4, .int 0, .int 0, .int 0])), (q6a1, .inl (cN, 6, .inl fun _ => 0)), (q6a2, .inl (cN, 6, .inl fun _ => 0)), (q6a3, .inl (cN, 6, .inl fun _ => 0)), (q6a4, .inl (cN, 6, .inl fun _ => 0))]) (pl := R3) hP hD [3] [0, 1, 2] rfl rfl (by decide) (by decide) hk1 hFc hP1 hD1
  have hK := hK.app hK1
  obtain rfl : cA = cN := (K_same hK (i := 0) (j := 4) rfl rfl).symm
  have hK := hK.sub (tys' := [(cA, .int), (cB, .byte), (cC, .array .int), (cE, .array .byte)]) [0, 1, 2, 3] rfl
  generalize H1 = H at hP hS ⊢
  obtain ⟨hP, hD⟩ := wswp (X := [(h0, .inr (1, [.ref q1, .ref q2, .ref q3, .ref q4, .ref q5, .null, .null, .null, .int 0, .null, .null, .int 0, .long 0, .long 0, .int 0, .null, .null, .null, .null])), (q2, .inl (cA, 6, .inl fun _ => 0)), (q4, .inl (cA, 4, .inl fun _ => 0))]) (R := [(q6, .inr (0, [.ref q6a1, .ref q6a2, .ref q6a3, .ref q6a4, .int 0, .int 0, .int 0])), (q6a1, .inl (cA, 6, .inl fun _ => 0)), (q6a2, .inl (cA, 6, .inl fun _ => 0)), (q6a3, .inl (cA, 6, .inl fun _ => 0)), (q6a4, .inl (cA, 6, .inl fun _ => 0))]) (Y := R3) hP hD
  obtain ⟨R4, eR4, hP, hD⟩ := wret (X := [(h0, .inr (1, [.ref q1, .ref q2, .ref q3, .ref q4, .ref q5, .null, .null, .null, .int 0, .null, .null, .int 0, .long 0, .long 0, .int 0, .null, .null, .null, .null])), (q2, .inl (cA, 6, .inl fun _ => 0)), (q4, .inl (cA, 4, .inl fun _ => 0))]) (R := R3) (Y := [(q6, .inr (0, [.ref q6a1, .ref q6a2, .ref q6a3, .ref q6a4, .int 0, .int 0, .int 0])), (q6a1, .inl (cA, 6, .inl fun _ => 0)), (q6a2, .inl (cA, 6, .inl fun _ => 0)), (q6a3, .inl (cA, 6, .inl fun _ => 0)), (q6a4, .inl (cA, 6, .inl fun _ => 0))]) hP hD
  refine va_putF (D := D) (ci := 1) (v := .ref q6) (ty := .object "DareFord$Bank") (C := RX1) (T := TX1) (N := 19) hx hb hts inG1 tyX1 tyX1_ok nmX1 hown hK hP hD hS 0 rfl rfl 5 (by decide) (hts _ lk1_5) (fun _ h9 => h9) rfl hin rfl (by decide +kernel) rfl rfl (Nat.le_of_ble_eq_true rfl) dX1_init_61 (fun H locs hP hD hS => ?_)
  have hP : va_P D cls3 ([(h0, .inr (1, [.ref q1, .ref q2, .ref q3, .ref q4, .ref q5, .ref q6, .null, .null, .int 0, .null, .null, .int 0, .long 0, .long 0, .int 0, .null, .null, .null, .null])), (q2, .inl (cA, 6, .inl fun _ => 0)), (q4, .inl (cA, 4, .inl fun _ => 0))] ++ R4) H := hP
  have hD : va_D A ([(h0, .inr (1, [.ref q1, .ref q2, .ref q3, .ref q4, .ref q5, .ref q6, .null, .null, .int 0, .null, .null, .int 0, .long 0, .long 0, .int 0, .null, .null, .null, .null])), (q2, .inl (cA, 6, .inl fun _ => 0)), (q4, .inl (cA, 4, .inl fun _ => 0))] ++ R4) := hD
  refine lv_aload_n hx hb dX1_init_64 rfl (lv_at hl 0 rfl) ?_
  refine va_new (C := RX0) (T := TX0) (N := 7) (ci := 0) (fs := [.null, .null, .null, .null, .int 0, .int 0, .int 0]) hx hb hts inG0 tyX0 tyX0_ok hown (hts _ lk1_c26) (hts _ lk1_in0) (hts _ lk1_ini) hK hP hD hS hA rfl (fun j hj => match j, hj with | 0, _ => rfl | 1, _ => rfl | 2, _ => rfl | 3, _ => rfl | 4, _ => rfl | 5, _ => rfl | 6, _ => rfl) (Nat.le_of_ble_eq_true rfl) (Nat.le_of_ble_eq_true rfl) dX1_init_65 (fun q7 H hP hD hS => ?_)
  obtain ⟨hP, hD⟩ := wswp (X := [(h0, .inr (1, [.ref q1, .ref q2, .ref q3, .ref q4, .ref q5, .ref q6, .null, .null, .int 0, .null, .null, .int 0, .long 0, .long 0, .int 0, .null, .null, .null, .null])), (q2, .inl (cA, 6, .inl fun _ => 0)), (q4, .inl (cA, 4, .inl fun _ => 0))]) (R := R4) (Y := [(q7, .inr (0, [.null, .null, .null, .null, .int 0, .int 0, .int 0]))]) hP hD
  have hP : va_P D cls3 ([(h0, .inr (1, [.ref q1, .ref q2, .ref q3, .ref q4, .ref q5, .ref q6, .null, .null, .int 0, .null, .null, .int 0, .long 0, .long 0, .int 0, .null, .null, .null, .null])), (q2, .inl (cA, 6, .inl fun _ => 0)), (q4, .inl (cA, 4, .inl fun _ => 0)), (q7, .inr (0, [.null, .null, .null, .null, .int 0, .int 0, .int 0]))] ++ R4) H := hP
  have hD : va_D A ([(h0, .inr (1, [.ref q1, .ref q2, .ref q3, .ref q4, .ref q5, .ref q6, .null, .null, .int 0, .null, .null, .int 0, .long 0, .long 0, .int 0, .null, .null, .null, .null])), (q2, .inl (cA, 6, .inl fun _ => 0)), (q4, .inl (cA, 4, .inl fun _ => 0)), (q7, .inr (0, [.null, .null, .null, .null, .int 0, .int 0, .int 0]))] ++ R4) := hD
  refine lv_dup hx hb dX1_init_68 rfl ?_
  have hPc := hP.sub (ws' := [(q7, .inr (0, [.null, .null, .null, .null, .int 0, .int 0, .int 0]))]) [3] rfl
  have hDc := hD.sub (ws' := [(q7, .inr (0, [.null, .null, .null, .null, .int 0, .int 0, .int 0]))]) [3] (by decide) rfl
  have hKc := hK.sub (tys' := []) [] rfl
  have hFc := va_free (wc := [(q7, .inr (0, [.null, .null, .null, .null, .int 0, .int 0, .int 0]))]) hD hS hA [3] rfl
  refine va_callv (va_runIN (As := []) (rest := [.ref q7, .ref h0]) ⟨hx, hb, hml, hown, hts⟩ (K_X0_init l D q7 H.size) ⟨va_cnB 0 hts (gd_cons lk1_cd) rfl rfl rfl (hn0 _ lk1_ml) (hts _ lk1_ini) yo0_init ⟨(Nat.le_of_ble_eq_true rfl), (Nat.le_of_ble_eq_true rfl)⟩, rfl, hts _ lk1_im⟩ ⟨fun a U g mk q => by obtain ⟨q0, q1, qP, qK, qD⟩ := q; exact ⟨q0, q1, qP, va_K.moved (u := U) (U := U.calling g mk a) (Vm.Alike.refl U.vm) qK, qD⟩, fun U hU hW => ⟨rfl, by rw [hU], by rw [hU]; exact hPc, va_K.moved hW.alike hKc, hDc.weaken (fun _ _ _ _ => trivial)⟩⟩ rfl rfl hl.1 rfl (lv_room (Nat.le_of_ble_eq_true rfl)) dX1_init_69 ⟨(Nat.le_of_ble_eq_true rfl), (Nat.le_of_ble_eq_true rfl)⟩) hS (fun q _ h => hFc q h) hFc (fun u t H1 locs ht hvm hw hB hz1 hk1 hS => ?_)
  obtain ⟨cN, q7a1, q7a2, q7a3, q7a4, hP1, hK1, hD1⟩ := hB
  rw [ht] at hP1
  have hK1 := va_K.moved hvm.symm hK1
  obtain ⟨hP, hD⟩ := va_joinQ (X := [(h0, .inr (1, [.ref q1, .ref q2, .ref q3, .ref q4, .ref q5, .ref q6, .null, .null, .int 0, .null, .null, .int 0, .long 0, .long 0, .int 0, .null, .null, .null, .null])), (q2, .inl (cA, 6, .inl fun _ => 0)), (q4, .inl (cA, 4, .inl fun _ => 0)), (q7, .inr (0, [.null, .null, .null, .null, .int 0, .int 0, .int 0]))]) (wr := [(h0, .inr (1, [.ref q1, .ref q2, .ref q3, .ref q4, .ref q5, .ref q6, .null, .null, .int 0, .null, .null, .int 0, .long 0, .long 0, .int 0, .null, .null, .null, .null])), (q2, .inl (cA, 6, .inl fun _ => 0)), (q4, .inl (cA, 4, .inl fun _ => 0))]) (w1 := [(q7, .inr (0, [.ref q7a1, .ref q7a2, .ref q7a3, .ref q7a4, .int 0, .int 0, .int 0])), (q7a1, .inl (cN, 6, .inl fun _ => 0)), (q7a2, .inl (cN, 6, .inl fun _ => 0)), (q7a3, .inl (cN, 6, .inl fun _ => 0)), (q7a4, .inl (cN, 6, .inl fun _ => 0))]) (pl := R4) hP hD [3] [0, 1, 2] rfl rfl (by decide) (by decide) hk1 hFc hP1 hD1
  have hK := hK.app hK1
  obtain rfl : cA = cN := (K_same hK (i := 0) (j := 4) rfl rfl).symm
  have hK := hK.sub (tys' := [(cA, .int), (cB, .byte), (cC, .array .int), (cE, .array .byte)]) [0, 1, 2, 3] rfl
  generalize H1 = H at hP hS ⊢
  obtain ⟨hP, hD⟩ := wswp (X := [(h0, .inr (1, [.ref q1, .ref q2, .ref q3, .ref q4, .ref q5, .ref q6, .null, .null, .int 0, .null, .null, .int 0, .long 0, .long 0, .int 0, .null, .null, .null, .null])), (q2, .inl (cA, 6, .inl fun _ => 0)), (q4, .inl (cA, 4, .inl fun _ => 0))]) (R := [(q7, .inr (0, [.ref q7a1, .ref q7a2, .ref q7a3, .ref q7a4, .int 0, .int 0, .int 0])), (q7a1, .inl (cA, 6, .inl fun _ => 0)), (q7a2, .inl (cA, 6, .inl fun _ => 0)), (q7a3, .inl (cA, 6, .inl fun _ => 0)), (q7a4, .inl (cA, 6, .inl fun _ => 0))]) (Y := R4) hP hD
  obtain ⟨R5, eR5, hP, hD⟩ := wret (X := [(h0, .inr (1, [.ref q1, .ref q2, .ref q3, .ref q4, .ref q5, .ref q6, .null, .null, .int 0, .null, .null, .int 0, .long 0, .long 0, .int 0, .null, .null, .null, .null])), (q2, .inl (cA, 6, .inl fun _ => 0)), (q4, .inl (cA, 4, .inl fun _ => 0))]) (R := R4) (Y := [(q7, .inr (0, [.ref q7a1, .ref q7a2, .ref q7a3, .ref q7a4, .int 0, .int 0, .int 0])), (q7a1, .inl (cA, 6, .inl fun _ => 0)), (q7a2, .inl (cA, 6, .inl fun _ => 0)), (q7a3, .inl (cA, 6, .inl fun _ => 0)), (q7a4, .inl (cA, 6, .inl fun _ => 0))]) hP hD
  refine va_putF (D := D) (ci := 1) (v := .ref q7) (ty := .object "DareFord$Bank") (C := RX1) (T := TX1) (N := 19) hx hb hts inG1 tyX1 tyX1_ok nmX1 hown hK hP hD hS 0 rfl rfl 6 (by decide) (hts _ lk1_6) (fun _ h9 => h9) rfl hin rfl (by decide +kernel) rfl rfl (Nat.le_of_ble_eq_true rfl) dX1_init_72 (fun H locs hP hD hS => ?_)
  have hP : va_P D cls3 ([(h0, .inr (1, [.ref q1, .ref q2, .ref q3, .ref q4, .ref q5, .ref q6, .ref q7, .null, .int 0, .null, .null, .int 0, .long 0, .long 0, .int 0, .null, .null, .null, .null])), (q2, .inl (cA, 6, .inl fun _ => 0)), (q4, .inl (cA, 4, .inl fun _ => 0))] ++ R5) H := hP
  have hD : va_D A ([(h0, .inr (1, [.ref q1, .ref q2, .ref q3, .ref q4, .ref q5, .ref q6, .ref q7, .null, .int 0, .null, .null, .int 0, .long 0, .long 0, .int 0, .null, .null, .null, .null])), (q2, .inl (cA, 6, .inl fun _ => 0)), (q4, .inl (cA, 4, .inl fun _ => 0))] ++ R5) := hD
  refine lv_aload_n hx hb dX1_init_75 rfl (lv_at hl 0 rfl) ?_
  refine lv_bipush (v := 40) hx hb dX1_init_76 (by decide) ?_
  refine va_newa (atype := .int) hx hb (hts _ gd_aI) (ty := .int) rfl hK hP hD hS hA (N' := 40) (a0 := (40, .inl fun _ => 0)) (fun _ => rfl) (by decide) (by decide) (by decide) (Nat.le_of_ble_eq_true rfl) (Nat.le_of_ble_eq_true rfl) dX1_init_78 (fun q8 cN H hK hP hD hS => ?_)
  obtain rfl : cA = cN := (K_same hK (i := 0) (j := 4) rfl rfl).symm
  have hK := hK.sub (tys' := [(cA, .int), (cB, .byte), (cC, .array .int), (cE, .array .byte)]) [0, 1, 2, 3] rfl
  obtain ⟨R6, eR6, hP, hD⟩ := wret (X := [(h0, .inr (1, [.ref q1, .ref q2, .ref q3, .ref q4, .ref q5, .ref q6, .ref q7, .null, .int 0, .null, .null, .int 0, .long 0, .long 0, .int 0, .null, .null, .null, .null])), (q2, .inl (cA, 6, .inl fun _ => 0)), (q4, .inl (cA, 4, .inl fun _ => 0))]) (R := R5) (Y := [(q8, .inl (cA, 40, .inl fun _ => 0))]) hP hD
  refine va_putF (D := D) (ci := 1) (v := .ref q8) (ty := .array .int) (C := RX1) (T := TX1) (N := 19) hx hb hts inG1 tyX1 tyX1_ok nmX1 hown hK hP hD hS 0 rfl rfl 7 (by decide) (hts _ lk1_7) (fun _ h9 => h9) rfl hin rfl (by decide +kernel) rfl rfl (Nat.le_of_ble_eq_true rfl) dX1_init_80 (fun H locs hP hD hS => ?_)
  have hP : va_P D cls3 ([(h0, .inr (1, [.ref q1, .ref q2, .ref q3, .ref q4, .ref q5, .ref q6, .ref q7, .ref q8, .int 0, .null, .null, .int 0, .long 0, .long 0, .int 0, .null, .null, .null, .null])), (q2, .inl (cA, 6, .inl fun _ => 0)), (q4, .inl (cA, 4, .inl fun _ => 0))] ++ R6) H := hP
  have hD : va_D A ([(h0, .inr (1, [.ref q1, .ref q2, .ref q3, .ref q4, .ref q5, .ref q6, .ref q7, .ref q8, .int 0, .null, .null, .int 0, .long 0, .long 0, .int 0, .null, .null, .null, .null])), (q2, .inl (cA, 6, .inl fun _ => 0)), (q4, .inl (cA, 4, .inl fun _ => 0))] ++ R6) := hD
  refine lv_aload_n hx hb dX1_init_83 rfl (lv_at hl 0 rfl) ?_
  refine lv_iconst (v := 0) hx hb dX1_init_84 (by decide) ?_
  refine va_put (D := D) (ci := 1) (v := .int 0) (ty := .int) (C := RX1) (T := TX1) (N := 19) hx hb hts inG1 tyX1 tyX1_ok nmX1 hown hK hP hD hS 0 rfl rfl 8 (by decide) (hts _ lk1_8) (fun _ h9 => h9) rfl (by decide +kernel) rfl rfl (Nat.le_of_ble_eq_true rfl) dX1_init_85 (fun H locs hP hD hS => ?_)
  have hP : va_P D cls3 ([(h0, .inr (1, [.ref q1, .ref q2, .ref q3, .ref q4, .ref q5, .ref q6, .ref q7, .ref q8, .int 0, .null, .null, .int 0, .long 0, .long 0, .int 0, .null, .null, .null, .null])), (q2, .inl (cA, 6, .inl fun _ => 0)), (q4, .inl (cA, 4, .inl fun _ => 0))] ++ R6) H := hP
  have hD : va_D A ([(h0, .inr (1, [.ref q1, .ref q2, .ref q3, .ref q4, .ref q5, .ref q6, .ref q7, .ref q8, .int 0, .null, .null, .int 0, .long 0, .long 0, .int 0, .null, .null, .null, .null])), (q2, .inl (cA, 6, .inl fun _ => 0)), (q4, .inl (cA, 4, .inl fun _ => 0))] ++ R6) := hD
  refine lv_aload_n hx hb dX1_init_88 rfl (lv_at hl 0 rfl) ?_
  refine lv_iconst (v := 3) hx hb dX1_init_89 (by decide) ?_
  refine lv_bipush (v := 40) hx hb dX1_init_90 (by decide) ?_
  refine mnaR (ty := .int) (cy := cA) hx hb hown (hts _ lk1_c9) hAI (hts _ gd_aI) (show s.vm.findClass (FieldType.array .int).toString = some cA from (hK.2 0 _ rfl).2) hK hP hD hS hA (N' := 3) (K' := 40) (z := (40, .inl fun _ => 0)) (by decide) (by decide) (by decide) (by decide) (by decide) (by decide) (by decide) rfl rfl (Nat.le_of_ble_eq_true rfl) (Nat.le_of_ble_eq_true rfl) (fun c9 => arrV_new c9 40 _) dX1_init_92 (fun q9 r3 cN H hK hP hD hS => ?_)
  obtain rfl : cC = cN := (K_sameA hK (i := 2) (j := 4) rfl rfl).symm
  have hK := hK.sub (tys' := [(cA, .int), (cB, .byte), (cC, .array .int), (cE, .array .byte)]) [0, 1, 2, 3] rfl
  obtain ⟨R7, eR7, hP, hD⟩ := wret (X := [(h0, .inr (1, [.ref q1, .ref q2, .ref q3, .ref q4, .ref q5, .ref q6, .ref q7, .ref q8, .int 0, .null, .null, .int 0, .long 0, .long 0, .int 0, .null, .null, .null, .null])), (q2, .inl (cA, 6, .inl fun _ => 0)), (q4, .inl (cA, 4, .inl fun _ => 0))]) (R := R6) (Y := ([(q9, .inl (cC, 3, .inr (.inr (.inr (.inr (fun i => if i < 3 then some (r3 i) else none))))))] ++ (List.range 3).map (fun i => (r3 i, .inl (cA, 40, .inl fun _ => 0))))) hP hD
  refine va_putF (D := D) (ci := 1) (v := .ref q9) (ty := .array (.array .int)) (C := RX1) (T := TX1) (N := 19) hx hb hts inG1 tyX1 tyX1_ok nmX1 hown hK hP hD hS 0 rfl rfl 9 (by decide) (hts _ lk1_9) (fun _ h9 => h9) rfl hin rfl (by decide +kernel) rfl rfl (Nat.le_of_ble_eq_true rfl) dX1_init_96 (fun H locs hP hD hS => ?_)
  have hP : va_P D cls3 ([(h0, .inr (1, [.ref q1, .ref q2, .ref q3, .ref q4, .ref q5, .ref q6, .ref q7, .ref q8, .int 0, .ref q9, .null, .int 0, .long 0, .long 0, .int 0, .null, .null, .null, .null])), (q2, .inl (cA, 6, .inl fun _ => 0)), (q4, .inl (cA, 4, .inl fun _ => 0))] ++ R7) H := hP
  have hD : va_D A ([(h0, .inr (1, [.ref q1, .ref q2, .ref q3, .ref q4, .ref q5, .ref q6, .ref q7, .ref q8, .int 0, .ref q9, .null, .int 0, .long 0, .long 0, .int 0, .null, .null, .null, .null])), (q2, .inl (cA, 6, .inl fun _ => 0)), (q4, .inl (cA, 4, .inl fun _ => 0))] ++ R7) := hD
  refine lv_aload_n hx hb dX1_init_99 rfl (lv_at hl 0 rfl) ?_
  refine lv_iconst (v := 3) hx hb dX1_init_100 (by decide) ?_
  refine va_newa (atype := .int) hx hb (hts _ gd_aI) (ty := .int) rfl hK hP hD hS hA (N' := 3) (a0 := (3, .inl fun _ => 0)) (fun _ => rfl) (by decide) (by decide) (by decide) (Nat.le_of_ble_eq_true rfl) (Nat.le_of_ble_eq_true rfl) dX1_init_101 (fun q10 cN H hK hP hD hS => ?_)
  obtain rfl : cA = cN := (K_same hK (i := 0) (j := 4) rfl rfl).symm
  have hK := hK.sub (tys' := [(cA, .int), (cB, .byte), (cC, .array .int), (cE, .array .byte)]) [0, 1, 2, 3] rfl
  obtain ⟨hP, hD⟩ := wswp (X := [(h0, .inr (1, [.ref q1, .ref q2, .ref q3, .ref q4, .ref q5, .ref q6, .ref q7, .ref q8, .int 0, .ref q9, .null, .int 0, .long 0, .long 0, .int 0, .null, .null, .null, .null])), (q2, .inl (cA, 6, .inl fun _ => 0)), (q4, .inl (cA, 4, .inl fun _ => 0))]) (R := R7) (Y := [(q10, .inl (cA, 3, .inl fun _ => 0))]) hP hD
  have hP : va_P D cls3 ([(h0, .inr (1, [.ref q1, .ref q2, .ref q3, .ref q4, .ref q5, .ref q6, .ref q7, .ref q8, .int 0, .ref q9, .null, .int 0, .long 0, .long 0, .int 0, .null, .null, .null, .null])), (q2, .inl (cA, 6, .inl fun _ => 0)), (q4, .inl (cA, 4, .inl fun _ => 0)), (q10, .inl (cA, 3, .inl fun _ => 0))] ++ R7) H := hP
  have hD : va_D A ([(h0, .inr (1, [.ref q1, .ref q2, .ref q3, .ref q4, .ref q5, .ref q6, .ref q7, .ref q8, .int 0, .ref q9, .null, .int 0, .long 0, .long 0, .int 0, .null, .null, .null, .null])), (q2, .inl (cA, 6, .inl fun _ => 0)), (q4, .inl (cA, 4, .inl fun _ => 0)), (q10, .inl (cA, 3, .inl fun _ => 0))] ++ R7) := hD
  refine va_putF (D := D) (ci := 1) (v := .ref q10) (ty := .array .int) (C := RX1) (T := TX1) (N := 19) hx hb hts inG1 tyX1 tyX1_ok nmX1 hown hK hP hD hS 0 rfl rfl 10 (by decide) (hts _ lk1_10) (fun _ h9 => h9) rfl hin rfl (by decide +kernel) rfl rfl (Nat.le_of_ble_eq_true rfl) dX1_init_103 (fun H locs hP hD hS => ?_)
  have hP : va_P D cls3 ([(h0, .inr (1, [.ref q1, .ref q2, .ref q3, .ref q4, .ref q5, .ref q6, .ref q7, .ref q8, .int 0, .ref q9, .ref q10, .int 0, .long 0, .long 0, .int 0, .null, .null, .null, .null])), (q2, .inl (cA, 6, .inl fun _ => 0)), (q4, .inl (cA, 4, .inl fun _ => 0)), (q10, .inl (cA, 3, .inl fun _ => 0))] ++ R7) H := hP
  have hD : va_D A ([(h0, .inr (1, [.ref q1, .ref q2, .ref q3, .ref q4, .ref q5, .ref q6, .ref q7, .ref q8, .int 0, .ref q9, .ref q10, .int 0, .long 0, .long 0, .int 0, .null, .null, .null, .null])), (q2, .inl (cA, 6, .inl fun _ => 0)), (q4, .inl (cA, 4, .inl fun _ => 0)), (q10, .inl (cA, 3, .inl fun _ => 0))] ++ R7) := hD
  refine lv_aload_n hx hb dX1_init_106 rfl (lv_at hl 0 rfl) ?_
  refine lv_iconst (v := 0) hx hb dX1_init_107 (by decide) ?_
  refine va_put (D := D) (ci := 1) (v := .int 0) (ty := .int) (C := RX1) (T := TX1) (N := 19) hx hb hts inG1 tyX1 tyX1_ok nmX1 hown hK hP hD hS 0 rfl rfl 11 (by decide) (hts _ lk1_11) (fun _ h9 => h9) rfl (by decide +kernel) rfl rfl (Nat.le_of_ble_eq_true rfl) dX1_init_108 (fun H locs hP hD hS => ?_)
  have hP : va_P D cls3 ([(h0, .inr (1, [.ref q1, .ref q2, .ref q3, .ref q4, .ref q5, .ref q6, .ref q7, .ref q8, .int 0, .ref q9, .ref q10, .int 0, .long 0, .long 0, .int 0, .null, .null, .null, .null])), (q2, .inl (cA, 6, .inl fun _ => 0)), (q4, .inl (cA, 4, .inl fun _ => 0)), (q10, .inl (cA, 3, .inl fun _ => 0))] ++ R7) H := hP
  have hD : va_D A ([(h0, .inr (1, [.ref q1, .ref q2, .ref q3, .ref q4, .ref q5, .ref q6, .ref q7, .ref q8, .int 0, .ref q9, .ref q10, .int 0, .long 0, .long 0, .int 0, .null, .null, .null, .null])), (q2, .inl (cA, 6, .inl fun _ => 0)), (q4, .inl (cA, 4, .inl fun _ => 0)), (q10, .inl (cA, 3, .inl fun _ => 0))] ++ R7) := hD
  refine lv_aload_n hx hb dX1_init_111 rfl (lv_at hl 0 rfl) ?_
  refine lv_lconst (v := 0) hx hb dX1_init_112 (by decide) ?_
  refine va_put (D := D) (ci := 1) (v := .long 0) (ty := .long) (C := RX1) (T := TX1) (N := 19) hx hb hts inG1 tyX1 tyX1_ok nmX1 hown hK hP hD hS 0 rfl rfl 12 (by decide) (hts _ lk1_12) (fun _ h9 => h9) rfl (by decide +kernel) rfl rfl (Nat.le_of_ble_eq_true rfl) dX1_init_113 (fun H locs hP hD hS => ?_)
  have hP : va_P D cls3 ([(h0, .inr (1, [.ref q1, .ref q2, .ref q3, .ref q4, .ref q5, .ref q6, .ref q7, .ref q8, .int 0, .ref q9, .ref q10, .int 0, .long 0, .long 0, .int 0, .null, .null, .null, .null])), (q2, .inl (cA, 6, .inl fun _ => 0)), (q4, .inl (cA, 4, .inl fun _ => 0)), (q10, .inl (cA, 3, .inl fun _ => 0))] ++ R7) H := hP
  have hD : va_D A ([(h0, .inr (1, [.ref q1, .ref q2, .ref q3, .ref q4, .ref q5, .ref q6, .ref q7, .ref q8, .int 0, .ref q9, .ref q10, .int 0, .long 0, .long 0, .int 0, .null, .null, .null, .null])), (q2, .inl (cA, 6, .inl fun _ => 0)), (q4, .inl (cA, 4, .inl fun _ => 0)), (q10, .inl (cA, 3, .inl fun _ => 0))] ++ R7) := hD
  refine lv_aload_n hx hb dX1_init_116 rfl (lv_at hl 0 rfl) ?_
  refine lv_lconst (v := 1) hx hb dX1_init_117 (by decide) ?_
  refine va_put (D := D) (ci := 1) (v := .long 1) (ty := .long) (C := RX1) (T := TX1) (N := 19) hx hb hts inG1 tyX1 tyX1_ok nmX1 hown hK hP hD hS 0 rfl rfl 13 (by decide) (hts _ lk1_13) (fun _ h9 => h9) rfl (by decide +kernel) rfl rfl (Nat.le_of_ble_eq_true rfl) dX1_init_118 (fun H locs hP hD hS => ?_)
  have hP : va_P D cls3 ([(h0, .inr (1, [.ref q1, .ref q2, .ref q3, .ref q4, .ref q5, .ref q6, .ref q7, .ref q8, .int 0, .ref q9, .ref q10, .int 0, .long 0, .long 1, .int 0, .null, .null, .null, .null])), (q2, .inl (cA, 6, .inl fun _ => 0)), (q4, .inl (cA, 4, .inl fun _ => 0)), (q10, .inl (cA, 3, .inl fun _ => 0))] ++ R7) H := hP
  have hD : va_D A ([(h0, .inr (1, [.ref q1, .ref q2, .ref q3, .ref q4, .ref q5, .ref q6, .ref q7, .ref q8, .int 0, .ref q9, .ref q10, .int 0, .long 0, .long 1, .int 0, .null, .null, .null, .null])), (q2, .inl (cA, 6, .inl fun _ => 0)), (q4, .inl (cA, 4, .inl fun _ => 0)), (q10, .inl (cA, 3, .inl fun _ => 0))] ++ R7) := hD
  refine lv_aload_n hx hb dX1_init_121 rfl (lv_at hl 0 rfl) ?_
  refine lv_iconst (v := 0) hx hb dX1_init_122 (by decide) ?_
  refine va_put (D := D) (ci := 1) (v := .int 0) (ty := .int) (C := RX1) (T := TX1) (N := 19) hx hb hts inG1 tyX1 tyX1_ok nmX1 hown hK hP hD hS 0 rfl rfl 14 (by decide) (hts _ lk1_14) (fun _ h9 => h9) rfl (by decide +kernel) rfl rfl (Nat.le_of_ble_eq_true rfl) dX1_init_123 (fun H locs hP hD hS => ?_)
  have hP : va_P D cls3 ([(h0, .inr (1, [.ref q1, .ref q2, .ref q3, .ref q4, .ref q5, .ref q6, .ref q7, .ref q8, .int 0, .ref q9, .ref q10, .int 0, .long 0, .long 1, .int 0, .null, .null, .null, .null])), (q2, .inl (cA, 6, .inl fun _ => 0)), (q4, .inl (cA, 4, .inl fun _ => 0)), (q10, .inl (cA, 3, .inl fun _ => 0))] ++ R7) H := hP
  have hD : va_D A ([(h0, .inr (1, [.ref q1, .ref q2, .ref q3, .ref q4, .ref q5, .ref q6, .ref q7, .ref q8, .int 0, .ref q9, .ref q10, .int 0, .long 0, .long 1, .int 0, .null, .null, .null, .null])), (q2, .inl (cA, 6, .inl fun _ => 0)), (q4, .inl (cA, 4, .inl fun _ => 0)), (q10, .inl (cA, 3, .inl fun _ => 0))] ++ R7) := hD
  refine lv_aload_n hx hb dX1_init_126 rfl (lv_at hl 0 rfl) ?_
  refine lv_bipush (v := 6) hx hb dX1_init_127 (by decide) ?_
  refine va_newa (atype := .int) hx hb (hts _ gd_aI) (ty := .int) rfl hK hP hD hS hA (N' := 6) (a0 := (6, .inl fun _ => 0)) (fun _ => rfl) (by decide) (by decide) (by decide) (Nat.le_of_ble_eq_true rfl) (Nat.le_of_ble_eq_true rfl) dX1_init_129 (fun q11 cN H hK hP hD hS => ?_)
  obtain rfl : cA = cN := (K_same hK (i := 0) (j := 4) rfl rfl).symm
  have hK := hK.sub (tys' := [(cA, .int), (cB, .byte), (cC, .array .int), (cE, .array .byte)]) [0, 1, 2, 3] rfl
  obtain ⟨R8, eR8, hP, hD⟩ := wret (X := [(h0, .inr (1, [.ref q1, .ref q2, .ref q3, .ref q4, .ref q5, .ref q6, .ref q7, .ref q8, .int 0, .ref q9, .ref q10, .int 0, .long 0, .long 1, .int 0, .null, .null, .null, .null])), (q2, .inl (cA, 6, .inl fun _ => 0)), (q4, .inl (cA, 4, .inl fun _ => 0)), (q10, .inl (cA, 3, .inl fun _ => 0))]) (R := R7) (Y := [(q11, .inl (cA, 6, .inl fun _ => 0))]) hP hD
  refine va_putF (D := D) (ci := 1) (v := .ref q11) (ty := .array .int) (C := RX1) (T := TX1) (N := 19) hx hb hts inG1 tyX1 tyX1_ok nmX1 hown hK hP hD hS 0 rfl rfl 15 (by decide) (hts _ lk1_15) (fun _ h9 => h9) rfl hin rfl (by decide +kernel) rfl rfl (Nat.le_of_ble_eq_true rfl) dX1_init_131 (fun H locs hP hD hS => ?_)
  have hP : va_P D cls3 ([(h0, .inr (1, [.ref q1, .ref q2, .ref q3, .ref q4, .ref q5, .ref q6, .ref q7, .ref q8, .int 0, .ref q9, .ref q10, .int 0, .long 0, .long 1, .int 0, .ref q11, .null, .null, .null])), (q2, .inl (cA, 6, .inl fun _ => 0)), (q4, .inl (cA, 4, .inl fun _ => 0)), (q10, .inl (cA, 3, .inl fun _ => 0))] ++ R8) H := hP
  have hD : va_D A ([(h0, .inr (1, [.ref q1, .ref q2, .ref q3, .ref q4, .ref q5, .ref q6, .ref q7, .ref q8, .int 0, .ref q9, .ref q10, .int 0, .long 0, .long 1, .int 0, .ref q11, .null, .null, .null])), (q2, .inl (cA, 6, .inl fun _ => 0)), (q4, .inl (cA, 4, .inl fun _ => 0)), (q10, .inl (cA, 3, .inl fun _ => 0))] ++ R8) := hD
  refine lv_aload_n hx hb dX1_init_134 rfl (lv_at hl 0 rfl) ?_
  refine lv_bipush (v := 6) hx hb dX1_init_135 (by decide) ?_
  refine va_newa (atype := .int) hx hb (hts _ gd_aI) (ty := .int) rfl hK hP hD hS hA (N' := 6) (a0 := (6, .inl fun _ => 0)) (fun _ => rfl) (by decide) (by decide) (by decide) (Nat.le_of_ble_eq_true rfl) (Nat.le_of_ble_eq_true rfl) dX1_init_137 (fun q12 cN H hK hP hD hS => ?_)
  obtain rfl : cA = cN := (K_same hK (i := 0) (j := 4) rfl rfl).symm
  have hK := hK.sub (tys' := [(cA, .int), (cB, .byte), (cC, .array .int), (cE, .array .byte)]) [0, 1, 2, 3] rfl
  obtain ⟨R9, eR9, hP, hD⟩ := wret (X := [(h0, .inr (1, [.ref q1, .ref q2, .ref q3, .ref q4, .ref q5, .ref q6, .ref q7, .ref q8, .int 0, .ref q9, .ref q10, .int 0, .long 0, .long 1, .int 0, .ref q11, .null, .null, .null])), (q2, .inl (cA, 6, .inl fun _ => 0)), (q4, .inl (cA, 4, .inl fun _ => 0)), (q10, .inl (cA, 3, .inl fun _ => 0))]) (R := R8) (Y := [(q12, .inl (cA, 6, .inl fun _ => 0))]) hP hD
  refine va_putF (D := D) (ci := 1) (v := .ref q12) (ty := .array .int) (C := RX1) (T := TX1) (N := 19) hx hb hts inG1 tyX1 tyX1_ok nmX1 hown hK hP hD hS 0 rfl rfl 16 (by decide) (hts _ lk1_16) (fun _ h9 => h9) rfl hin rfl (by decide +kernel) rfl rfl (Nat.le_of_ble_eq_true rfl) dX1_init_139 (fun H locs hP hD hS => ?_)
  have hP : va_P D cls3 ([(h0, .inr (1, [.ref q1, .ref q2, .ref q3, .ref q4, .ref q5, .ref q6, .ref q7, .ref q8, .int 0, .ref q9, .ref q10, .int 0, .long 0, .long 1, .int 0, .ref q11, .ref q12, .null, .null])), (q2, .inl (cA, 6, .inl fun _ => 0)), (q4, .inl (cA, 4, .inl fun _ => 0)), (q10, .inl (cA, 3, .inl fun _ => 0))] ++ R9) H := hP
  have hD : va_D A ([(h0, .inr (1, [.ref q1, .ref q2, .ref q3, .ref q4, .ref q5, .ref q6, .ref q7, .ref q8, .int 0, .ref q9, .ref q10, .int 0, .long 0, .long 1, .int 0, .ref q11, .ref q12, .null, .null])), (q2, .inl (cA, 6, .inl fun _ => 0)), (q4, .inl (cA, 4, .inl fun _ => 0)), (q10, .inl (cA, 3, .inl fun _ => 0))] ++ R9) := hD
  refine lv_aload_n hx hb dX1_init_142 rfl (lv_at hl 0 rfl) ?_
  refine lv_bipush (v := 7) hx hb dX1_init_143 (by decide) ?_
  refine va_newa (atype := .int) hx hb (hts _ gd_aI) (ty := .int) rfl hK hP hD hS hA (N' := 7) (a0 := (7, .inl fun _ => 0)) (fun _ => rfl) (by decide) (by decide) (by decide) (Nat.le_of_ble_eq_true rfl) (Nat.le_of_ble_eq_true rfl) dX1_init_145 (fun q13 cN H hK hP hD hS => ?_)
  obtain rfl : cA = cN := (K_same hK (i := 0) (j := 4) rfl rfl).symm
  have hK := hK.sub (tys' := [(cA, .int), (cB, .byte), (cC, .array .int), (cE, .array .byte)]) [0, 1, 2, 3] rfl
  obtain ⟨R10, eR10, hP, hD⟩ := wret (X := [(h0, .inr (1, [.ref q1, .ref q2, .ref q3, .ref q4, .ref q5, .ref q6, .ref q7, .ref q8, .int 0, .ref q9, .ref q10, .int 0, .long 0, .long 1, .int 0, .ref q11, .ref q12, .null, .null])), (q2, .inl (cA, 6, .inl fun _ => 0)), (q4, .inl (cA, 4, .inl fun _ => 0)), (q10, .inl (cA, 3, .inl fun _ => 0))]) (R := R9) (Y := [(q13, .inl (cA, 7, .inl fun _ => 0))]) hP hD
  refine va_putF (D := D) (ci := 1) (v := .ref q13) (ty := .array .int) (C := RX1) (T := TX1) (N := 19) hx hb hts inG1 tyX1 tyX1_ok nmX1 hown hK hP hD hS 0 rfl rfl 17 (by decide) (hts _ lk1_17) (fun _ h9 => h9) rfl hin rfl (by decide +kernel) rfl rfl (Nat.le_of_ble_eq_true rfl) dX1_init_147 (fun H locs hP hD hS => ?_)
  have hP : va_P D cls3 ([(h0, .inr (1, [.ref q1, .ref q2, .ref q3, .ref q4, .ref q5, .ref q6, .ref q7, .ref q8, .int 0, .ref q9, .ref q10, .int 0, .long 0, .long 1, .int 0, .ref q11, .ref q12, .ref q13, .null])), (q2, .inl (cA, 6, .inl fun _ => 0)), (q4, .inl (cA, 4, .inl fun _ => 0)), (q10, .inl (cA, 3, .inl fun _ => 0))] ++ R10) H := hP
  have hD : va_D A ([(h0, .inr (1, [.ref q1, .ref q2, .ref q3, .ref q4, .ref q5, .ref q6, .ref q7, .ref q8, .int 0, .ref q9, .ref q10, .int 0, .long 0, .long 1, .int 0, .ref q11, .ref q12, .ref q13, .null])), (q2, .inl (cA, 6, .inl fun _ => 0)), (q4, .inl (cA, 4, .inl fun _ => 0)), (q10, .inl (cA, 3, .inl fun _ => 0))] ++ R10) := hD
  refine lv_aload_n hx hb dX1_init_150 rfl (lv_at hl 0 rfl) ?_
  refine lv_bipush (v := 20) hx hb dX1_init_151 (by decide) ?_
  refine lv_bipush (v := 7) hx hb dX1_init_153 (by decide) ?_
  refine mnaR (ty := .int) (cy := cA) hx hb hown (hts _ lk1_c9) hAI (hts _ gd_aI) (show s.vm.findClass (FieldType.array .int).toString = some cA from (hK.2 0 _ rfl).2) hK hP hD hS hA (N' := 20) (K' := 7) (z := (7, .inl fun _ => 0)) (by decide) (by decide) (by decide) (by decide) (by decide) (by decide) (by decide) rfl rfl (Nat.le_of_ble_eq_true rfl) (Nat.le_of_ble_eq_true rfl) (fun c9 => arrV_new c9 7 _) dX1_init_155 (fun q14 r4 cN H hK hP hD hS => ?_)
  obtain rfl : cC = cN := (K_sameA hK (i := 2) (j := 4) rfl rfl).symm
  have hK := hK.sub (tys' := [(cA, .int), (cB, .byte), (cC, .array .int), (cE, .array .byte)]) [0, 1, 2, 3] rfl
  obtain ⟨R11, eR11, hP, hD⟩ := wret (X := [(h0, .inr (1, [.ref q1, .ref q2, .ref q3, .ref q4, .ref q5, .ref q6, .ref q7, .ref q8, .int 0, .ref q9, .ref q10, .int 0, .long 0, .long 1, .int 0, .ref q11, .ref q12, .ref q13, .null])), (q2, .inl (cA, 6, .inl fun _ => 0)), (q4, .inl (cA, 4, .inl fun _ => 0)), (q10, .inl (cA, 3, .inl fun _ => 0))]) (R := R10) (Y := ([(q14, .inl (cC, 20, .inr (.inr (.inr (.inr (fun i => if i < 20 then some (r4 i) else none))))))] ++ (List.range 20).map (fun i => (r4 i, .inl (cA, 7, .inl fun _ => 0))))) hP hD
  refine va_putF (D := D) (ci := 1) (v := .ref q14) (ty := .array (.array .int)) (C := RX1) (T := TX1) (N := 19) hx hb hts inG1 tyX1 tyX1_ok nmX1 hown hK hP hD hS 0 rfl rfl 18 (by decide) (hts _ lk1_18) (fun _ h9 => h9) rfl hin rfl (by decide +kernel) rfl rfl (Nat.le_of_ble_eq_true rfl) dX1_init_159 (fun H locs hP hD hS => ?_)
  have hP : va_P D cls3 ([(h0, .inr (1, [.ref q1, .ref q2, .ref q3, .ref q4, .ref q5, .ref q6, .ref q7, .ref q8, .int 0, .ref q9, .ref q10, .int 0, .long 0, .long 1, .int 0, .ref q11, .ref q12, .ref q13, .ref q14])), (q2, .inl (cA, 6, .inl fun _ => 0)), (q4, .inl (cA, 4, .inl fun _ => 0)), (q10, .inl (cA, 3, .inl fun _ => 0))] ++ R11) H := hP
  have hD : va_D A ([(h0, .inr (1, [.ref q1, .ref q2, .ref q3, .ref q4, .ref q5, .ref q6, .ref q7, .ref q8, .int 0, .ref q9, .ref q10, .int 0, .long 0, .long 1, .int 0, .ref q11, .ref q12, .ref q13, .ref q14])), (q2, .inl (cA, 6, .inl fun _ => 0)), (q4, .inl (cA, 4, .inl fun _ => 0)), (q10, .inl (cA, 3, .inl fun _ => 0))] ++ R11) := hD
  refine lv_aload_n hx hb dX1_init_162 rfl (lv_at hl 0 rfl) ?_
  refine va_get (D := D) (ci := 1) (v := .ref q2) (C := RX1) (T := TX1) (N := 19) hx hb hts inG1 hown hK hP 0 rfl rfl 1 (by decide) (hts _ lk1_1) (fun _ h9 => h9) rfl dX1_init_163 ?_
  refine lv_iconst (v := -1) hx hb dX1_init_166 (by decide) ?_
  have hPc := hP.sub (ws' := [(q2, .inl (cA, 6, .inl fun _ => 0))]) [1] rfl
  have hDc := hD.sub (ws' := [(q2, .inl (cA, 6, .inl fun _ => 0))]) [1] (by decide) rfl
  have hKc := hK.sub (tys' := [(cA, .int)]) [0] rfl
  have hFc := va_free (wc := [(q2, .inl (cA, 6, .inl fun _ => 0))]) hD hS hA [1] rfl
  refine va_callv (va_runS (As := [.ref q2, .int (-1)]) (rest := []) (n := 2) ⟨hx, hb, hml, hown, hts⟩ (K_fill0 l D cA q2 6 H.size (by decide) (-1) (fun _ => 0)) ⟨callB_of 2 hts (gd_cons lk1_fc) rfl rfl rfl (hts _ lk1_fi) (hts _ lk1_fl) jy_fillI ⟨(Nat.le_of_ble_eq_true rfl), (Nat.le_of_ble_eq_true rfl)⟩, hts _ lk1_fs⟩ ⟨fun a U g mk q => by obtain ⟨q0, q1, qP, qK, qD⟩ := q; exact ⟨q0, q1, qP, va_K.moved (u := U) (U := U.calling g mk a) (Vm.Alike.refl U.vm) qK, qD⟩, fun U hU hW => ⟨rfl, by rw [hU], by rw [hU]; exact hPc, va_K.moved hW.alike hKc, hDc.weaken (fun _ _ _ _ => trivial)⟩⟩ rfl rfl hl.1 rfl (lv_room (Nat.le_of_ble_eq_true rfl)) dX1_init_167 ⟨(Nat.le_of_ble_eq_true rfl), (Nat.le_of_ble_eq_true rfl)⟩) hS (fun q _ h => hFc q h) hFc (fun u t H1 locs ht hvm hw hB hz1 hk1 hS => ?_)
  obtain ⟨hP1, hK1, hD1⟩ := hB
  rw [ht] at hP1
  obtain ⟨hP, hD⟩ := va_joinQ (X := [(h0, .inr (1, [.ref q1, .ref q2, .ref q3, .ref q4, .ref q5, .ref q6, .ref q7, .ref q8, .int 0, .ref q9, .ref q10, .int 0, .long 0, .long 1, .int 0, .ref q11, .ref q12, .ref q13, .ref q14])), (q2, .inl (cA, 6, .inl fun _ => 0)), (q4, .inl (cA, 4, .inl fun _ => 0)), (q10, .inl (cA, 3, .inl fun _ => 0))]) (wr := [(h0, .inr (1, [.ref q1, .ref q2, .ref q3, .ref q4, .ref q5, .ref q6, .ref q7, .ref q8, .int 0, .ref q9, .ref q10, .int 0, .long 0, .long 1, .int 0, .ref q11, .ref q12, .ref q13, .ref q14])), (q4, .inl (cA, 4, .inl fun _ => 0)), (q10, .inl (cA, 3, .inl fun _ => 0))]) (w1 := [(q2, .inl (cA, 6, .inl (fl (fun _ => 0) (-1) 6)))]) (pl := R11) hP hD [1] [0, 2, 3] rfl rfl (by decide) (by decide) hk1 hFc hP1 hD1
  generalize H1 = H at hP hS ⊢
  have hP : va_P D cls3 ([(h0, .inr (1, [.ref q1, .ref q2, .ref q3, .ref q4, .ref q5, .ref q6, .ref q7, .ref q8, .int 0, .ref q9, .ref q10, .int 0, .long 0, .long 1, .int 0, .ref q11, .ref q12, .ref q13, .ref q14])), (q4, .inl (cA, 4, .inl fun _ => 0)), (q10, .inl (cA, 3, .inl fun _ => 0)), (q2, .inl (cA, 6, .inl (fl (fun _ => 0) (-1) 6)))] ++ R11) H := hP
  have hD : va_D A ([(h0, .inr (1, [.ref q1, .ref q2, .ref q3, .ref q4, .ref q5, .ref q6, .ref q7, .ref q8, .int 0, .ref q9, .ref q10, .int 0, .long 0, .long 1, .int 0, .ref q11, .ref q12, .ref q13, .ref q14])), (q4, .inl (cA, 4, .inl fun _ => 0)), (q10, .inl (cA, 3, .inl fun _ => 0)), (q2, .inl (cA, 6, .inl (fl (fun _ => 0) (-1) 6)))] ++ R11) := hD
  refine lv_aload_n hx hb dX1_init_170 rfl (lv_at hl 0 rfl) ?_
  refine va_get (D := D) (ci := 1) (v := .ref q4) (C := RX1) (T := TX1) (N := 19) hx hb hts inG1 hown hK hP 0 rfl rfl 3 (by decide) (hts _ lk1_3) (fun _ h9 => h9) rfl dX1_init_171 ?_
  refine lv_iconst (v := -1) hx hb dX1_init_174 (by decide) ?_
  have hPc := hP.sub (ws' := [(q4, .inl (cA, 4, .inl fun _ => 0))]) [1] rfl
  have hDc := hD.sub (ws' := [(q4, .inl (cA, 4, .inl fun _ => 0))]) [1] (by decide) rfl
  have hKc := hK.sub (tys' := [(cA, .int)]) [0] rfl
  have hFc := va_free (wc := [(q4, .inl (cA, 4, .inl fun _ => 0))]) hD hS hA [1] rfl
  refine va_callv (va_runS (As := [.ref q4, .int (-1)]) (rest := []) (n := 2) ⟨hx, hb, hml, hown, hts⟩ (K_fill0 l D cA q4 4 H.size (by decide) (-1) (fun _ => 0)) ⟨callB_of 2 hts (gd_cons lk1_fc) rfl rfl rfl (hts _ lk1_fi) (hts _ lk1_fl) jy_fillI ⟨(Nat.le_of_ble_eq_true rfl), (Nat.le_of_ble_eq_true rfl)⟩, hts _ lk1_fs⟩ ⟨fun a U g mk q => by obtain ⟨q0, q1, qP, qK, qD⟩ := q; exact ⟨q0, q1, qP, va_K.moved (u := U) (U := U.calling g mk a) (Vm.Alike.refl U.vm) qK, qD⟩, fun U hU hW => ⟨rfl, by rw [hU], by rw [hU]; exact hPc, va_K.moved hW.alike hKc, hDc.weaken (fun _ _ _ _ => trivial)⟩⟩ rfl rfl hl.1 rfl (lv_room (Nat.le_of_ble_eq_true rfl)) dX1_init_175 ⟨(Nat.le_of_ble_eq_true rfl), (Nat.le_of_ble_eq_true rfl)⟩) hS (fun q _ h => hFc q h) hFc (fun u t H1 locs ht hvm hw hB hz1 hk1 hS => ?_)
  obtain ⟨hP1, hK1, hD1⟩ := hB
  rw [ht] at hP1
  obtain ⟨hP, hD⟩ := va_joinQ (X := [(h0, .inr (1, [.ref q1, .ref q2, .ref q3, .ref q4, .ref q5, .ref q6, .ref q7, .ref q8, .int 0, .ref q9, .ref q10, .int 0, .long 0, .long 1, .int 0, .ref q11, .ref q12, .ref q13, .ref q14])), (q4, .inl (cA, 4, .inl fun _ => 0)), (q10, .inl (cA, 3, .inl fun _ => 0)), (q2, .inl (cA, 6, .inl (fl (fun _ => 0) (-1) 6)))]) (wr := [(h0, .inr (1, [.ref q1, .ref q2, .ref q3, .ref q4, .ref q5, .ref q6, .ref q7, .ref q8, .int 0, .ref q9, .ref q10, .int 0, .long 0, .long 1, .int 0, .ref q11, .ref q12, .ref q13, .ref q14])), (q10, .inl (cA, 3, .inl fun _ => 0)), (q2, .inl (cA, 6, .inl (fl (fun _ => 0) (-1) 6)))]) (w1 := [(q4, .inl (cA, 4, .inl (fl (fun _ => 0) (-1) 4)))]) (pl := R11) hP hD [1] [0, 2, 3] rfl rfl (by decide) (by decide) hk1 hFc hP1 hD1
  generalize H1 = H at hP hS ⊢
  have hP : va_P D cls3 ([(h0, .inr (1, [.ref q1, .ref q2, .ref q3, .ref q4, .ref q5, .ref q6, .ref q7, .ref q8, .int 0, .ref q9, .ref q10, .int 0, .long 0, .long 1, .int 0, .ref q11, .ref q12, .ref q13, .ref q14])), (q10, .inl (cA, 3, .inl fun _ => 0)), (q2, .inl (cA, 6, .inl (fl (fun _ => 0) (-1) 6))), (q4, .inl (cA, 4, .inl (fl (fun _ => 0) (-1) 4)))] ++ R11) H := hP
  have hD : va_D A ([(h0, .inr (1, [.ref q1, .ref q2, .ref q3, .ref q4, .ref q5, .ref q6, .ref q7, .ref q8, .int 0, .ref q9, .ref q10, .int 0, .long 0, .long 1, .int 0, .ref q11, .ref q12, .ref q13, .ref q14])), (q10, .inl (cA, 3, .inl fun _ => 0)), (q2, .inl (cA, 6, .inl (fl (fun _ => 0) (-1) 6))), (q4, .inl (cA, 4, .inl (fl (fun _ => 0) (-1) 4)))] ++ R11) := hD
  refine lv_aload_n hx hb dX1_init_178 rfl (lv_at hl 0 rfl) ?_
  refine va_get (D := D) (ci := 1) (v := .ref q10) (C := RX1) (T := TX1) (N := 19) hx hb hts inG1 hown hK hP 0 rfl rfl 10 (by decide) (hts _ lk1_10) (fun _ h9 => h9) rfl dX1_init_179 ?_
  refine lv_iconst (v := -1) hx hb dX1_init_182 (by decide) ?_
  have hPc := hP.sub (ws' := [(q10, .inl (cA, 3, .inl fun _ => 0))]) [1] rfl
  have hDc := hD.sub (ws' := [(q10, .inl (cA, 3, .inl fun _ => 0))]) [1] (by decide) rfl
  have hKc := hK.sub (tys' := [(cA, .int)]) [0] rfl
  have hFc := va_free (wc := [(q10, .inl (cA, 3, .inl fun _ => 0))]) hD hS hA [1] rfl
  refine va_callv (va_runS (As := [.ref q10, .int (-1)]) (rest := []) (n := 2) ⟨hx, hb, hml, hown, hts⟩ (K_fill0 l D cA q10 3 H.size (by decide) (-1) (fun _ => 0)) ⟨callB_of 2 hts (gd_cons lk1_fc) rfl rfl rfl (hts _ lk1_fi) (hts _ lk1_fl) jy_fillI ⟨(Nat.le_of_ble_eq_true rfl), (Nat.le_of_ble_eq_true rfl)⟩, hts _ lk1_fs⟩ ⟨fun a U g mk q => by obtain ⟨q0, q1, qP, qK, qD⟩ := q; exact ⟨q0, q1, qP, va_K.moved (u := U) (U := U.calling g mk a) (Vm.Alike.refl U.vm) qK, qD⟩, fun U hU hW => ⟨rfl, by rw [hU], by rw [hU]; exact hPc, va_K.moved hW.alike hKc, hDc.weaken (fun _ _ _ _ => trivial)⟩⟩ rfl rfl hl.1 rfl (lv_room (Nat.le_of_ble_eq_true rfl)) dX1_init_183 ⟨(Nat.le_of_ble_eq_true rfl), (Nat.le_of_ble_eq_true rfl)⟩) hS (fun q _ h => hFc q h) hFc (fun u t H1 locs ht hvm hw hB hz1 hk1 hS => ?_)
  obtain ⟨hP1, hK1, hD1⟩ := hB
  rw [ht] at hP1
  obtain ⟨hP, hD⟩ := va_joinQ (X := [(h0, .inr (1, [.ref q1, .ref q2, .ref q3, .ref q4, .ref q5, .ref q6, .ref q7, .ref q8, .int 0, .ref q9, .ref q10, .int 0, .long 0, .long 1, .int 0, .ref q11, .ref q12, .ref q13, .ref q14])), (q10, .inl (cA, 3, .inl fun _ => 0)), (q2, .inl (cA, 6, .inl (fl (fun _ => 0) (-1) 6))), (q4, .inl (cA, 4, .inl (fl (fun _ => 0) (-1) 4)))]) (wr := [(h0, .inr (1, [.ref q1, .ref q2, .ref q3, .ref q4, .ref q5, .ref q6, .ref q7, .ref q8, .int 0, .ref q9, .ref q10, .int 0, .long 0, .long 1, .int 0, .ref q11, .ref q12, .ref q13, .ref q14])), (q2, .inl (cA, 6, .inl (fl (fun _ => 0) (-1) 6))), (q4, .inl (cA, 4, .inl (fl (fun _ => 0) (-1) 4)))]) (w1 := [(q10, .inl (cA, 3, .inl (fl (fun _ => 0) (-1) 3)))]) (pl := R11) hP hD [1] [0, 2, 3] rfl rfl (by decide) (by decide) hk1 hFc hP1 hD1
  generalize H1 = H at hP hS ⊢
  have hP : va_P D cls3 ([(h0, .inr (1, [.ref q1, .ref q2, .ref q3, .ref q4, .ref q5, .ref q6, .ref q7, .ref q8, .int 0, .ref q9, .ref q10, .int 0, .long 0, .long 1, .int 0, .ref q11, .ref q12, .ref q13, .ref q14])), (q2, .inl (cA, 6, .inl (fl (fun _ => 0) (-1) 6))), (q4, .inl (cA, 4, .inl (fl (fun _ => 0) (-1) 4))), (q10, .inl (cA, 3, .inl (fl (fun _ => 0) (-1) 3)))] ++ R11) H := hP
  have hD : va_D A ([(h0, .inr (1, [.ref q1, .ref q2, .ref q3, .ref q4, .ref q5, .ref q6, .ref q7, .ref q8, .int 0, .ref q9, .ref q10, .int 0, .long 0, .long 1, .int 0, .ref q11, .ref q12, .ref q13, .ref q14])), (q2, .inl (cA, 6, .inl (fl (fun _ => 0) (-1) 6))), (q4, .inl (cA, 4, .inl (fl (fun _ => 0) (-1) 4))), (q10, .inl (cA, 3, .inl (fl (fun _ => 0) (-1) 3)))] ++ R11) := hD
  subst eR1 eR2 eR3 eR4 eR5 eR6 eR7 eR8 eR9 eR10 eR11
  have hP : va_P D cls3 [(h0, .inr (1, [.ref q1, .ref q2, .ref q3, .ref q4, .ref q5, .ref q6, .ref q7, .ref q8, .int 0, .ref q9, .ref q10, .int 0, .long 0, .long 1, .int 0, .ref q11, .ref q12, .ref q13, .ref q14])), (q2, .inl (cA, 6, .inl (fl (fun _ => 0) (-1) 6))), (q4, .inl (cA, 4, .inl (fl (fun _ => 0) (-1) 4))), (q10, .inl (cA, 3, .inl (fl (fun _ => 0) (-1) 3))), (q1, .inl (cC, 6, .inr (.inr (.inr (.inr (fun i => if i < 6 then some (r1 i) else none)))))), (r1 0, .inl (cA, 40, .inl fun _ => 0)), (r1 1, .inl (cA, 40, .inl fun _ => 0)), (r1 2, .inl (cA, 40, .inl fun _ => 0)), (r1 3, .inl (cA, 40, .inl fun _ => 0)), (r1 4, .inl (cA, 40, .inl fun _ => 0)), (r1 5, .inl (cA, 40, .inl fun _ => 0)), (q3, .inl (cE, 4, .inr (.inr (.inr (.inr (fun i => if i < 4 then some (r2 i) else none)))))), (r2 0, .inl (cB, 60, .inl fun _ => 0)), (r2 1, .inl (cB, 60, .inl fun _ => 0)), (r2 2, .inl (cB, 60, .inl fun _ => 0)), (r2 3, .inl (cB, 60, .inl fun _ => 0)), (q5, .inr (0, [.ref q5a1, .ref q5a2, .ref q5a3, .ref q5a4, .int 0, .int 0, .int 0])), (q5a1, .inl (cA, 6, .inl fun _ => 0)), (q5a2, .inl (cA, 6, .inl fun _ => 0)), (q5a3, .inl (cA, 6, .inl fun _ => 0)), (q5a4, .inl (cA, 6, .inl fun _ => 0)), (q6, .inr (0, [.ref q6a1, .ref q6a2, .ref q6a3, .ref q6a4, .int 0, .int 0, .int 0])), (q6a1, .inl (cA, 6, .inl fun _ => 0)), (q6a2, .inl (cA, 6, .inl fun _ => 0)), (q6a3, .inl (cA, 6, .inl fun _ => 0)), (q6a4, .inl (cA, 6, .inl fun _ => 0)), (q7, .inr (0, [.ref q7a1, .ref q7a2, .ref q7a3, .ref q7a4, .int 0, .int 0, .int 0])), (q7a1, .inl (cA, 6, .inl fun _ => 0)), (q7a2, .inl (cA, 6, .inl fun _ => 0)), (q7a3, .inl (cA, 6, .inl fun _ => 0)), (q7a4, .inl (cA, 6, .inl fun _ => 0)), (q8, .inl (cA, 40, .inl fun _ => 0)), (q9, .inl (cC, 3, .inr (.inr (.inr (.inr (fun i => if i < 3 then some (r3 i) else none)))))), (r3 0, .inl (cA, 40, .inl fun _ => 0)), (r3 1, .inl (cA, 40, .inl fun _ => 0)), (r3 2, .inl (cA, 40, .inl fun _ => 0)), (q11, .inl (cA, 6, .inl fun _ => 0)), (q12, .inl (cA, 6, .inl fun _ => 0)), (q13, .inl (cA, 7, .inl fun _ => 0)), (q14, .inl (cC, 20, .inr (.inr (.inr (.inr (fun i => if i < 20 then some (r4 i) else none)))))), (r4 0, .inl (cA, 7, .inl fun _ => 0)), (r4 1, .inl (cA, 7, .inl fun _ => 0)), (r4 2, .inl (cA, 7, .inl fun _ => 0)), (r4 3, .inl (cA, 7, .inl fun _ => 0)), (r4 4, .inl (cA, 7, .inl fun _ => 0)), (r4 5, .inl (cA, 7, .inl fun _ => 0)), (r4 6, .inl (cA, 7, .inl fun _ => 0)), (r4 7, .inl (cA, 7, .inl fun _ => 0)), (r4 8, .inl (cA, 7, .inl fun _ => 0)), (r4 9, .inl (cA, 7, .inl fun _ => 0)), (r4 10, .inl (cA, 7, .inl fun _ => 0)), (r4 11, .inl (cA, 7, .inl fun _ => 0)), (r4 12, .inl (cA, 7, .inl fun _ => 0)), (r4 13, .inl (cA, 7, .inl fun _ => 0)), (r4 14, .inl (cA, 7, .inl fun _ => 0)), (r4 15, .inl (cA, 7, .inl fun _ => 0)), (r4 16, .inl (cA, 7, .inl fun _ => 0)), (r4 17, .inl (cA, 7, .inl fun _ => 0)), (r4 18, .inl (cA, 7, .inl fun _ => 0)), (r4 19, .inl (cA, 7, .inl fun _ => 0))] H := hP
  have hD : va_D A [(h0, .inr (1, [.ref q1, .ref q2, .ref q3, .ref q4, .ref q5, .ref q6, .ref q7, .ref q8, .int 0, .ref q9, .ref q10, .int 0, .long 0, .long 1, .int 0, .ref q11, .ref q12, .ref q13, .ref q14])), (q2, .inl (cA, 6, .inl (fl (fun _ => 0) (-1) 6))), (q4, .inl (cA, 4, .inl (fl (fun _ => 0) (-1) 4))), (q10, .inl (cA, 3, .inl (fl (fun _ => 0) (-1) 3))), (q1, .inl (cC, 6, .inr (.inr (.inr (.inr (fun i => if i < 6 then some (r1 i) else none)))))), (r1 0, .inl (cA, 40, .inl fun _ => 0)), (r1 1, .inl (cA, 40, .inl fun _ => 0)), (r1 2, .inl (cA, 40, .inl fun _ => 0)), (r1 3, .inl (cA, 40, .inl fun _ => 0)), (r1 4, .inl (cA, 40, .inl fun _ => 0)), (r1 5, .inl (cA, 40, .inl fun _ => 0)), (q3, .inl (cE, 4, .inr (.inr (.inr (.inr (fun i => if i < 4 then some (r2 i) else none)))))), (r2 0, .inl (cB, 60, .inl fun _ => 0)), (r2 1, .inl (cB, 60, .inl fun _ => 0)), (r2 2, .inl (cB, 60, .inl fun _ => 0)), (r2 3, .inl (cB, 60, .inl fun _ => 0)), (q5, .inr (0, [.ref q5a1, .ref q5a2, .ref q5a3, .ref q5a4, .int 0, .int 0, .int 0])), (q5a1, .inl (cA, 6, .inl fun _ => 0)), (q5a2, .inl (cA, 6, .inl fun _ => 0)), (q5a3, .inl (cA, 6, .inl fun _ => 0)), (q5a4, .inl (cA, 6, .inl fun _ => 0)), (q6, .inr (0, [.ref q6a1, .ref q6a2, .ref q6a3, .ref q6a4, .int 0, .int 0, .int 0])), (q6a1, .inl (cA, 6, .inl fun _ => 0)), (q6a2, .inl (cA, 6, .inl fun _ => 0)), (q6a3, .inl (cA, 6, .inl fun _ => 0)), (q6a4, .inl (cA, 6, .inl fun _ => 0)), (q7, .inr (0, [.ref q7a1, .ref q7a2, .ref q7a3, .ref q7a4, .int 0, .int 0, .int 0])), (q7a1, .inl (cA, 6, .inl fun _ => 0)), (q7a2, .inl (cA, 6, .inl fun _ => 0)), (q7a3, .inl (cA, 6, .inl fun _ => 0)), (q7a4, .inl (cA, 6, .inl fun _ => 0)), (q8, .inl (cA, 40, .inl fun _ => 0)), (q9, .inl (cC, 3, .inr (.inr (.inr (.inr (fun i => if i < 3 then some (r3 i) else none)))))), (r3 0, .inl (cA, 40, .inl fun _ => 0)), (r3 1, .inl (cA, 40, .inl fun _ => 0)), (r3 2, .inl (cA, 40, .inl fun _ => 0)), (q11, .inl (cA, 6, .inl fun _ => 0)), (q12, .inl (cA, 6, .inl fun _ => 0)), (q13, .inl (cA, 7, .inl fun _ => 0)), (q14, .inl (cC, 20, .inr (.inr (.inr (.inr (fun i => if i < 20 then some (r4 i) else none)))))), (r4 0, .inl (cA, 7, .inl fun _ => 0)), (r4 1, .inl (cA, 7, .inl fun _ => 0)), (r4 2, .inl (cA, 7, .inl fun _ => 0)), (r4 3, .inl (cA, 7, .inl fun _ => 0)), (r4 4, .inl (cA, 7, .inl fun _ => 0)), (r4 5, .inl (cA, 7, .inl fun _ => 0)), (r4 6, .inl (cA, 7, .inl fun _ => 0)), (r4 7, .inl (cA, 7, .inl fun _ => 0)), (r4 8, .inl (cA, 7, .inl fun _ => 0)), (r4 9, .inl (cA, 7, .inl fun _ => 0)), (r4 10, .inl (cA, 7, .inl fun _ => 0)), (r4 11, .inl (cA, 7, .inl fun _ => 0)), (r4 12, .inl (cA, 7, .inl fun _ => 0)), (r4 13, .inl (cA, 7, .inl fun _ => 0)), (r4 14, .inl (cA, 7, .inl fun _ => 0)), (r4 15, .inl (cA, 7, .inl fun _ => 0)), (r4 16, .inl (cA, 7, .inl fun _ => 0)), (r4 17, .inl (cA, 7, .inl fun _ => 0)), (r4 18, .inl (cA, 7, .inl fun _ => 0)), (r4 19, .inl (cA, 7, .inl fun _ => 0))] := hD
  exact W.vret hx hb hr (fun t ht hW => ⟨⟨(), rfl, trivial, cA, cB, cC, cE, fun c => [h0, q1, r1 0, r1 1, r1 2, r1 3, r1 4, r1 5, q2, q3, r2 0, r2 1, r2 2, r2 3, q4, q5, q5a1, q5a2, q5a3, q5a4, q6, q6a1, q6a2, q6a3, q6a4, q7, q7a1, q7a2, q7a3, q7a4, q8, q9, r3 0, r3 1, r3 2, q10, q11, q12, q13, q14, r4 0, r4 1, r4 2, r4 3, r4 4, r4 5, r4 6, r4 7, r4 8, r4 9, r4 10, r4 11, r4 12, r4 13, r4 14, r4 15, r4 16, r4 17, r4 18, r4 19].getD c 0, _, rfl, va_K.moved hW.alike hK, by rw [ht]; exact hP, hD, fun H2 A2 G e0 e1 e2 e3 he hP2 hD2 => ford_end hP2 hD2 G e0 e1 e2 e3 he⟩, hS.F ht⟩) hS.2.2 dX1_init_186
