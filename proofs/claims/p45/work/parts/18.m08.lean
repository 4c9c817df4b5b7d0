theorem dL_stir_0 : decode cL_stir 0 = .ok (.iconst 1, 1) := by decide +kernel
theorem dL_stir_1 : decode cL_stir 1 = .ok (.istore 5, 2) := by decide +kernel
theorem dL_stir_3 : decode cL_stir 3 = .ok (.iconst 0, 1) := by decide +kernel
theorem dL_stir_4 : decode cL_stir 4 = .ok (.istore 6, 2) := by decide +kernel
theorem dL_stir_6 : decode cL_stir 6 = .ok (.iload 6, 2) := by decide +kernel
theorem dL_stir_8 : decode cL_stir 8 = .ok (.iload 4, 2) := by decide +kernel
theorem dL_stir_10 : decode cL_stir 10 = .ok (.if_icmp .ge 280, 3) := by decide +kernel
theorem dL_stir_13 : decode cL_stir 13 = .ok (.iload_n 3, 1) := by decide +kernel
theorem dL_stir_14 : decode cL_stir 14 = .ok (.iconst 3, 1) := by decide +kernel
theorem dL_stir_15 : decode cL_stir 15 = .ok (.iload 6, 2) := by decide +kernel
theorem dL_stir_17 : decode cL_stir 17 = .ok (.imul, 1) := by decide +kernel
theorem dL_stir_18 : decode cL_stir 18 = .ok (.ishr, 1) := by decide +kernel
theorem dL_stir_19 : decode cL_stir 19 = .ok (.bipush 7, 2) := by decide +kernel
theorem dL_stir_21 : decode cL_stir 21 = .ok (.iload 6, 2) := by decide +kernel
theorem dL_stir_23 : decode cL_stir 23 = .ok (.imul, 1) := by decide +kernel
theorem dL_stir_24 : decode cL_stir 24 = .ok (.iadd, 1) := by decide +kernel
theorem dL_stir_25 : decode cL_stir 25 = .ok (.istore 7, 2) := by decide +kernel
theorem dL_stir_27 : decode cL_stir 27 = .ok (.iload 7, 2) := by decide +kernel
theorem dL_stir_29 : decode cL_stir 29 = .ok (.iconst 3, 1) := by decide +kernel
theorem dL_stir_30 : decode cL_stir 30 = .ok (.ishr, 1) := by decide +kernel
theorem dL_stir_31 : decode cL_stir 31 = .ok (.aload_n 1, 1) := by decide +kernel
theorem dL_stir_32 : decode cL_stir 32 = .ok (.iconst 0, 1) := by decide +kernel
theorem dL_stir_33 : decode cL_stir 33 = .ok (.iaload, 1) := by decide +kernel
theorem dL_stir_34 : decode cL_stir 34 = .ok (.invokestatic 15, 3) := by decide +kernel
theorem dL_stir_37 : decode cL_stir 37 = .ok (.istore 8, 2) := by decide +kernel
theorem dL_stir_39 : decode cL_stir 39 = .ok (.iconst 1, 1) := by decide +kernel
theorem dL_stir_40 : decode cL_stir 40 = .ok (.iload 7, 2) := by decide +kernel
theorem dL_stir_42 : decode cL_stir 42 = .ok (.bipush 6, 2) := by decide +kernel
theorem dL_stir_44 : decode cL_stir 44 = .ok (.ishr, 1) := by decide +kernel
theorem dL_stir_45 : decode cL_stir 45 = .ok (.bipush 9, 2) := by decide +kernel
theorem dL_stir_47 : decode cL_stir 47 = .ok (.invokestatic 15, 3) := by decide +kernel
theorem dL_stir_50 : decode cL_stir 50 = .ok (.iadd, 1) := by decide +kernel
theorem dL_stir_51 : decode cL_stir 51 = .ok (.istore 9, 2) := by decide +kernel
theorem dL_stir_53 : decode cL_stir 53 = .ok (.iload 7, 2) := by decide +kernel
theorem dL_stir_55 : decode cL_stir 55 = .ok (.bipush 7, 2) := by decide +kernel
theorem dL_stir_57 : decode cL_stir 57 = .ok (.iand, 1) := by decide +kernel
theorem dL_stir_58 : decode cL_stir 58 = .ok (.istore 10, 2) := by decide +kernel
theorem dL_stir_60 : decode cL_stir 60 = .ok (.iload 10, 2) := by decide +kernel
theorem dL_stir_62 : decode cL_stir 62 = .ok (.iconst 3, 1) := by decide +kernel
theorem dL_stir_63 : decode cL_stir 63 = .ok (.if_icmp .ge 34, 3) := by decide +kernel
theorem dL_stir_66 : decode cL_stir 66 = .ok (.aload_n 1, 1) := by decide +kernel
theorem dL_stir_67 : decode cL_stir 67 = .ok (.aload_n 2, 1) := by decide +kernel
theorem dL_stir_68 : decode cL_stir 68 = .ok (.invokestatic 55, 3) := by decide +kernel
theorem dL_stir_71 : decode cL_stir 71 = .ok (.istore 11, 2) := by decide +kernel
theorem dL_stir_73 : decode cL_stir 73 = .ok (.iload 5, 2) := by decide +kernel
theorem dL_stir_75 : decode cL_stir 75 = .ok (.ifCond .eq 16, 3) := by decide +kernel
theorem dL_stir_78 : decode cL_stir 78 = .ok (.aload_n 0, 1) := by decide +kernel
theorem dL_stir_79 : decode cL_stir 79 = .ok (.invokevirtual 59, 3) := by decide +kernel
theorem dL_stir_82 : decode cL_stir 82 = .ok (.iload 11, 2) := by decide +kernel
theorem dL_stir_84 : decode cL_stir 84 = .ok (.if_icmp .ne 7, 3) := by decide +kernel
theorem dL_stir_87 : decode cL_stir 87 = .ok (.iconst 1, 1) := by decide +kernel
theorem dL_stir_88 : decode cL_stir 88 = .ok (.goto 4, 3) := by decide +kernel
theorem dL_stir_91 : decode cL_stir 91 = .ok (.iconst 0, 1) := by decide +kernel
theorem dL_stir_92 : decode cL_stir 92 = .ok (.istore 5, 2) := by decide +kernel
theorem dL_stir_94 : decode cL_stir 94 = .ok (.goto 190, 3) := by decide +kernel
theorem dL_stir_97 : decode cL_stir 97 = .ok (.iload 10, 2) := by decide +kernel
theorem dL_stir_99 : decode cL_stir 99 = .ok (.iconst 5, 1) := by decide +kernel
theorem dL_stir_100 : decode cL_stir 100 = .ok (.if_icmp .ge 63, 3) := by decide +kernel
theorem dL_stir_103 : decode cL_stir 103 = .ok (.aload_n 2, 1) := by decide +kernel
theorem dL_stir_104 : decode cL_stir 104 = .ok (.bipush 8, 2) := by decide +kernel
theorem dL_stir_106 : decode cL_stir 106 = .ok (.iload 8, 2) := by decide +kernel
theorem dL_stir_108 : decode cL_stir 108 = .ok (.iadd, 1) := by decide +kernel
theorem dL_stir_109 : decode cL_stir 109 = .ok (.iaload, 1) := by decide +kernel
theorem dL_stir_110 : decode cL_stir 110 = .ok (.iload 9, 2) := by decide +kernel
theorem dL_stir_112 : decode cL_stir 112 = .ok (.iadd, 1) := by decide +kernel
theorem dL_stir_113 : decode cL_stir 113 = .ok (.bipush 21, 2) := by decide +kernel
theorem dL_stir_115 : decode cL_stir 115 = .ok (.if_icmp .ge 48, 3) := by decide +kernel
theorem dL_stir_118 : decode cL_stir 118 = .ok (.aload_n 2, 1) := by decide +kernel
theorem dL_stir_119 : decode cL_stir 119 = .ok (.bipush 8, 2) := by decide +kernel
theorem dL_stir_121 : decode cL_stir 121 = .ok (.iload 8, 2) := by decide +kernel
theorem dL_stir_123 : decode cL_stir 123 = .ok (.iadd, 1) := by decide +kernel
theorem dL_stir_124 : decode cL_stir 124 = .ok (.dup2, 1) := by decide +kernel
theorem dL_stir_125 : decode cL_stir 125 = .ok (.iaload, 1) := by decide +kernel
theorem dL_stir_126 : decode cL_stir 126 = .ok (.iload 9, 2) := by decide +kernel
theorem dL_stir_128 : decode cL_stir 128 = .ok (.iadd, 1) := by decide +kernel
theorem dL_stir_129 : decode cL_stir 129 = .ok (.iastore, 1) := by decide +kernel
theorem dL_stir_130 : decode cL_stir 130 = .ok (.iload 5, 2) := by decide +kernel
theorem dL_stir_132 : decode cL_stir 132 = .ok (.ifCond .eq 25, 3) := by decide +kernel
theorem dL_stir_135 : decode cL_stir 135 = .ok (.aload_n 0, 1) := by decide +kernel
theorem dL_stir_136 : decode cL_stir 136 = .ok (.iload 8, 2) := by decide +kernel
theorem dL_stir_138 : decode cL_stir 138 = .ok (.iload 9, 2) := by decide +kernel
theorem dL_stir_140 : decode cL_stir 140 = .ok (.invokevirtual 62, 3) := by decide +kernel
theorem dL_stir_143 : decode cL_stir 143 = .ok (.aload_n 2, 1) := by decide +kernel
theorem dL_stir_144 : decode cL_stir 144 = .ok (.bipush 8, 2) := by decide +kernel
theorem dL_stir_146 : decode cL_stir 146 = .ok (.iload 8, 2) := by decide +kernel
theorem dL_stir_148 : decode cL_stir 148 = .ok (.iadd, 1) := by decide +kernel
theorem dL_stir_149 : decode cL_stir 149 = .ok (.iaload, 1) := by decide +kernel
theorem dL_stir_150 : decode cL_stir 150 = .ok (.if_icmp .ne 7, 3) := by decide +kernel
theorem dL_stir_153 : decode cL_stir 153 = .ok (.iconst 1, 1) := by decide +kernel
theorem dL_stir_154 : decode cL_stir 154 = .ok (.goto 4, 3) := by decide +kernel
theorem dL_stir_157 : decode cL_stir 157 = .ok (.iconst 0, 1) := by decide +kernel
theorem dL_stir_158 : decode cL_stir 158 = .ok (.istore 5, 2) := by decide +kernel
theorem dL_stir_160 : decode cL_stir 160 = .ok (.goto 124, 3) := by decide +kernel
theorem dL_stir_163 : decode cL_stir 163 = .ok (.iload 10, 2) := by decide +kernel
theorem dL_stir_165 : decode cL_stir 165 = .ok (.iconst 5, 1) := by decide +kernel
theorem dL_stir_166 : decode cL_stir 166 = .ok (.if_icmp .ne 60, 3) := by decide +kernel
theorem dL_stir_169 : decode cL_stir 169 = .ok (.aload_n 2, 1) := by decide +kernel
theorem dL_stir_170 : decode cL_stir 170 = .ok (.bipush 8, 2) := by decide +kernel
theorem dL_stir_172 : decode cL_stir 172 = .ok (.iload 8, 2) := by decide +kernel
theorem dL_stir_174 : decode cL_stir 174 = .ok (.iadd, 1) := by decide +kernel
theorem dL_stir_175 : decode cL_stir 175 = .ok (.iaload, 1) := by decide +kernel
theorem dL_stir_176 : decode cL_stir 176 = .ok (.iload 9, 2) := by decide +kernel
theorem dL_stir_178 : decode cL_stir 178 = .ok (.if_icmp .lt 48, 3) := by decide +kernel
theorem dL_stir_181 : decode cL_stir 181 = .ok (.aload_n 2, 1) := by decide +kernel
theorem dL_stir_182 : decode cL_stir 182 = .ok (.bipush 8, 2) := by decide +kernel
theorem dL_stir_184 : decode cL_stir 184 = .ok (.iload 8, 2) := by decide +kernel
theorem dL_stir_186 : decode cL_stir 186 = .ok (.iadd, 1) := by decide +kernel
theorem dL_stir_187 : decode cL_stir 187 = .ok (.dup2, 1) := by decide +kernel
theorem dL_stir_188 : decode cL_stir 188 = .ok (.iaload, 1) := by decide +kernel
theorem dL_stir_189 : decode cL_stir 189 = .ok (.iload 9, 2) := by decide +kernel
theorem dL_stir_191 : decode cL_stir 191 = .ok (.isub, 1) := by decide +kernel
theorem dL_stir_192 : decode cL_stir 192 = .ok (.iastore, 1) := by decide +kernel
theorem dL_stir_193 : decode cL_stir 193 = .ok (.iload 5, 2) := by decide +kernel
theorem dL_stir_195 : decode cL_stir 195 = .ok (.ifCond .eq 25, 3) := by decide +kernel
theorem dL_stir_198 : decode cL_stir 198 = .ok (.aload_n 0, 1) := by decide +kernel
theorem dL_stir_199 : decode cL_stir 199 = .ok (.iload 8, 2) := by decide +kernel
theorem dL_stir_201 : decode cL_stir 201 = .ok (.iload 9, 2) := by decide +kernel
theorem dL_stir_203 : decode cL_stir 203 = .ok (.invokevirtual 65, 3) := by decide +kernel
theorem dL_stir_206 : decode cL_stir 206 = .ok (.aload_n 2, 1) := by decide +kernel
theorem dL_stir_207 : decode cL_stir 207 = .ok (.bipush 8, 2) := by decide +kernel
theorem dL_stir_209 : decode cL_stir 209 = .ok (.iload 8, 2) := by decide +kernel
theorem dL_stir_211 : decode cL_stir 211 = .ok (.iadd, 1) := by decide +kernel
theorem dL_stir_212 : decode cL_stir 212 = .ok (.iaload, 1) := by decide +kernel
theorem dL_stir_213 : decode cL_stir 213 = .ok (.if_icmp .ne 7, 3) := by decide +kernel
theorem dL_stir_216 : decode cL_stir 216 = .ok (.iconst 1, 1) := by decide +kernel
theorem dL_stir_217 : decode cL_stir 217 = .ok (.goto 4, 3) := by decide +kernel
theorem dL_stir_220 : decode cL_stir 220 = .ok (.iconst 0, 1) := by decide +kernel
theorem dL_stir_221 : decode cL_stir 221 = .ok (.istore 5, 2) := by decide +kernel
theorem dL_stir_223 : decode cL_stir 223 = .ok (.goto 61, 3) := by decide +kernel
theorem dL_stir_226 : decode cL_stir 226 = .ok (.iload 10, 2) := by decide +kernel
theorem dL_stir_228 : decode cL_stir 228 = .ok (.iconst 5, 1) := by decide +kernel
theorem dL_stir_229 : decode cL_stir 229 = .ok (.if_icmp .le 55, 3) := by decide +kernel
theorem dL_stir_232 : decode cL_stir 232 = .ok (.aload_n 2, 1) := by decide +kernel
theorem dL_stir_233 : decode cL_stir 233 = .ok (.iconst 2, 1) := by decide +kernel
theorem dL_stir_234 : decode cL_stir 234 = .ok (.iload 8, 2) := by decide +kernel
theorem dL_stir_236 : decode cL_stir 236 = .ok (.iadd, 1) := by decide +kernel
theorem dL_stir_237 : decode cL_stir 237 = .ok (.iaload, 1) := by decide +kernel
theorem dL_stir_238 : decode cL_stir 238 = .ok (.iload 9, 2) := by decide +kernel
theorem dL_stir_240 : decode cL_stir 240 = .ok (.if_icmp .eq 44, 3) := by decide +kernel
theorem dL_stir_243 : decode cL_stir 243 = .ok (.aload_n 2, 1) := by decide +kernel
theorem dL_stir_244 : decode cL_stir 244 = .ok (.iconst 2, 1) := by decide +kernel
theorem dL_stir_245 : decode cL_stir 245 = .ok (.iload 8, 2) := by decide +kernel
theorem dL_stir_247 : decode cL_stir 247 = .ok (.iadd, 1) := by decide +kernel
theorem dL_stir_248 : decode cL_stir 248 = .ok (.iaload, 1) := by decide +kernel
theorem dL_stir_249 : decode cL_stir 249 = .ok (.istore 11, 2) := by decide +kernel
theorem dL_stir_251 : decode cL_stir 251 = .ok (.aload_n 2, 1) := by decide +kernel
theorem dL_stir_252 : decode cL_stir 252 = .ok (.iconst 2, 1) := by decide +kernel
theorem dL_stir_253 : decode cL_stir 253 = .ok (.iload 8, 2) := by decide +kernel
theorem dL_stir_255 : decode cL_stir 255 = .ok (.iadd, 1) := by decide +kernel
theorem dL_stir_256 : decode cL_stir 256 = .ok (.iload 9, 2) := by decide +kernel
theorem dL_stir_258 : decode cL_stir 258 = .ok (.iastore, 1) := by decide +kernel
theorem dL_stir_259 : decode cL_stir 259 = .ok (.iload 5, 2) := by decide +kernel
theorem dL_stir_261 : decode cL_stir 261 = .ok (.ifCond .eq 20, 3) := by decide +kernel
theorem dL_stir_264 : decode cL_stir 264 = .ok (.aload_n 0, 1) := by decide +kernel
theorem dL_stir_265 : decode cL_stir 265 = .ok (.iload 8, 2) := by decide +kernel
theorem dL_stir_267 : decode cL_stir 267 = .ok (.iload 9, 2) := by decide +kernel
theorem dL_stir_269 : decode cL_stir 269 = .ok (.invokevirtual 68, 3) := by decide +kernel
theorem dL_stir_272 : decode cL_stir 272 = .ok (.iload 11, 2) := by decide +kernel
theorem dL_stir_274 : decode cL_stir 274 = .ok (.if_icmp .ne 7, 3) := by decide +kernel
theorem dL_stir_277 : decode cL_stir 277 = .ok (.iconst 1, 1) := by decide +kernel
theorem dL_stir_278 : decode cL_stir 278 = .ok (.goto 4, 3) := by decide +kernel
theorem dL_stir_281 : decode cL_stir 281 = .ok (.iconst 0, 1) := by decide +kernel
theorem dL_stir_282 : decode cL_stir 282 = .ok (.istore 5, 2) := by decide +kernel
theorem dL_stir_284 : decode cL_stir 284 = .ok (.iinc 6 1, 3) := by decide +kernel
theorem dL_stir_287 : decode cL_stir 287 = .ok (.goto (-281), 3) := by decide +kernel
theorem dL_stir_290 : decode cL_stir 290 = .ok (.iload 5, 2) := by decide +kernel
theorem dL_stir_292 : decode cL_stir 292 = .ok (.ireturn, 1) := by decide +kernel
theorem dL_told_0 : decode cL_told 0 = .ok (.aload_n 0, 1) := by decide +kernel
theorem dL_told_1 : decode cL_told 1 = .ok (.iload_n 1, 1) := by decide +kernel
theorem dL_told_2 : decode cL_told 2 = .ok (.iload_n 2, 1) := by decide +kernel
theorem dL_told_3 : decode cL_told 3 = .ok (.invokevirtual 71, 3) := by decide +kernel
theorem dL_told_6 : decode cL_told 6 = .ok (.iconst 1, 1) := by decide +kernel
theorem dL_told_7 : decode cL_told 7 = .ok (.if_icmp .ne 10, 3) := by decide +kernel
theorem dL_told_10 : decode cL_told 10 = .ok (.aload_n 0, 1) := by decide +kernel
theorem dL_told_11 : decode cL_told 11 = .ok (.invokevirtual 74, 3) := by decide +kernel
theorem dL_told_14 : decode cL_told 14 = .ok (.goto 5, 3) := by decide +kernel
theorem dL_told_17 : decode cL_told 17 = .ok (.bipush (-99), 2) := by decide +kernel
theorem dL_told_19 : decode cL_told 19 = .ok (.ireturn, 1) := by decide +kernel
theorem mt_X1_door : (Cond.instanceMethod yX1_door ∈ gd_tbl ∧ Cond.selects yX1_door.cls yX1_door yX1_door ∈ gd_tbl) ∧ Cond.initialized yX1_door.cls ∈ gd_tbl ∧ Cond.code yX1_door cX1_door 4 (some .int) ∈ gd_tbl := ⟨⟨in_gd (i := 560) (by decide +kernel) rfl, in_gd (i := 561) (by decide +kernel) rfl⟩, in_gd (i := 36) (by decide +kernel) rfl, in_gd (i := 562) (by decide +kernel) rfl⟩
theorem yo_X1_door : yOk yX1_door 2 := ⟨by decide, by decide, by decide +kernel⟩
theorem l_L_68 : mlV RL 68 yX1_door cX1_door 4 (some .int) := ⟨in_gd (i := 559) (by decide +kernel) rfl, mt_X1_door⟩
theorem mt_X1_shame : (Cond.instanceMethod yX1_shame ∈ gd_tbl ∧ Cond.selects yX1_shame.cls yX1_shame yX1_shame ∈ gd_tbl) ∧ Cond.initialized yX1_shame.cls ∈ gd_tbl ∧ Cond.code yX1_shame cX1_shame 3 (some .int) ∈ gd_tbl := ⟨⟨in_gd (i := 299) (by decide +kernel) rfl, in_gd (i := 300) (by decide +kernel) rfl⟩, in_gd (i := 36) (by decide +kernel) rfl, in_gd (i := 301) (by decide +kernel) rfl⟩
theorem yo_X1_shame : yOk yX1_shame 2 := ⟨by decide, by decide, by decide +kernel⟩
theorem l_L_65 : mlV RL 65 yX1_shame cX1_shame 3 (some .int) := ⟨in_gd (i := 298) (by decide +kernel) rfl, mt_X1_shame⟩
theorem mt_X1_raise : (Cond.instanceMethod yX1_raise ∈ gd_tbl ∧ Cond.selects yX1_raise.cls yX1_raise yX1_raise ∈ gd_tbl) ∧ Cond.initialized yX1_raise.cls ∈ gd_tbl ∧ Cond.code yX1_raise cX1_raise 3 (some .int) ∈ gd_tbl := ⟨⟨in_gd (i := 294) (by decide +kernel) rfl, in_gd (i := 295) (by decide +kernel) rfl⟩, in_gd (i := 36) (by decide +kernel) rfl, in_gd (i := 296) (by decide +kernel) rfl⟩
theorem yo_X1_raise : yOk yX1_raise 2 := ⟨by decide, by decide, by decide +kernel⟩
theorem l_L_62 : mlV RL 62 yX1_raise cX1_raise 3 (some .int) := ⟨in_gd (i := 293) (by decide +kernel) rfl, mt_X1_raise⟩
theorem mt_L_night : Cond.static yL_night ∈ gd_tbl ∧ Cond.initialized yL_night.cls ∈ gd_tbl ∧ Cond.code yL_night cL_night 5 (some .int) ∈ gd_tbl := ⟨in_gd (i := 542) (by decide +kernel) rfl, in_gd (i := 35) (by decide +kernel) rfl, in_gd (i := 543) (by decide +kernel) rfl⟩
theorem yo_L_night : yOk yL_night 2 := ⟨by decide, by decide, by decide +kernel⟩
theorem l_L_55 : mlS RL 55 yL_night cL_night 5 (some .int) := ⟨in_gd (i := 541) (by decide +kernel) rfl, mt_L_night⟩
theorem mt_X1_night : (Cond.instanceMethod yX1_night ∈ gd_tbl ∧ Cond.selects yX1_night.cls yX1_night yX1_night ∈ gd_tbl) ∧ Cond.initialized yX1_night.cls ∈ gd_tbl ∧ Cond.code yX1_night cX1_night 2 (some .int) ∈ gd_tbl := ⟨⟨in_gd (i := 229) (by decide +kernel) rfl, in_gd (i := 230) (by decide +kernel) rfl⟩, in_gd (i := 36) (by decide +kernel) rfl, in_gd (i := 231) (by decide +kernel) rfl⟩
theorem yo_X1_night : yOk yX1_night 0 := ⟨by decide, by decide, by decide +kernel⟩
theorem l_L_59 : mlV RL 59 yX1_night cX1_night 2 (some .int) := ⟨in_gd (i := 228) (by decide +kernel) rfl, mt_X1_night⟩
theorem mt_X1_one : (Cond.instanceMethod yX1_one ∈ gd_tbl ∧ Cond.selects yX1_one.cls yX1_one yX1_one ∈ gd_tbl) ∧ Cond.initialized yX1_one.cls ∈ gd_tbl ∧ Cond.code yX1_one cX1_one 3 (some .int) ∈ gd_tbl := ⟨⟨in_gd (i := 567) (by decide +kernel) rfl, in_gd (i := 568) (by decide +kernel) rfl⟩, in_gd (i := 36) (by decide +kernel) rfl, in_gd (i := 569) (by decide +kernel) rfl⟩
theorem yo_X1_one : yOk yX1_one 2 := ⟨by decide, by decide, by decide +kernel⟩
theorem l_L_71 : mlV RL 71 yX1_one cX1_one 3 (some .int) := ⟨in_gd (i := 566) (by decide +kernel) rfl, mt_X1_one⟩
theorem mt_X1_asked : (Cond.instanceMethod yX1_asked ∈ gd_tbl ∧ Cond.selects yX1_asked.cls yX1_asked yX1_asked ∈ gd_tbl) ∧ Cond.initialized yX1_asked.cls ∈ gd_tbl ∧ Cond.code yX1_asked cX1_asked 1 (some .int) ∈ gd_tbl := ⟨⟨in_gd (i := 464) (by decide +kernel) rfl, in_gd (i := 465) (by decide +kernel) rfl⟩, in_gd (i := 36) (by decide +kernel) rfl, in_gd (i := 466) (by decide +kernel) rfl⟩
theorem yo_X1_asked : yOk yX1_asked 0 := ⟨by decide, by decide, by decide +kernel⟩
theorem l_L_74 : mlV RL 74 yX1_asked cX1_asked 1 (some .int) := ⟨in_gd (i := 463) (by decide +kernel) rfl, mt_X1_asked⟩
def fL_stir_L6 (p5 : Int) (p4 : Int) : Nat → Int → Int → Mem → Option (Int × Mem)
  | 0, _, _, _ => none
  | n4 + 1, x1, x2, μ3 =>
    if p5 ≤ x2 then
      grd (x1 = 0 ∨ x1 = 1) <|
      some (x1, μ3)
    else
      mlet ((w32 ((bshr p4 (w32 (3 * x2))) + (w32 (7 * x2))))) fun x5 =>
      (fL_low (bshr x5 3) (μ3 60 0) μ3).bind fun x6 =>
      (fL_low (bshr x5 6) 9 μ3).bind fun x7 =>
      mlet ((w32 (1 + x7))) fun x8 =>
      mlet ((band x5 7)) fun x9 =>
      mlet (fun (x10 : Int) (μ11 : Mem) =>
        mlet (w32 (x2 + 1)) fun x13 =>
        fL_stir_L6 p5 p4 n4 x10 x13 μ11
        ) fun (K12 : Int → Mem → Option (Int × Mem)) =>
      if 3 ≤ x9 then
        mlet (
          mlet (
            if x9 ≤ 5 then
              K12 x1 μ3
            else
              grd (0 ≤ (w32 (2 + x6)) ∧ (w32 (2 + x6)) < 20) <|
              if (μ3 61 ((w32 (2 + x6))).toNat) = x8 then
                K12 x1 μ3
              else
                grd (0 ≤ (w32 (2 + x6)) ∧ (w32 (2 + x6)) < 20) <|
                mlet ((μ3 61 ((w32 (2 + x6))).toNat)) fun x16 =>
                grd (0 ≤ (w32 (2 + x6)) ∧ (w32 (2 + x6)) < 20) <|
                mlet (wr μ3 61 ((w32 (2 + x6))).toNat x8) fun μ17 =>
                mlet (fun (x18 : Int) (μ19 : Mem) =>
                  K12 x18 μ19
                  ) fun (K20 : Int → Mem → Option (Int × Mem)) =>
                mlet (fun (μ21 : Mem) =>
                  K20 0 μ21
                  ) fun (K22 : Mem → Option (Int × Mem)) =>
                if x1 = 0 then
                  K22 μ17
                else
                  bnd2 (fX1_door x6 x8 μ17) fun x23 μ24 =>
                  if ¬ x23 = x16 then
                    K22 μ24
                  else
                    K20 1 μ24
            : Option (Int × Mem)) fun (K15 : Option (Int × Mem)) =>
          if ¬ x9 = 5 then
            K15
          else
            grd (0 ≤ (w32 (8 + x6)) ∧ (w32 (8 + x6)) < 20) <|
            if (μ3 61 ((w32 (8 + x6))).toNat) < x8 then
              K15
            else
              grd (0 ≤ (w32 (8 + x6)) ∧ (w32 (8 + x6)) < 20) <|
              grd (0 ≤ (w32 (8 + x6)) ∧ (w32 (8 + x6)) < 20) <|
              mlet (wr μ3 61 ((w32 (8 + x6))).toNat (w32 ((μ3 61 ((w32 (8 + x6))).toNat) - x8))) fun μ29 =>
              mlet (fun (x30 : Int) (μ31 : Mem) =>
                K12 x30 μ31
                ) fun (K32 : Int → Mem → Option (Int × Mem)) =>
              mlet (fun (μ33 : Mem) =>
                K32 0 μ33
                ) fun (K34 : Mem → Option (Int × Mem)) =>
              if x1 = 0 then
                K34 μ29
              else
                bnd2 (fX1_shame x6 x8 μ29) fun x35 μ36 =>
                grd (0 ≤ (w32 (8 + x6)) ∧ (w32 (8 + x6)) < 20) <|
                if ¬ x35 = (μ36 61 ((w32 (8 + x6))).toNat) then
                  K34 μ36
                else
                  K32 1 μ36
          : Option (Int × Mem)) fun (K14 : Option (Int × Mem)) =>
        if 5 ≤ x9 then
          K14
        else
          grd (0 ≤ (w32 (8 + x6)) ∧ (w32 (8 + x6)) < 20) <|
          if 21 ≤ (w32 ((μ3 61 ((w32 (8 + x6))).toNat) + x8)) then
            K14
          else
            grd (0 ≤ (w32 (8 + x6)) ∧ (w32 (8 + x6)) < 20) <|
            grd (0 ≤ (w32 (8 + x6)) ∧ (w32 (8 + x6)) < 20) <|
            mlet (wr μ3 61 ((w32 (8 + x6))).toNat (w32 ((μ3 61 ((w32 (8 + x6))).toNat) + x8))) fun μ41 =>
            mlet (fun (x42 : Int) (μ43 : Mem) =>
              K12 x42 μ43
              ) fun (K44 : Int → Mem → Option (Int × Mem)) =>
            mlet (fun (μ45 : Mem) =>
              K44 0 μ45
              ) fun (K46 : Mem → Option (Int × Mem)) =>
            if x1 = 0 then
              K46 μ41
            else
              bnd2 (fX1_raise x6 x8 μ41) fun x47 μ48 =>
              grd (0 ≤ (w32 (8 + x6)) ∧ (w32 (8 + x6)) < 20) <|
              if ¬ x47 = (μ48 61 ((w32 (8 + x6))).toNat) then
                K46 μ48
              else
                K44 1 μ48
      else
        bnd2 (fL_night μ3) fun x53 μ54 =>
        mlet (fun (x55 : Int) (μ56 : Mem) =>
          K12 x55 μ56
          ) fun (K57 : Int → Mem → Option (Int × Mem)) =>
        mlet (fun (μ58 : Mem) =>
          K57 0 μ58
          ) fun (K59 : Mem → Option (Int × Mem)) =>
        if x1 = 0 then
          K59 μ54
        else
          bnd2 (fX1_night μ54) fun x60 μ61 =>
          if ¬ x60 = x53 then
            K59 μ61
          else
            K57 1 μ61
def fL_stir (p4 : Int) (p5 : Int) (μ : Mem) : Option (Int × Mem) :=
  fL_stir_L6 p5 p4 fuel 1 0 μ
theorem K_L_stir {σ : Scr}  (p4 : Int) (p5 : Int)  (μ : Mem) : Con σ yL_stir cL_stir 12 (some .boolean) 10 [.inr (.inr 0), .inr (.inr 60), .inr (.inr 61), .inl p4, .inl p5] μ (fL_stir p4 p5 μ) wI := by
  refine con_of (own := RL) (by decide) rfl (Nat.le_of_ble_eq_true rfl) ?_
  show Sim σ cL_stir 12 RL (10) (some .boolean) wI 0 [(0, .inr (.inr 0)), (1, .inr (.inr 60)), (2, .inr (.inr 61)), (3, .inl p4), (4, .inl p5)] [] μ (fL_stir p4 p5 μ)
  unfold fL_stir
  refine S_iconst dL_stir_0 rfl ?_
  refine S_istore (lv' := [(5, .inl 1), (0, .inr (.inr 0)), (1, .inr (.inr 60)), (2, .inr (.inr 61)), (3, .inl p4), (4, .inl p5)]) dL_stir_1 rfl rfl ?_
  refine S_iconst dL_stir_3 rfl ?_
  refine S_istore (lv' := [(6, .inl 0), (5, .inl 1), (0, .inr (.inr 0)), (1, .inr (.inr 60)), (2, .inr (.inr 61)), (3, .inl p4), (4, .inl p5)]) dL_stir_4 rfl rfl ?_
  have hL6 : ∀ (n4 : Nat) (x1 : Int) (x2 : Int) (μ3 : Mem), Sim σ cL_stir 12 RL (10) (some .boolean) wI 6 [(0, .inr (.inr 0)), (1, .inr (.inr 60)), (2, .inr (.inr 61)), (3, .inl p4), (4, .inl p5), (5, .inl x1), (6, .inl x2)] [] μ3 (fL_stir_L6 p5 p4 n4 x1 x2 μ3) := by
    intro n4
    induction n4 with
    | zero =>
      intro x1 x2 μ3
      exact S_none rfl
    | succ n4 ih =>
      intro x1 x2 μ3
      rw [fL_stir_L6]
      refine S_iload dL_stir_6 rfl ?_
      refine S_iload dL_stir_8 rfl ?_
      refine S_ic_ge (tgt := 290) dL_stir_10 (by decide) (fun h65 => ?_) (fun h65 => ?_)
      · refine S_iload dL_stir_290 rfl ?_
        refine S_g (fun hz => ?_)
        exact S_zret dL_stir_292 rfl hz rfl
      · refine S_iload_n dL_stir_13 rfl ?_
        refine S_iconst dL_stir_14 rfl ?_
        refine S_iload dL_stir_15 rfl ?_
        refine S_imul dL_stir_17 ?_
        refine S_ishr dL_stir_18 ?_
        refine S_bipush dL_stir_19 rfl (by decide) ?_
        refine S_iload dL_stir_21 rfl ?_
        refine S_imul dL_stir_23 ?_
        refine S_iadd dL_stir_24 ?_
        refine S_let (fun x5 => ?_)
        refine S_istore (lv' := [(7, .inl x5), (0, .inr (.inr 0)), (1, .inr (.inr 60)), (2, .inr (.inr 61)), (3, .inl p4), (4, .inl p5), (5, .inl x1), (6, .inl x2)]) dL_stir_25 rfl rfl ?_
        refine S_iload dL_stir_27 rfl ?_
        refine S_iconst dL_stir_29 rfl ?_
        refine S_ishr dL_stir_30 ?_
        refine S_aload_n dL_stir_31 rfl ?_
        refine S_iconst dL_stir_32 rfl ?_
        refine S_ialdK (k := 0) dL_stir_33 rfl (by decide) (by decide) ?_
        refine S_callS_I dL_stir_34 [.inl (bshr x5 3), .inl (μ3 60 0)] (K_L_low (bshr x5 3) (μ3 60 0) μ3) l_L_15 yo_L_low rfl rfl rfl (fun x6 => ?_)
        refine S_istore (lv' := [(8, .inl x6), (7, .inl x5), (0, .inr (.inr 0)), (1, .inr (.inr 60)), (2, .inr (.inr 61)), (3, .inl p4), (4, .inl p5), (5, .inl x1), (6, .inl x2)]) dL_stir_37 rfl rfl ?_
        refine S_iconst dL_stir_39 rfl ?_
        refine S_iload dL_stir_40 rfl ?_
        refine S_bipush dL_stir_42 rfl (by decide) ?_
        refine S_ishr dL_stir_44 ?_
        refine S_bipush dL_stir_45 rfl (by decide) ?_
        refine S_callS_I dL_stir_47 [.inl (bshr x5 6), .inl 9] (K_L_low (bshr x5 6) 9 μ3) l_L_15 yo_L_low rfl rfl rfl (fun x7 => ?_)
        refine S_iadd dL_stir_50 ?_
        refine S_let (fun x8 => ?_)
        refine S_istore (lv' := [(9, .inl x8), (8, .inl x6), (7, .inl x5), (0, .inr (.inr 0)), (1, .inr (.inr 60)), (2, .inr (.inr 61)), (3, .inl p4), (4, .inl p5), (5, .inl x1), (6, .inl x2)]) dL_stir_51 rfl rfl ?_
        refine S_iload dL_stir_53 rfl ?_
        refine S_bipush dL_stir_55 rfl (by decide) ?_
        refine S_iand dL_stir_57 ?_
        refine S_let (fun x9 => ?_)
        refine S_istore (lv' := [(10, .inl x9), (9, .inl x8), (8, .inl x6), (7, .inl x5), (0, .inr (.inr 0)), (1, .inr (.inr 60)), (2, .inr (.inr 61)), (3, .inl p4), (4, .inl p5), (5, .inl x1), (6, .inl x2)]) dL_stir_58 rfl rfl ?_
        refine S_iload dL_stir_60 rfl ?_
        refine S_iconst dL_stir_62 rfl ?_
        refine S_jn (fun (K12 : Int → Mem → Option (Int × Mem)) => ∀ (x10 : Int) (μ11 : Mem), Sim σ cL_stir 12 RL (10) (some .boolean) wI 284 [(0, .inr (.inr 0)), (1, .inr (.inr 60)), (2, .inr (.inr 61)), (3, .inl p4), (4, .inl p5), (5, .inl x10), (6, .inl x2)] [] μ11 (K12 x10 μ11)) ?_ (fun K12 hK12 => ?_)
        · intro x10 μ11
          refine S_iinc (lv' := fun x13 => [(6, .inl x13), (0, .inr (.inr 0)), (1, .inr (.inr 60)), (2, .inr (.inr 61)), (3, .inl p4), (4, .inl p5), (5, .inl x10)]) dL_stir_284 rfl rfl rfl (fun _ => rfl) (fun x13 => ?_)
          refine S_goto (tgt := 6) dL_stir_287 (by decide) ?_
          exact S_sub [1, 2, 3, 4, 5, 6, 0] rfl (ih x10 x13 μ11)
        refine S_ic_ge (tgt := 97) dL_stir_63 (by decide) (fun h64 => ?_) (fun h64 => ?_)
        · refine S_iload dL_stir_97 rfl ?_
          refine S_iconst dL_stir_99 rfl ?_
          refine S_jn (fun (K14 : Option (Int × Mem)) => Sim σ cL_stir 12 RL (10) (some .boolean) wI 163 [(0, .inr (.inr 0)), (1, .inr (.inr 60)), (2, .inr (.inr 61)), (3, .inl p4), (4, .inl p5), (5, .inl x1), (6, .inl x2), (8, .inl x6), (9, .inl x8), (10, .inl x9)] [] μ3 K14) ?_ (fun K14 hK14 => ?_)
          · skip
            refine S_iload dL_stir_163 rfl ?_
            refine S_iconst dL_stir_165 rfl ?_
            refine S_jn (fun (K15 : Option (Int × Mem)) => Sim σ cL_stir 12 RL (10) (some .boolean) wI 226 [(0, .inr (.inr 0)), (1, .inr (.inr 60)), (2, .inr (.inr 61)), (3, .inl p4), (4, .inl p5), (5, .inl x1), (6, .inl x2), (8, .inl x6), (9, .inl x8), (10, .inl x9)] [] μ3 K15) ?_ (fun K15 hK15 => ?_)
            · skip
              refine S_iload dL_stir_226 rfl ?_
              refine S_iconst dL_stir_228 rfl ?_
              refine S_ic_le (tgt := 284) dL_stir_229 (by decide) (fun h28 => ?_) (fun h28 => ?_)
              · exact S_sub [0, 1, 2, 3, 4, 5, 6] rfl (hK12 x1 μ3)
              · refine S_aload_n dL_stir_232 rfl ?_
                refine S_iconst dL_stir_233 rfl ?_
                refine S_iload dL_stir_234 rfl ?_
                refine S_iadd dL_stir_236 ?_
                refine S_iald (N := 20) dL_stir_237 rfl (by decide) rfl ?_
                refine S_iload dL_stir_238 rfl ?_
                refine S_ic_eq (tgt := 284) dL_stir_240 (by decide) (fun h27 => ?_) (fun h27 => ?_)
                · exact S_sub [0, 1, 2, 3, 4, 5, 6] rfl (hK12 x1 μ3)
                · refine S_aload_n dL_stir_243 rfl ?_
                  refine S_iconst dL_stir_244 rfl ?_
                  refine S_iload dL_stir_245 rfl ?_
                  refine S_iadd dL_stir_247 ?_
                  refine S_iald (N := 20) dL_stir_248 rfl (by decide) rfl ?_
                  refine S_let (fun x16 => ?_)
                  refine S_istore (lv' := [(11, .inl x16), (0, .inr (.inr 0)), (1, .inr (.inr 60)), (2, .inr (.inr 61)), (3, .inl p4), (4, .inl p5), (5, .inl x1), (6, .inl x2), (8, .inl x6), (9, .inl x8), (10, .inl x9)]) dL_stir_249 rfl rfl ?_
                  refine S_aload_n dL_stir_251 rfl ?_
                  refine S_iconst dL_stir_252 rfl ?_
                  refine S_iload dL_stir_253 rfl ?_
                  refine S_iadd dL_stir_255 ?_
                  refine S_iload dL_stir_256 rfl ?_
                  refine S_iast (N := 20) dL_stir_258 rfl (by decide) rfl (fun μ17 => ?_)
                  refine S_iload dL_stir_259 rfl ?_
                  refine S_jn (fun (K20 : Int → Mem → Option (Int × Mem)) => ∀ (x18 : Int) (μ19 : Mem), Sim σ cL_stir 12 RL (10) (some .boolean) wI 282 [(0, .inr (.inr 0)), (1, .inr (.inr 60)), (2, .inr (.inr 61)), (3, .inl p4), (4, .inl p5), (6, .inl x2)] [.inl x18] μ19 (K20 x18 μ19)) ?_ (fun K20 hK20 => ?_)
                  · intro x18 μ19
                    refine S_istore (lv' := [(5, .inl x18), (0, .inr (.inr 0)), (1, .inr (.inr 60)), (2, .inr (.inr 61)), (3, .inl p4), (4, .inl p5), (6, .inl x2)]) dL_stir_282 rfl rfl ?_
                    exact S_sub [1, 2, 3, 4, 5, 0, 6] rfl (hK12 x18 μ19)
                  refine S_jn (fun (K22 : Mem → Option (Int × Mem)) => ∀ (μ21 : Mem), Sim σ cL_stir 12 RL (10) (some .boolean) wI 281 [(0, .inr (.inr 0)), (1, .inr (.inr 60)), (2, .inr (.inr 61)), (3, .inl p4), (4, .inl p5), (6, .inl x2)] [] μ21 (K22 μ21)) ?_ (fun K22 hK22 => ?_)
                  · intro μ21
                    refine S_iconst dL_stir_281 rfl ?_
                    exact S_sub [0, 1, 2, 3, 4, 5] rfl (hK20 0 μ21)
                  refine S_if_eq (tgt := 281) dL_stir_261 (by decide) (fun h26 => ?_) (fun h26 => ?_)
                  · exact S_sub [1, 2, 3, 4, 5, 7] rfl (hK22 μ17)
                  · refine S_aload_n dL_stir_264 rfl ?_
                    refine S_iload dL_stir_265 rfl ?_
                    refine S_iload dL_stir_267 rfl ?_
                    refine S_callV_M2 dL_stir_269 [.inl x6, .inl x8] (K_X1_door x6 x8 μ17) l_L_68 yo_X1_door rfl rfl rfl rfl rfl (fun x23 μ24 => ?_)
                    refine S_iload dL_stir_272 rfl ?_
                    refine S_ic_ne (tgt := 281) dL_stir_274 (by decide) (fun h25 => ?_) (fun h25 => ?_)
                    · exact S_sub [1, 2, 3, 4, 5, 7] rfl (hK22 μ24)
                    · refine S_iconst dL_stir_277 rfl ?_
                      refine S_goto (tgt := 282) dL_stir_278 (by decide) ?_
                      exact S_sub [1, 2, 3, 4, 5, 7] rfl (hK20 1 μ24)
            refine S_ic_ne (tgt := 226) dL_stir_166 (by decide) (fun h40 => ?_) (fun h40 => ?_)
            · exact S_sub [0, 1, 2, 3, 4, 5, 6, 7, 8, 9] rfl (hK15)
            · refine S_aload_n dL_stir_169 rfl ?_
              refine S_bipush dL_stir_170 rfl (by decide) ?_
              refine S_iload dL_stir_172 rfl ?_
              refine S_iadd dL_stir_174 ?_
              refine S_iald (N := 20) dL_stir_175 rfl (by decide) rfl ?_
              refine S_iload dL_stir_176 rfl ?_
              refine S_ic_lt (tgt := 226) dL_stir_178 (by decide) (fun h39 => ?_) (fun h39 => ?_)
              · exact S_sub [0, 1, 2, 3, 4, 5, 6, 7, 8, 9] rfl (hK15)
              · refine S_aload_n dL_stir_181 rfl ?_
                refine S_bipush dL_stir_182 rfl (by decide) ?_
                refine S_iload dL_stir_184 rfl ?_
                refine S_iadd dL_stir_186 ?_
                refine S_dup2 dL_stir_187 rfl rfl ?_
                refine S_iald (N := 20) dL_stir_188 rfl (by decide) rfl ?_
                refine S_iload dL_stir_189 rfl ?_
                refine S_isub dL_stir_191 ?_
                refine S_iast (N := 20) dL_stir_192 rfl (by decide) rfl (fun μ29 => ?_)
                refine S_iload dL_stir_193 rfl ?_
                refine S_jn (fun (K32 : Int → Mem → Option (Int × Mem)) => ∀ (x30 : Int) (μ31 : Mem), Sim σ cL_stir 12 RL (10) (some .boolean) wI 221 [(0, .inr (.inr 0)), (1, .inr (.inr 60)), (2, .inr (.inr 61)), (3, .inl p4), (4, .inl p5), (6, .inl x2)] [.inl x30] μ31 (K32 x30 μ31)) ?_ (fun K32 hK32 => ?_)
                · intro x30 μ31
                  refine S_istore (lv' := [(5, .inl x30), (0, .inr (.inr 0)), (1, .inr (.inr 60)), (2, .inr (.inr 61)), (3, .inl p4), (4, .inl p5), (6, .inl x2)]) dL_stir_221 rfl rfl ?_
                  refine S_goto (tgt := 284) dL_stir_223 (by decide) ?_
                  exact S_sub [1, 2, 3, 4, 5, 0, 6] rfl (hK12 x30 μ31)
                refine S_jn (fun (K34 : Mem → Option (Int × Mem)) => ∀ (μ33 : Mem), Sim σ cL_stir 12 RL (10) (some .boolean) wI 220 [(0, .inr (.inr 0)), (1, .inr (.inr 60)), (2, .inr (.inr 61)), (3, .inl p4), (4, .inl p5), (6, .inl x2)] [] μ33 (K34 μ33)) ?_ (fun K34 hK34 => ?_)
                · intro μ33
                  refine S_iconst dL_stir_220 rfl ?_
                  exact S_sub [0, 1, 2, 3, 4, 5] rfl (hK32 0 μ33)
                refine S_if_eq (tgt := 220) dL_stir_195 (by decide) (fun h38 => ?_) (fun h38 => ?_)
                · exact S_sub [0, 1, 2, 3, 4, 6] rfl (hK34 μ29)
                · refine S_aload_n dL_stir_198 rfl ?_
                  refine S_iload dL_stir_199 rfl ?_
                  refine S_iload dL_stir_201 rfl ?_
                  refine S_callV_M2 dL_stir_203 [.inl x6, .inl x8] (K_X1_shame x6 x8 μ29) l_L_65 yo_X1_shame rfl rfl rfl rfl rfl (fun x35 μ36 => ?_)
                  refine S_aload_n dL_stir_206 rfl ?_
                  refine S_bipush dL_stir_207 rfl (by decide) ?_
                  refine S_iload dL_stir_209 rfl ?_
                  refine S_iadd dL_stir_211 ?_
                  refine S_iald (N := 20) dL_stir_212 rfl (by decide) rfl ?_
                  refine S_ic_ne (tgt := 220) dL_stir_213 (by decide) (fun h37 => ?_) (fun h37 => ?_)
                  · exact S_sub [0, 1, 2, 3, 4, 6] rfl (hK34 μ36)
                  · refine S_iconst dL_stir_216 rfl ?_
                    refine S_goto (tgt := 221) dL_stir_217 (by decide) ?_
                    exact S_sub [0, 1, 2, 3, 4, 6] rfl (hK32 1 μ36)
          refine S_ic_ge (tgt := 163) dL_stir_100 (by decide) (fun h52 => ?_) (fun h52 => ?_)
          · exact S_sub [4, 5, 6, 7, 8, 9, 10, 2, 1, 0] rfl (hK14)
          · refine S_aload_n dL_stir_103 rfl ?_
            refine S_bipush dL_stir_104 rfl (by decide) ?_
            refine S_iload dL_stir_106 rfl ?_
            refine S_iadd dL_stir_108 ?_
            refine S_iald (N := 20) dL_stir_109 rfl (by decide) rfl ?_
            refine S_iload dL_stir_110 rfl ?_
            refine S_iadd dL_stir_112 ?_
            refine S_bipush dL_stir_113 rfl (by decide) ?_
            refine S_ic_ge (tgt := 163) dL_stir_115 (by decide) (fun h51 => ?_) (fun h51 => ?_)
            · exact S_sub [4, 5, 6, 7, 8, 9, 10, 2, 1, 0] rfl (hK14)
            · refine S_aload_n dL_stir_118 rfl ?_
              refine S_bipush dL_stir_119 rfl (by decide) ?_
              refine S_iload dL_stir_121 rfl ?_
              refine S_iadd dL_stir_123 ?_
              refine S_dup2 dL_stir_124 rfl rfl ?_
              refine S_iald (N := 20) dL_stir_125 rfl (by decide) rfl ?_
              refine S_iload dL_stir_126 rfl ?_
              refine S_iadd dL_stir_128 ?_
              refine S_iast (N := 20) dL_stir_129 rfl (by decide) rfl (fun μ41 => ?_)
              refine S_iload dL_stir_130 rfl ?_
              refine S_jn (fun (K44 : Int → Mem → Option (Int × Mem)) => ∀ (x42 : Int) (μ43 : Mem), Sim σ cL_stir 12 RL (10) (some .boolean) wI 158 [(0, .inr (.inr 0)), (1, .inr (.inr 60)), (2, .inr (.inr 61)), (3, .inl p4), (4, .inl p5), (6, .inl x2)] [.inl x42] μ43 (K44 x42 μ43)) ?_ (fun K44 hK44 => ?_)
              · intro x42 μ43
                refine S_istore (lv' := [(5, .inl x42), (0, .inr (.inr 0)), (1, .inr (.inr 60)), (2, .inr (.inr 61)), (3, .inl p4), (4, .inl p5), (6, .inl x2)]) dL_stir_158 rfl rfl ?_
                refine S_goto (tgt := 284) dL_stir_160 (by decide) ?_
                exact S_sub [1, 2, 3, 4, 5, 0, 6] rfl (hK12 x42 μ43)
              refine S_jn (fun (K46 : Mem → Option (Int × Mem)) => ∀ (μ45 : Mem), Sim σ cL_stir 12 RL (10) (some .boolean) wI 157 [(0, .inr (.inr 0)), (1, .inr (.inr 60)), (2, .inr (.inr 61)), (3, .inl p4), (4, .inl p5), (6, .inl x2)] [] μ45 (K46 μ45)) ?_ (fun K46 hK46 => ?_)
              · intro μ45
                refine S_iconst dL_stir_157 rfl ?_
                exact S_sub [0, 1, 2, 3, 4, 5] rfl (hK44 0 μ45)
              refine S_if_eq (tgt := 157) dL_stir_132 (by decide) (fun h50 => ?_) (fun h50 => ?_)
              · exact S_sub [4, 5, 6, 7, 8, 10] rfl (hK46 μ41)
              · refine S_aload_n dL_stir_135 rfl ?_
                refine S_iload dL_stir_136 rfl ?_
                refine S_iload dL_stir_138 rfl ?_
                refine S_callV_M2 dL_stir_140 [.inl x6, .inl x8] (K_X1_raise x6 x8 μ41) l_L_62 yo_X1_raise rfl rfl rfl rfl rfl (fun x47 μ48 => ?_)
                refine S_aload_n dL_stir_143 rfl ?_
                refine S_bipush dL_stir_144 rfl (by decide) ?_
                refine S_iload dL_stir_146 rfl ?_
                refine S_iadd dL_stir_148 ?_
                refine S_iald (N := 20) dL_stir_149 rfl (by decide) rfl ?_
                refine S_ic_ne (tgt := 157) dL_stir_150 (by decide) (fun h49 => ?_) (fun h49 => ?_)
                · exact S_sub [4, 5, 6, 7, 8, 10] rfl (hK46 μ48)
                · refine S_iconst dL_stir_153 rfl ?_
                  refine S_goto (tgt := 158) dL_stir_154 (by decide) ?_
                  exact S_sub [4, 5, 6, 7, 8, 10] rfl (hK44 1 μ48)
        · refine S_aload_n dL_stir_66 rfl ?_
          refine S_aload_n dL_stir_67 rfl ?_
          refine S_callS_M2 dL_stir_68 [.inr (.inr 60), .inr (.inr 61)] (K_L_night μ3) l_L_55 yo_L_night rfl rfl rfl (fun x53 μ54 => ?_)
          refine S_istore (lv' := [(11, .inl x53), (10, .inl x9), (9, .inl x8), (8, .inl x6), (7, .inl x5), (0, .inr (.inr 0)), (1, .inr (.inr 60)), (2, .inr (.inr 61)), (3, .inl p4), (4, .inl p5), (5, .inl x1), (6, .inl x2)]) dL_stir_71 rfl rfl ?_
          refine S_iload dL_stir_73 rfl ?_
          refine S_jn (fun (K57 : Int → Mem → Option (Int × Mem)) => ∀ (x55 : Int) (μ56 : Mem), Sim σ cL_stir 12 RL (10) (some .boolean) wI 92 [(0, .inr (.inr 0)), (1, .inr (.inr 60)), (2, .inr (.inr 61)), (3, .inl p4), (4, .inl p5), (6, .inl x2)] [.inl x55] μ56 (K57 x55 μ56)) ?_ (fun K57 hK57 => ?_)
          · intro x55 μ56
            refine S_istore (lv' := [(5, .inl x55), (0, .inr (.inr 0)), (1, .inr (.inr 60)), (2, .inr (.inr 61)), (3, .inl p4), (4, .inl p5), (6, .inl x2)]) dL_stir_92 rfl rfl ?_
            refine S_goto (tgt := 284) dL_stir_94 (by decide) ?_
            exact S_sub [1, 2, 3, 4, 5, 0, 6] rfl (hK12 x55 μ56)
          refine S_jn (fun (K59 : Mem → Option (Int × Mem)) => ∀ (μ58 : Mem), Sim σ cL_stir 12 RL (10) (some .boolean) wI 91 [(0, .inr (.inr 0)), (1, .inr (.inr 60)), (2, .inr (.inr 61)), (3, .inl p4), (4, .inl p5), (6, .inl x2)] [] μ58 (K59 μ58)) ?_ (fun K59 hK59 => ?_)
          · intro μ58
            refine S_iconst dL_stir_91 rfl ?_
            exact S_sub [0, 1, 2, 3, 4, 5] rfl (hK57 0 μ58)
          refine S_if_eq (tgt := 91) dL_stir_75 (by decide) (fun h63 => ?_) (fun h63 => ?_)
          · exact S_sub [5, 6, 7, 8, 9, 11] rfl (hK59 μ54)
          · refine S_aload_n dL_stir_78 rfl ?_
            refine S_callV_M2 dL_stir_79 [] (K_X1_night μ54) l_L_59 yo_X1_night rfl rfl rfl rfl rfl (fun x60 μ61 => ?_)
            refine S_iload dL_stir_82 rfl ?_
            refine S_ic_ne (tgt := 91) dL_stir_84 (by decide) (fun h62 => ?_) (fun h62 => ?_)
            · exact S_sub [5, 6, 7, 8, 9, 11] rfl (hK59 μ61)
            · refine S_iconst dL_stir_87 rfl ?_
              refine S_goto (tgt := 92) dL_stir_88 (by decide) ?_
              exact S_sub [5, 6, 7, 8, 9, 11] rfl (hK57 1 μ61)
  exact S_sub [2, 3, 4, 5, 6, 1, 0] rfl (hL6 fuel 1 0 μ)
def fL_told (p2 : Int) (p3 : Int) (μ : Mem) : Option (Int × Mem) :=
  bnd2 (fX1_one p2 p3 μ) fun x1 μ2 =>
  if ¬ x1 = 1 then
    some ((-99), μ2)
  else
    (fX1_asked μ2).bind fun x3 =>
    some (x3, μ2)
theorem K_L_told {σ : Scr}  (p2 : Int) (p3 : Int)  (μ : Mem) : Con σ yL_told cL_told 3 (some .int) 7 [.inr (.inr 0), .inl p2, .inl p3] μ (fL_told p2 p3 μ) wI := by
  refine con_of (own := RL) (by decide) rfl (Nat.le_of_ble_eq_true rfl) ?_
  show Sim σ cL_told 3 RL (7) (some .int) wI 0 [(0, .inr (.inr 0)), (1, .inl p2), (2, .inl p3)] [] μ (fL_told p2 p3 μ)
  unfold fL_told
  refine S_aload_n dL_told_0 rfl ?_
  refine S_iload_n dL_told_1 rfl ?_
  refine S_iload_n dL_told_2 rfl ?_
  refine S_callV_M2 dL_told_3 [.inl p2, .inl p3] (K_X1_one p2 p3 μ) l_L_71 yo_X1_one rfl rfl rfl rfl rfl (fun x1 μ2 => ?_)
  refine S_iconst dL_told_6 rfl ?_
  refine S_ic_ne (tgt := 17) dL_told_7 (by decide) (fun h4 => ?_) (fun h4 => ?_)
  · refine S_bipush dL_told_17 rfl (by decide) ?_
    exact S_iret dL_told_19 rfl rfl
  · refine S_aload_n dL_told_10 rfl ?_
    refine S_callV_I dL_told_11 [] (K_X1_asked μ2) l_L_74 yo_X1_asked rfl rfl rfl rfl rfl (fun x3 => ?_)
    refine S_goto (tgt := 19) dL_told_14 (by decide) ?_
    exact S_iret dL_told_19 rfl rfl
