theorem dL_river_0 : decode cL_river 0 = .ok (.aload_n 1, 1) := by decide +kernel
theorem dL_river_1 : decode cL_river 1 = .ok (.iconst 0, 1) := by decide +kernel
theorem dL_river_2 : decode cL_river 2 = .ok (.invokestatic 9, 3) := by decide +kernel
theorem dL_river_5 : decode cL_river 5 = .ok (.istore 4, 2) := by decide +kernel
theorem dL_river_7 : decode cL_river 7 = .ok (.aload_n 2, 1) := by decide +kernel
theorem dL_river_8 : decode cL_river 8 = .ok (.iconst 0, 1) := by decide +kernel
theorem dL_river_9 : decode cL_river 9 = .ok (.iconst 1, 1) := by decide +kernel
theorem dL_river_10 : decode cL_river 10 = .ok (.iload 4, 2) := by decide +kernel
theorem dL_river_12 : decode cL_river 12 = .ok (.bipush 6, 2) := by decide +kernel
theorem dL_river_14 : decode cL_river 14 = .ok (.invokestatic 15, 3) := by decide +kernel
theorem dL_river_17 : decode cL_river 17 = .ok (.iadd, 1) := by decide +kernel
theorem dL_river_18 : decode cL_river 18 = .ok (.iastore, 1) := by decide +kernel
theorem dL_river_19 : decode cL_river 19 = .ok (.iconst 0, 1) := by decide +kernel
theorem dL_river_20 : decode cL_river 20 = .ok (.istore 5, 2) := by decide +kernel
theorem dL_river_22 : decode cL_river 22 = .ok (.iload 5, 2) := by decide +kernel
theorem dL_river_24 : decode cL_river 24 = .ok (.bipush 20, 2) := by decide +kernel
theorem dL_river_26 : decode cL_river 26 = .ok (.if_icmp .ge 14, 3) := by decide +kernel
theorem dL_river_29 : decode cL_river 29 = .ok (.aload_n 3, 1) := by decide +kernel
theorem dL_river_30 : decode cL_river 30 = .ok (.iload 5, 2) := by decide +kernel
theorem dL_river_32 : decode cL_river 32 = .ok (.iconst 0, 1) := by decide +kernel
theorem dL_river_33 : decode cL_river 33 = .ok (.iastore, 1) := by decide +kernel
theorem dL_river_34 : decode cL_river 34 = .ok (.iinc 5 1, 3) := by decide +kernel
theorem dL_river_37 : decode cL_river 37 = .ok (.goto (-15), 3) := by decide +kernel
theorem dL_river_40 : decode cL_river 40 = .ok (.aload_n 3, 1) := by decide +kernel
theorem dL_river_41 : decode cL_river 41 = .ok (.iconst 1, 1) := by decide +kernel
theorem dL_river_42 : decode cL_river 42 = .ok (.iload 4, 2) := by decide +kernel
theorem dL_river_44 : decode cL_river 44 = .ok (.iconst 3, 1) := by decide +kernel
theorem dL_river_45 : decode cL_river 45 = .ok (.ishr, 1) := by decide +kernel
theorem dL_river_46 : decode cL_river 46 = .ok (.bipush 10, 2) := by decide +kernel
theorem dL_river_48 : decode cL_river 48 = .ok (.invokestatic 15, 3) := by decide +kernel
theorem dL_river_51 : decode cL_river 51 = .ok (.iastore, 1) := by decide +kernel
theorem dL_river_52 : decode cL_river 52 = .ok (.aload_n 0, 1) := by decide +kernel
theorem dL_river_53 : decode cL_river 53 = .ok (.iconst 0, 1) := by decide +kernel
theorem dL_river_54 : decode cL_river 54 = .ok (.bipush 40, 2) := by decide +kernel
theorem dL_river_56 : decode cL_river 56 = .ok (.invokevirtual 19, 3) := by decide +kernel
theorem dL_river_59 : decode cL_river 59 = .ok (.bipush 40, 2) := by decide +kernel
theorem dL_river_61 : decode cL_river 61 = .ok (.if_icmp .ne 39, 3) := by decide +kernel
theorem dL_river_64 : decode cL_river 64 = .ok (.aload_n 0, 1) := by decide +kernel
theorem dL_river_65 : decode cL_river 65 = .ok (.iconst 0, 1) := by decide +kernel
theorem dL_river_66 : decode cL_river 66 = .ok (.iconst 0, 1) := by decide +kernel
theorem dL_river_67 : decode cL_river 67 = .ok (.bipush 102, 2) := by decide +kernel
theorem dL_river_69 : decode cL_river 69 = .ok (.invokevirtual 24, 3) := by decide +kernel
theorem dL_river_72 : decode cL_river 72 = .ok (.sipush 1032, 3) := by decide +kernel
theorem dL_river_75 : decode cL_river 75 = .ok (.if_icmp .ne 25, 3) := by decide +kernel
theorem dL_river_78 : decode cL_river 78 = .ok (.aload_n 0, 1) := by decide +kernel
theorem dL_river_79 : decode cL_river 79 = .ok (.iconst 0, 1) := by decide +kernel
theorem dL_river_80 : decode cL_river 80 = .ok (.iconst 1, 1) := by decide +kernel
theorem dL_river_81 : decode cL_river 81 = .ok (.bipush 48, 2) := by decide +kernel
theorem dL_river_83 : decode cL_river 83 = .ok (.aload_n 3, 1) := by decide +kernel
theorem dL_river_84 : decode cL_river 84 = .ok (.iconst 1, 1) := by decide +kernel
theorem dL_river_85 : decode cL_river 85 = .ok (.iaload, 1) := by decide +kernel
theorem dL_river_86 : decode cL_river 86 = .ok (.iadd, 1) := by decide +kernel
theorem dL_river_87 : decode cL_river 87 = .ok (.invokevirtual 24, 3) := by decide +kernel
theorem dL_river_90 : decode cL_river 90 = .ok (.sipush 1032, 3) := by decide +kernel
theorem dL_river_93 : decode cL_river 93 = .ok (.if_icmp .ne 7, 3) := by decide +kernel
theorem dL_river_96 : decode cL_river 96 = .ok (.iconst 1, 1) := by decide +kernel
theorem dL_river_97 : decode cL_river 97 = .ok (.goto 4, 3) := by decide +kernel
theorem dL_river_100 : decode cL_river 100 = .ok (.iconst 0, 1) := by decide +kernel
theorem dL_river_101 : decode cL_river 101 = .ok (.istore 5, 2) := by decide +kernel
theorem dL_river_103 : decode cL_river 103 = .ok (.iconst 0, 1) := by decide +kernel
theorem dL_river_104 : decode cL_river 104 = .ok (.istore 6, 2) := by decide +kernel
theorem dL_river_106 : decode cL_river 106 = .ok (.iload 6, 2) := by decide +kernel
theorem dL_river_108 : decode cL_river 108 = .ok (.aload_n 2, 1) := by decide +kernel
theorem dL_river_109 : decode cL_river 109 = .ok (.iconst 0, 1) := by decide +kernel
theorem dL_river_110 : decode cL_river 110 = .ok (.iaload, 1) := by decide +kernel
theorem dL_river_111 : decode cL_river 111 = .ok (.if_icmp .ge 215, 3) := by decide +kernel
theorem dL_river_114 : decode cL_river 114 = .ok (.aload_n 1, 1) := by decide +kernel
theorem dL_river_115 : decode cL_river 115 = .ok (.iconst 1, 1) := by decide +kernel
theorem dL_river_116 : decode cL_river 116 = .ok (.iload 6, 2) := by decide +kernel
theorem dL_river_118 : decode cL_river 118 = .ok (.iadd, 1) := by decide +kernel
theorem dL_river_119 : decode cL_river 119 = .ok (.invokestatic 9, 3) := by decide +kernel
theorem dL_river_122 : decode cL_river 122 = .ok (.istore 7, 2) := by decide +kernel
theorem dL_river_124 : decode cL_river 124 = .ok (.iconst 3, 1) := by decide +kernel
theorem dL_river_125 : decode cL_river 125 = .ok (.iconst 5, 1) := by decide +kernel
theorem dL_river_126 : decode cL_river 126 = .ok (.iload 6, 2) := by decide +kernel
theorem dL_river_128 : decode cL_river 128 = .ok (.imul, 1) := by decide +kernel
theorem dL_river_129 : decode cL_river 129 = .ok (.iadd, 1) := by decide +kernel
theorem dL_river_130 : decode cL_river 130 = .ok (.istore 8, 2) := by decide +kernel
theorem dL_river_132 : decode cL_river 132 = .ok (.aload_n 2, 1) := by decide +kernel
theorem dL_river_133 : decode cL_river 133 = .ok (.iconst 1, 1) := by decide +kernel
theorem dL_river_134 : decode cL_river 134 = .ok (.iload 6, 2) := by decide +kernel
theorem dL_river_136 : decode cL_river 136 = .ok (.iadd, 1) := by decide +kernel
theorem dL_river_137 : decode cL_river 137 = .ok (.iload 7, 2) := by decide +kernel
theorem dL_river_139 : decode cL_river 139 = .ok (.bipush 6, 2) := by decide +kernel
theorem dL_river_141 : decode cL_river 141 = .ok (.invokestatic 15, 3) := by decide +kernel
theorem dL_river_144 : decode cL_river 144 = .ok (.iastore, 1) := by decide +kernel
theorem dL_river_145 : decode cL_river 145 = .ok (.aload_n 3, 1) := by decide +kernel
theorem dL_river_146 : decode cL_river 146 = .ok (.iconst 2, 1) := by decide +kernel
theorem dL_river_147 : decode cL_river 147 = .ok (.iload 6, 2) := by decide +kernel
theorem dL_river_149 : decode cL_river 149 = .ok (.iadd, 1) := by decide +kernel
theorem dL_river_150 : decode cL_river 150 = .ok (.iload 7, 2) := by decide +kernel
theorem dL_river_152 : decode cL_river 152 = .ok (.iconst 3, 1) := by decide +kernel
theorem dL_river_153 : decode cL_river 153 = .ok (.ishr, 1) := by decide +kernel
theorem dL_river_154 : decode cL_river 154 = .ok (.iload 4, 2) := by decide +kernel
theorem dL_river_156 : decode cL_river 156 = .ok (.bipush 20, 2) := by decide +kernel
theorem dL_river_158 : decode cL_river 158 = .ok (.ishr, 1) := by decide +kernel
theorem dL_river_159 : decode cL_river 159 = .ok (.iconst 1, 1) := by decide +kernel
theorem dL_river_160 : decode cL_river 160 = .ok (.iand, 1) := by decide +kernel
theorem dL_river_161 : decode cL_river 161 = .ok (.ifCond .ne 8, 3) := by decide +kernel
theorem dL_river_164 : decode cL_river 164 = .ok (.bipush 10, 2) := by decide +kernel
theorem dL_river_166 : decode cL_river 166 = .ok (.goto 4, 3) := by decide +kernel
theorem dL_river_169 : decode cL_river 169 = .ok (.iconst 3, 1) := by decide +kernel
theorem dL_river_170 : decode cL_river 170 = .ok (.invokestatic 15, 3) := by decide +kernel
theorem dL_river_173 : decode cL_river 173 = .ok (.iastore, 1) := by decide +kernel
theorem dL_river_174 : decode cL_river 174 = .ok (.aload_n 3, 1) := by decide +kernel
theorem dL_river_175 : decode cL_river 175 = .ok (.bipush 8, 2) := by decide +kernel
theorem dL_river_177 : decode cL_river 177 = .ok (.iload 6, 2) := by decide +kernel
theorem dL_river_179 : decode cL_river 179 = .ok (.iadd, 1) := by decide +kernel
theorem dL_river_180 : decode cL_river 180 = .ok (.iload 7, 2) := by decide +kernel
theorem dL_river_182 : decode cL_river 182 = .ok (.bipush 7, 2) := by decide +kernel
theorem dL_river_184 : decode cL_river 184 = .ok (.ishr, 1) := by decide +kernel
theorem dL_river_185 : decode cL_river 185 = .ok (.iload 4, 2) := by decide +kernel
theorem dL_river_187 : decode cL_river 187 = .ok (.bipush 21, 2) := by decide +kernel
theorem dL_river_189 : decode cL_river 189 = .ok (.ishr, 1) := by decide +kernel
theorem dL_river_190 : decode cL_river 190 = .ok (.iconst 1, 1) := by decide +kernel
theorem dL_river_191 : decode cL_river 191 = .ok (.iand, 1) := by decide +kernel
theorem dL_river_192 : decode cL_river 192 = .ok (.ifCond .ne 8, 3) := by decide +kernel
theorem dL_river_195 : decode cL_river 195 = .ok (.bipush 21, 2) := by decide +kernel
theorem dL_river_197 : decode cL_river 197 = .ok (.goto 5, 3) := by decide +kernel
theorem dL_river_200 : decode cL_river 200 = .ok (.bipush 8, 2) := by decide +kernel
theorem dL_river_202 : decode cL_river 202 = .ok (.invokestatic 15, 3) := by decide +kernel
theorem dL_river_205 : decode cL_river 205 = .ok (.iastore, 1) := by decide +kernel
theorem dL_river_206 : decode cL_river 206 = .ok (.iload 5, 2) := by decide +kernel
theorem dL_river_208 : decode cL_river 208 = .ok (.ifCond .eq 109, 3) := by decide +kernel
theorem dL_river_211 : decode cL_river 211 = .ok (.aload_n 0, 1) := by decide +kernel
theorem dL_river_212 : decode cL_river 212 = .ok (.iconst 0, 1) := by decide +kernel
theorem dL_river_213 : decode cL_river 213 = .ok (.iload 8, 2) := by decide +kernel
theorem dL_river_215 : decode cL_river 215 = .ok (.aload_n 2, 1) := by decide +kernel
theorem dL_river_216 : decode cL_river 216 = .ok (.iconst 1, 1) := by decide +kernel
theorem dL_river_217 : decode cL_river 217 = .ok (.iload 6, 2) := by decide +kernel
theorem dL_river_219 : decode cL_river 219 = .ok (.iadd, 1) := by decide +kernel
theorem dL_river_220 : decode cL_river 220 = .ok (.iaload, 1) := by decide +kernel
theorem dL_river_221 : decode cL_river 221 = .ok (.invokestatic 28, 3) := by decide +kernel
theorem dL_river_224 : decode cL_river 224 = .ok (.invokevirtual 24, 3) := by decide +kernel
theorem dL_river_227 : decode cL_river 227 = .ok (.sipush 1032, 3) := by decide +kernel
theorem dL_river_230 : decode cL_river 230 = .ok (.if_icmp .ne 87, 3) := by decide +kernel
theorem dL_river_233 : decode cL_river 233 = .ok (.aload_n 0, 1) := by decide +kernel
theorem dL_river_234 : decode cL_river 234 = .ok (.iconst 0, 1) := by decide +kernel
theorem dL_river_235 : decode cL_river 235 = .ok (.iload 8, 2) := by decide +kernel
theorem dL_river_237 : decode cL_river 237 = .ok (.iconst 1, 1) := by decide +kernel
theorem dL_river_238 : decode cL_river 238 = .ok (.iadd, 1) := by decide +kernel
theorem dL_river_239 : decode cL_river 239 = .ok (.bipush 48, 2) := by decide +kernel
theorem dL_river_241 : decode cL_river 241 = .ok (.aload_n 3, 1) := by decide +kernel
theorem dL_river_242 : decode cL_river 242 = .ok (.iconst 2, 1) := by decide +kernel
theorem dL_river_243 : decode cL_river 243 = .ok (.iload 6, 2) := by decide +kernel
theorem dL_river_245 : decode cL_river 245 = .ok (.iadd, 1) := by decide +kernel
theorem dL_river_246 : decode cL_river 246 = .ok (.iaload, 1) := by decide +kernel
theorem dL_river_247 : decode cL_river 247 = .ok (.iadd, 1) := by decide +kernel
theorem dL_river_248 : decode cL_river 248 = .ok (.invokevirtual 24, 3) := by decide +kernel
theorem dL_river_251 : decode cL_river 251 = .ok (.sipush 1032, 3) := by decide +kernel
theorem dL_river_254 : decode cL_river 254 = .ok (.if_icmp .ne 63, 3) := by decide +kernel
theorem dL_river_257 : decode cL_river 257 = .ok (.aload_n 0, 1) := by decide +kernel
theorem dL_river_258 : decode cL_river 258 = .ok (.iconst 0, 1) := by decide +kernel
theorem dL_river_259 : decode cL_river 259 = .ok (.iload 8, 2) := by decide +kernel
theorem dL_river_261 : decode cL_river 261 = .ok (.iconst 2, 1) := by decide +kernel
theorem dL_river_262 : decode cL_river 262 = .ok (.iadd, 1) := by decide +kernel
theorem dL_river_263 : decode cL_river 263 = .ok (.bipush 48, 2) := by decide +kernel
theorem dL_river_265 : decode cL_river 265 = .ok (.aload_n 3, 1) := by decide +kernel
theorem dL_river_266 : decode cL_river 266 = .ok (.bipush 8, 2) := by decide +kernel
theorem dL_river_268 : decode cL_river 268 = .ok (.iload 6, 2) := by decide +kernel
theorem dL_river_270 : decode cL_river 270 = .ok (.iadd, 1) := by decide +kernel
theorem dL_river_271 : decode cL_river 271 = .ok (.iaload, 1) := by decide +kernel
theorem dL_river_272 : decode cL_river 272 = .ok (.bipush 10, 2) := by decide +kernel
theorem dL_river_274 : decode cL_river 274 = .ok (.idiv, 1) := by decide +kernel
theorem dL_river_275 : decode cL_river 275 = .ok (.iadd, 1) := by decide +kernel
theorem dL_river_276 : decode cL_river 276 = .ok (.invokevirtual 24, 3) := by decide +kernel
theorem dL_river_279 : decode cL_river 279 = .ok (.sipush 1032, 3) := by decide +kernel
theorem dL_river_282 : decode cL_river 282 = .ok (.if_icmp .ne 35, 3) := by decide +kernel
theorem dL_river_285 : decode cL_river 285 = .ok (.aload_n 0, 1) := by decide +kernel
theorem dL_river_286 : decode cL_river 286 = .ok (.iconst 0, 1) := by decide +kernel
theorem dL_river_287 : decode cL_river 287 = .ok (.iload 8, 2) := by decide +kernel
theorem dL_river_289 : decode cL_river 289 = .ok (.iconst 3, 1) := by decide +kernel
theorem dL_river_290 : decode cL_river 290 = .ok (.iadd, 1) := by decide +kernel
theorem dL_river_291 : decode cL_river 291 = .ok (.bipush 48, 2) := by decide +kernel
theorem dL_river_293 : decode cL_river 293 = .ok (.aload_n 3, 1) := by decide +kernel
theorem dL_river_294 : decode cL_river 294 = .ok (.bipush 8, 2) := by decide +kernel
theorem dL_river_296 : decode cL_river 296 = .ok (.iload 6, 2) := by decide +kernel
theorem dL_river_298 : decode cL_river 298 = .ok (.iadd, 1) := by decide +kernel
theorem dL_river_299 : decode cL_river 299 = .ok (.iaload, 1) := by decide +kernel
theorem dL_river_300 : decode cL_river 300 = .ok (.bipush 10, 2) := by decide +kernel
theorem dL_river_302 : decode cL_river 302 = .ok (.irem, 1) := by decide +kernel
theorem dL_river_303 : decode cL_river 303 = .ok (.iadd, 1) := by decide +kernel
theorem dL_river_304 : decode cL_river 304 = .ok (.invokevirtual 24, 3) := by decide +kernel
theorem dL_river_307 : decode cL_river 307 = .ok (.sipush 1032, 3) := by decide +kernel
theorem dL_river_310 : decode cL_river 310 = .ok (.if_icmp .ne 7, 3) := by decide +kernel
theorem dL_river_313 : decode cL_river 313 = .ok (.iconst 1, 1) := by decide +kernel
theorem dL_river_314 : decode cL_river 314 = .ok (.goto 4, 3) := by decide +kernel
theorem dL_river_317 : decode cL_river 317 = .ok (.iconst 0, 1) := by decide +kernel
theorem dL_river_318 : decode cL_river 318 = .ok (.istore 5, 2) := by decide +kernel
theorem dL_river_320 : decode cL_river 320 = .ok (.iinc 6 1, 3) := by decide +kernel
theorem dL_river_323 : decode cL_river 323 = .ok (.goto (-217), 3) := by decide +kernel
theorem dL_river_326 : decode cL_river 326 = .ok (.iload 5, 2) := by decide +kernel
theorem dL_river_328 : decode cL_river 328 = .ok (.ifCond .eq 28, 3) := by decide +kernel
theorem dL_river_331 : decode cL_river 331 = .ok (.aload_n 0, 1) := by decide +kernel
theorem dL_river_332 : decode cL_river 332 = .ok (.iconst 0, 1) := by decide +kernel
theorem dL_river_333 : decode cL_river 333 = .ok (.invokevirtual 32, 3) := by decide +kernel
theorem dL_river_336 : decode cL_river 336 = .ok (.bipush (-9), 2) := by decide +kernel
theorem dL_river_338 : decode cL_river 338 = .ok (.if_icmp .ne 18, 3) := by decide +kernel
theorem dL_river_341 : decode cL_river 341 = .ok (.aload_n 0, 1) := by decide +kernel
theorem dL_river_342 : decode cL_river 342 = .ok (.iconst 0, 1) := by decide +kernel
theorem dL_river_343 : decode cL_river 343 = .ok (.invokevirtual 35, 3) := by decide +kernel
theorem dL_river_346 : decode cL_river 346 = .ok (.aload_n 2, 1) := by decide +kernel
theorem dL_river_347 : decode cL_river 347 = .ok (.iconst 0, 1) := by decide +kernel
theorem dL_river_348 : decode cL_river 348 = .ok (.iaload, 1) := by decide +kernel
theorem dL_river_349 : decode cL_river 349 = .ok (.if_icmp .ne 7, 3) := by decide +kernel
theorem dL_river_352 : decode cL_river 352 = .ok (.iconst 1, 1) := by decide +kernel
theorem dL_river_353 : decode cL_river 353 = .ok (.goto 4, 3) := by decide +kernel
theorem dL_river_356 : decode cL_river 356 = .ok (.iconst 0, 1) := by decide +kernel
theorem dL_river_357 : decode cL_river 357 = .ok (.ireturn, 1) := by decide +kernel
theorem dL_far_0 : decode cL_far 0 = .ok (.iload_n 0, 1) := by decide +kernel
theorem dL_far_1 : decode cL_far 1 = .ok (.iload_n 1, 1) := by decide +kernel
theorem dL_far_2 : decode cL_far 2 = .ok (.if_icmp .ge 9, 3) := by decide +kernel
theorem dL_far_5 : decode cL_far 5 = .ok (.iload_n 1, 1) := by decide +kernel
theorem dL_far_6 : decode cL_far 6 = .ok (.iload_n 0, 1) := by decide +kernel
theorem dL_far_7 : decode cL_far 7 = .ok (.isub, 1) := by decide +kernel
theorem dL_far_8 : decode cL_far 8 = .ok (.goto 6, 3) := by decide +kernel
theorem dL_far_11 : decode cL_far 11 = .ok (.iload_n 0, 1) := by decide +kernel
theorem dL_far_12 : decode cL_far 12 = .ok (.iload_n 1, 1) := by decide +kernel
theorem dL_far_13 : decode cL_far 13 = .ok (.isub, 1) := by decide +kernel
theorem dL_far_14 : decode cL_far 14 = .ok (.ireturn, 1) := by decide +kernel
theorem dL_dares_0 : decode cL_dares 0 = .ok (.iload_n 1, 1) := by decide +kernel
theorem dL_dares_1 : decode cL_dares 1 = .ok (.iconst 4, 1) := by decide +kernel
theorem dL_dares_2 : decode cL_dares 2 = .ok (.if_icmp .le 7, 3) := by decide +kernel
theorem dL_dares_5 : decode cL_dares 5 = .ok (.iload_n 1, 1) := by decide +kernel
theorem dL_dares_6 : decode cL_dares 6 = .ok (.goto 4, 3) := by decide +kernel
theorem dL_dares_9 : decode cL_dares 9 = .ok (.iconst 0, 1) := by decide +kernel
theorem dL_dares_10 : decode cL_dares 10 = .ok (.istore 4, 2) := by decide +kernel
theorem dL_dares_12 : decode cL_dares 12 = .ok (.iload_n 0, 1) := by decide +kernel
theorem dL_dares_13 : decode cL_dares 13 = .ok (.iconst 1, 1) := by decide +kernel
theorem dL_dares_14 : decode cL_dares 14 = .ok (.if_icmp .ne 13, 3) := by decide +kernel
theorem dL_dares_17 : decode cL_dares 17 = .ok (.iload_n 1, 1) := by decide +kernel
theorem dL_dares_18 : decode cL_dares 18 = .ok (.iconst 2, 1) := by decide +kernel
theorem dL_dares_19 : decode cL_dares 19 = .ok (.iload_n 2, 1) := by decide +kernel
theorem dL_dares_20 : decode cL_dares 20 = .ok (.iconst 1, 1) := by decide +kernel
theorem dL_dares_21 : decode cL_dares 21 = .ok (.iand, 1) := by decide +kernel
theorem dL_dares_22 : decode cL_dares 22 = .ok (.isub, 1) := by decide +kernel
theorem dL_dares_23 : decode cL_dares 23 = .ok (.imul, 1) := by decide +kernel
theorem dL_dares_24 : decode cL_dares 24 = .ok (.goto 58, 3) := by decide +kernel
theorem dL_dares_27 : decode cL_dares 27 = .ok (.iload_n 0, 1) := by decide +kernel
theorem dL_dares_28 : decode cL_dares 28 = .ok (.iconst 2, 1) := by decide +kernel
theorem dL_dares_29 : decode cL_dares 29 = .ok (.if_icmp .ne 8, 3) := by decide +kernel
theorem dL_dares_32 : decode cL_dares 32 = .ok (.iload 4, 2) := by decide +kernel
theorem dL_dares_34 : decode cL_dares 34 = .ok (.goto 48, 3) := by decide +kernel
theorem dL_dares_37 : decode cL_dares 37 = .ok (.iload_n 0, 1) := by decide +kernel
theorem dL_dares_38 : decode cL_dares 38 = .ok (.iconst 4, 1) := by decide +kernel
theorem dL_dares_39 : decode cL_dares 39 = .ok (.if_icmp .ne 18, 3) := by decide +kernel
theorem dL_dares_42 : decode cL_dares 42 = .ok (.iload_n 1, 1) := by decide +kernel
theorem dL_dares_43 : decode cL_dares 43 = .ok (.iload_n 3, 1) := by decide +kernel
theorem dL_dares_44 : decode cL_dares 44 = .ok (.iconst 3, 1) := by decide +kernel
theorem dL_dares_45 : decode cL_dares 45 = .ok (.if_icmp .le 7, 3) := by decide +kernel
theorem dL_dares_48 : decode cL_dares 48 = .ok (.iconst 3, 1) := by decide +kernel
theorem dL_dares_49 : decode cL_dares 49 = .ok (.goto 4, 3) := by decide +kernel
theorem dL_dares_52 : decode cL_dares 52 = .ok (.iload_n 3, 1) := by decide +kernel
theorem dL_dares_53 : decode cL_dares 53 = .ok (.iadd, 1) := by decide +kernel
theorem dL_dares_54 : decode cL_dares 54 = .ok (.goto 28, 3) := by decide +kernel
theorem dL_dares_57 : decode cL_dares 57 = .ok (.iload_n 0, 1) := by decide +kernel
theorem dL_dares_58 : decode cL_dares 58 = .ok (.iconst 5, 1) := by decide +kernel
theorem dL_dares_59 : decode cL_dares 59 = .ok (.if_icmp .ne 22, 3) := by decide +kernel
theorem dL_dares_62 : decode cL_dares 62 = .ok (.iload 4, 2) := by decide +kernel
theorem dL_dares_64 : decode cL_dares 64 = .ok (.bipush 10, 2) := by decide +kernel
theorem dL_dares_66 : decode cL_dares 66 = .ok (.if_icmp .le 7, 3) := by decide +kernel
theorem dL_dares_69 : decode cL_dares 69 = .ok (.iconst 0, 1) := by decide +kernel
theorem dL_dares_70 : decode cL_dares 70 = .ok (.goto 12, 3) := by decide +kernel
theorem dL_dares_73 : decode cL_dares 73 = .ok (.bipush 10, 2) := by decide +kernel
theorem dL_dares_75 : decode cL_dares 75 = .ok (.iload 4, 2) := by decide +kernel
theorem dL_dares_77 : decode cL_dares 77 = .ok (.isub, 1) := by decide +kernel
theorem dL_dares_78 : decode cL_dares 78 = .ok (.goto 4, 3) := by decide +kernel
theorem dL_dares_81 : decode cL_dares 81 = .ok (.iload_n 1, 1) := by decide +kernel
theorem dL_dares_82 : decode cL_dares 82 = .ok (.ireturn, 1) := by decide +kernel
theorem dL_daresNow_0 : decode cL_daresNow 0 = .ok (.aload_n 0, 1) := by decide +kernel
theorem dL_daresNow_1 : decode cL_daresNow 1 = .ok (.iconst 1, 1) := by decide +kernel
theorem dL_daresNow_2 : decode cL_daresNow 2 = .ok (.iload_n 2, 1) := by decide +kernel
theorem dL_daresNow_3 : decode cL_daresNow 3 = .ok (.iadd, 1) := by decide +kernel
theorem dL_daresNow_4 : decode cL_daresNow 4 = .ok (.iaload, 1) := by decide +kernel
theorem dL_daresNow_5 : decode cL_daresNow 5 = .ok (.aload_n 1, 1) := by decide +kernel
theorem dL_daresNow_6 : decode cL_daresNow 6 = .ok (.bipush 8, 2) := by decide +kernel
theorem dL_daresNow_8 : decode cL_daresNow 8 = .ok (.iload_n 2, 1) := by decide +kernel
theorem dL_daresNow_9 : decode cL_daresNow 9 = .ok (.iadd, 1) := by decide +kernel
theorem dL_daresNow_10 : decode cL_daresNow 10 = .ok (.iaload, 1) := by decide +kernel
theorem dL_daresNow_11 : decode cL_daresNow 11 = .ok (.aload_n 1, 1) := by decide +kernel
theorem dL_daresNow_12 : decode cL_daresNow 12 = .ok (.iconst 0, 1) := by decide +kernel
theorem dL_daresNow_13 : decode cL_daresNow 13 = .ok (.iaload, 1) := by decide +kernel
theorem dL_daresNow_14 : decode cL_daresNow 14 = .ok (.aload_n 1, 1) := by decide +kernel
theorem dL_daresNow_15 : decode cL_daresNow 15 = .ok (.iconst 2, 1) := by decide +kernel
theorem dL_daresNow_16 : decode cL_daresNow 16 = .ok (.iload_n 2, 1) := by decide +kernel
theorem dL_daresNow_17 : decode cL_daresNow 17 = .ok (.iadd, 1) := by decide +kernel
theorem dL_daresNow_18 : decode cL_daresNow 18 = .ok (.iaload, 1) := by decide +kernel
theorem dL_daresNow_19 : decode cL_daresNow 19 = .ok (.aload_n 1, 1) := by decide +kernel
theorem dL_daresNow_20 : decode cL_daresNow 20 = .ok (.iconst 1, 1) := by decide +kernel
theorem dL_daresNow_21 : decode cL_daresNow 21 = .ok (.iaload, 1) := by decide +kernel
theorem dL_daresNow_22 : decode cL_daresNow 22 = .ok (.invokestatic 38, 3) := by decide +kernel
theorem dL_daresNow_25 : decode cL_daresNow 25 = .ok (.invokestatic 41, 3) := by decide +kernel
theorem dL_daresNow_28 : decode cL_daresNow 28 = .ok (.ireturn, 1) := by decide +kernel
theorem dL_most_0 : decode cL_most 0 = .ok (.bipush (-9), 2) := by decide +kernel
theorem dL_most_2 : decode cL_most 2 = .ok (.istore_n 3, 1) := by decide +kernel
theorem dL_most_3 : decode cL_most 3 = .ok (.iconst 0, 1) := by decide +kernel
theorem dL_most_4 : decode cL_most 4 = .ok (.istore 4, 2) := by decide +kernel
theorem dL_most_6 : decode cL_most 6 = .ok (.aload_n 0, 1) := by decide +kernel
theorem dL_most_7 : decode cL_most 7 = .ok (.iconst 0, 1) := by decide +kernel
theorem dL_most_8 : decode cL_most 8 = .ok (.iaload, 1) := by decide +kernel
theorem dL_most_9 : decode cL_most 9 = .ok (.iconst 1, 1) := by decide +kernel
theorem dL_most_10 : decode cL_most 10 = .ok (.isub, 1) := by decide +kernel
theorem dL_most_11 : decode cL_most 11 = .ok (.istore 5, 2) := by decide +kernel
theorem dL_most_13 : decode cL_most 13 = .ok (.iload 5, 2) := by decide +kernel
theorem dL_most_15 : decode cL_most 15 = .ok (.ifCond .lt 74, 3) := by decide +kernel
theorem dL_most_18 : decode cL_most 18 = .ok (.iload_n 2, 1) := by decide +kernel
theorem dL_most_19 : decode cL_most 19 = .ok (.iload 5, 2) := by decide +kernel
theorem dL_most_21 : decode cL_most 21 = .ok (.ishr, 1) := by decide +kernel
theorem dL_most_22 : decode cL_most 22 = .ok (.iconst 1, 1) := by decide +kernel
theorem dL_most_23 : decode cL_most 23 = .ok (.iand, 1) := by decide +kernel
theorem dL_most_24 : decode cL_most 24 = .ok (.iconst 1, 1) := by decide +kernel
theorem dL_most_25 : decode cL_most 25 = .ok (.if_icmp .ne 7, 3) := by decide +kernel
theorem dL_most_28 : decode cL_most 28 = .ok (.iconst 0, 1) := by decide +kernel
theorem dL_most_29 : decode cL_most 29 = .ok (.goto 10, 3) := by decide +kernel
theorem dL_most_32 : decode cL_most 32 = .ok (.aload_n 0, 1) := by decide +kernel
theorem dL_most_33 : decode cL_most 33 = .ok (.aload_n 1, 1) := by decide +kernel
theorem dL_most_34 : decode cL_most 34 = .ok (.iload 5, 2) := by decide +kernel
theorem dL_most_36 : decode cL_most 36 = .ok (.invokestatic 45, 3) := by decide +kernel
theorem dL_most_39 : decode cL_most 39 = .ok (.istore 6, 2) := by decide +kernel
theorem dL_most_41 : decode cL_most 41 = .ok (.bipush 10, 2) := by decide +kernel
theorem dL_most_43 : decode cL_most 43 = .ok (.iload 6, 2) := by decide +kernel
theorem dL_most_45 : decode cL_most 45 = .ok (.imul, 1) := by decide +kernel
theorem dL_most_46 : decode cL_most 46 = .ok (.bipush 9, 2) := by decide +kernel
theorem dL_most_48 : decode cL_most 48 = .ok (.iadd, 1) := by decide +kernel
theorem dL_most_49 : decode cL_most 49 = .ok (.aload_n 1, 1) := by decide +kernel
theorem dL_most_50 : decode cL_most 50 = .ok (.iconst 2, 1) := by decide +kernel
theorem dL_most_51 : decode cL_most 51 = .ok (.iload 5, 2) := by decide +kernel
theorem dL_most_53 : decode cL_most 53 = .ok (.iadd, 1) := by decide +kernel
theorem dL_most_54 : decode cL_most 54 = .ok (.iaload, 1) := by decide +kernel
theorem dL_most_55 : decode cL_most 55 = .ok (.aload_n 1, 1) := by decide +kernel
theorem dL_most_56 : decode cL_most 56 = .ok (.iconst 1, 1) := by decide +kernel
theorem dL_most_57 : decode cL_most 57 = .ok (.iaload, 1) := by decide +kernel
theorem dL_most_58 : decode cL_most 58 = .ok (.invokestatic 38, 3) := by decide +kernel
theorem dL_most_61 : decode cL_most 61 = .ok (.isub, 1) := by decide +kernel
theorem dL_most_62 : decode cL_most 62 = .ok (.istore 7, 2) := by decide +kernel
theorem dL_most_64 : decode cL_most 64 = .ok (.iload 6, 2) := by decide +kernel
theorem dL_most_66 : decode cL_most 66 = .ok (.ifCond .le 17, 3) := by decide +kernel
theorem dL_most_69 : decode cL_most 69 = .ok (.iload 7, 2) := by decide +kernel
theorem dL_most_71 : decode cL_most 71 = .ok (.iload 4, 2) := by decide +kernel
theorem dL_most_73 : decode cL_most 73 = .ok (.if_icmp .lt 10, 3) := by decide +kernel
theorem dL_most_76 : decode cL_most 76 = .ok (.iload 5, 2) := by decide +kernel
theorem dL_most_78 : decode cL_most 78 = .ok (.istore_n 3, 1) := by decide +kernel
theorem dL_most_79 : decode cL_most 79 = .ok (.iload 7, 2) := by decide +kernel
theorem dL_most_81 : decode cL_most 81 = .ok (.istore 4, 2) := by decide +kernel
theorem dL_most_83 : decode cL_most 83 = .ok (.iinc 5 (-1), 3) := by decide +kernel
theorem dL_most_86 : decode cL_most 86 = .ok (.goto (-73), 3) := by decide +kernel
theorem dL_most_89 : decode cL_most 89 = .ok (.iload_n 3, 1) := by decide +kernel
theorem dL_most_90 : decode cL_most 90 = .ok (.ireturn, 1) := by decide +kernel
theorem dL_fades_0 : decode cL_fades 0 = .ok (.iload_n 0, 1) := by decide +kernel
theorem dL_fades_1 : decode cL_fades 1 = .ok (.iconst 2, 1) := by decide +kernel
theorem dL_fades_2 : decode cL_fades 2 = .ok (.if_icmp .eq 8, 3) := by decide +kernel
theorem dL_fades_5 : decode cL_fades 5 = .ok (.iload_n 0, 1) := by decide +kernel
theorem dL_fades_6 : decode cL_fades 6 = .ok (.iconst 5, 1) := by decide +kernel
theorem dL_fades_7 : decode cL_fades 7 = .ok (.if_icmp .ne 7, 3) := by decide +kernel
theorem dL_fades_10 : decode cL_fades 10 = .ok (.iconst 2, 1) := by decide +kernel
theorem dL_fades_11 : decode cL_fades 11 = .ok (.goto 18, 3) := by decide +kernel
theorem dL_fades_14 : decode cL_fades 14 = .ok (.iload_n 0, 1) := by decide +kernel
theorem dL_fades_15 : decode cL_fades 15 = .ok (.iconst 3, 1) := by decide +kernel
theorem dL_fades_16 : decode cL_fades 16 = .ok (.if_icmp .eq 8, 3) := by decide +kernel
theorem dL_fades_19 : decode cL_fades 19 = .ok (.iload_n 0, 1) := by decide +kernel
theorem dL_fades_20 : decode cL_fades 20 = .ok (.iconst 4, 1) := by decide +kernel
theorem dL_fades_21 : decode cL_fades 21 = .ok (.if_icmp .ne 7, 3) := by decide +kernel
theorem dL_fades_24 : decode cL_fades 24 = .ok (.iconst 0, 1) := by decide +kernel
theorem dL_fades_25 : decode cL_fades 25 = .ok (.goto 4, 3) := by decide +kernel
theorem dL_fades_28 : decode cL_fades 28 = .ok (.iconst 1, 1) := by decide +kernel
theorem dL_fades_29 : decode cL_fades 29 = .ok (.ireturn, 1) := by decide +kernel
theorem dL_night_0 : decode cL_night 0 = .ok (.aload_n 0, 1) := by decide +kernel
theorem dL_night_1 : decode cL_night 1 = .ok (.aload_n 1, 1) := by decide +kernel
theorem dL_night_2 : decode cL_night 2 = .ok (.iconst 0, 1) := by decide +kernel
theorem dL_night_3 : decode cL_night 3 = .ok (.invokestatic 49, 3) := by decide +kernel
theorem dL_night_6 : decode cL_night 6 = .ok (.istore_n 2, 1) := by decide +kernel
theorem dL_night_7 : decode cL_night 7 = .ok (.aload_n 1, 1) := by decide +kernel
theorem dL_night_8 : decode cL_night 8 = .ok (.iconst 1, 1) := by decide +kernel
theorem dL_night_9 : decode cL_night 9 = .ok (.iload_n 2, 1) := by decide +kernel
theorem dL_night_10 : decode cL_night 10 = .ok (.ifCond .ge 9, 3) := by decide +kernel
theorem dL_night_13 : decode cL_night 13 = .ok (.aload_n 1, 1) := by decide +kernel
theorem dL_night_14 : decode cL_night 14 = .ok (.iconst 1, 1) := by decide +kernel
theorem dL_night_15 : decode cL_night 15 = .ok (.iaload, 1) := by decide +kernel
theorem dL_night_16 : decode cL_night 16 = .ok (.goto 8, 3) := by decide +kernel
theorem dL_night_19 : decode cL_night 19 = .ok (.aload_n 1, 1) := by decide +kernel
theorem dL_night_20 : decode cL_night 20 = .ok (.iconst 2, 1) := by decide +kernel
theorem dL_night_21 : decode cL_night 21 = .ok (.iload_n 2, 1) := by decide +kernel
theorem dL_night_22 : decode cL_night 22 = .ok (.iadd, 1) := by decide +kernel
theorem dL_night_23 : decode cL_night 23 = .ok (.iaload, 1) := by decide +kernel
theorem dL_night_24 : decode cL_night 24 = .ok (.iastore, 1) := by decide +kernel
theorem dL_night_25 : decode cL_night 25 = .ok (.aload_n 1, 1) := by decide +kernel
theorem dL_night_26 : decode cL_night 26 = .ok (.iconst 0, 1) := by decide +kernel
theorem dL_night_27 : decode cL_night 27 = .ok (.dup2, 1) := by decide +kernel
theorem dL_night_28 : decode cL_night 28 = .ok (.iaload, 1) := by decide +kernel
theorem dL_night_29 : decode cL_night 29 = .ok (.iconst 1, 1) := by decide +kernel
theorem dL_night_30 : decode cL_night 30 = .ok (.iadd, 1) := by decide +kernel
theorem dL_night_31 : decode cL_night 31 = .ok (.iastore, 1) := by decide +kernel
theorem dL_night_32 : decode cL_night 32 = .ok (.iconst 0, 1) := by decide +kernel
theorem dL_night_33 : decode cL_night 33 = .ok (.istore_n 3, 1) := by decide +kernel
theorem dL_night_34 : decode cL_night 34 = .ok (.iload_n 3, 1) := by decide +kernel
theorem dL_night_35 : decode cL_night 35 = .ok (.aload_n 0, 1) := by decide +kernel
theorem dL_night_36 : decode cL_night 36 = .ok (.iconst 0, 1) := by decide +kernel
theorem dL_night_37 : decode cL_night 37 = .ok (.iaload, 1) := by decide +kernel
theorem dL_night_38 : decode cL_night 38 = .ok (.if_icmp .ge 77, 3) := by decide +kernel
theorem dL_night_41 : decode cL_night 41 = .ok (.aload_n 1, 1) := by decide +kernel
theorem dL_night_42 : decode cL_night 42 = .ok (.bipush 14, 2) := by decide +kernel
theorem dL_night_44 : decode cL_night 44 = .ok (.iload_n 3, 1) := by decide +kernel
theorem dL_night_45 : decode cL_night 45 = .ok (.iadd, 1) := by decide +kernel
theorem dL_night_46 : decode cL_night 46 = .ok (.dup2, 1) := by decide +kernel
theorem dL_night_47 : decode cL_night 47 = .ok (.iaload, 1) := by decide +kernel
theorem dL_night_48 : decode cL_night 48 = .ok (.iload_n 3, 1) := by decide +kernel
theorem dL_night_49 : decode cL_night 49 = .ok (.iload_n 2, 1) := by decide +kernel
theorem dL_night_50 : decode cL_night 50 = .ok (.if_icmp .ne 7, 3) := by decide +kernel
theorem dL_night_53 : decode cL_night 53 = .ok (.iconst 1, 1) := by decide +kernel
theorem dL_night_54 : decode cL_night 54 = .ok (.goto 4, 3) := by decide +kernel
theorem dL_night_57 : decode cL_night 57 = .ok (.iconst 0, 1) := by decide +kernel
theorem dL_night_58 : decode cL_night 58 = .ok (.iadd, 1) := by decide +kernel
theorem dL_night_59 : decode cL_night 59 = .ok (.iastore, 1) := by decide +kernel
theorem dL_night_60 : decode cL_night 60 = .ok (.iload_n 3, 1) := by decide +kernel
theorem dL_night_61 : decode cL_night 61 = .ok (.iload_n 2, 1) := by decide +kernel
theorem dL_night_62 : decode cL_night 62 = .ok (.if_icmp .ne 7, 3) := by decide +kernel
theorem dL_night_65 : decode cL_night 65 = .ok (.iconst 2, 1) := by decide +kernel
theorem dL_night_66 : decode cL_night 66 = .ok (.goto 11, 3) := by decide +kernel
theorem dL_night_69 : decode cL_night 69 = .ok (.aload_n 0, 1) := by decide +kernel
theorem dL_night_70 : decode cL_night 70 = .ok (.iconst 1, 1) := by decide +kernel
theorem dL_night_71 : decode cL_night 71 = .ok (.iload_n 3, 1) := by decide +kernel
theorem dL_night_72 : decode cL_night 72 = .ok (.iadd, 1) := by decide +kernel
theorem dL_night_73 : decode cL_night 73 = .ok (.iaload, 1) := by decide +kernel
theorem dL_night_74 : decode cL_night 74 = .ok (.invokestatic 52, 3) := by decide +kernel
theorem dL_night_77 : decode cL_night 77 = .ok (.istore 4, 2) := by decide +kernel
theorem dL_night_79 : decode cL_night 79 = .ok (.aload_n 1, 1) := by decide +kernel
theorem dL_night_80 : decode cL_night 80 = .ok (.bipush 8, 2) := by decide +kernel
theorem dL_night_82 : decode cL_night 82 = .ok (.iload_n 3, 1) := by decide +kernel
theorem dL_night_83 : decode cL_night 83 = .ok (.iadd, 1) := by decide +kernel
theorem dL_night_84 : decode cL_night 84 = .ok (.aload_n 1, 1) := by decide +kernel
theorem dL_night_85 : decode cL_night 85 = .ok (.bipush 8, 2) := by decide +kernel
theorem dL_night_87 : decode cL_night 87 = .ok (.iload_n 3, 1) := by decide +kernel
theorem dL_night_88 : decode cL_night 88 = .ok (.iadd, 1) := by decide +kernel
theorem dL_night_89 : decode cL_night 89 = .ok (.iaload, 1) := by decide +kernel
theorem dL_night_90 : decode cL_night 90 = .ok (.iload 4, 2) := by decide +kernel
theorem dL_night_92 : decode cL_night 92 = .ok (.if_icmp .le 15, 3) := by decide +kernel
theorem dL_night_95 : decode cL_night 95 = .ok (.aload_n 1, 1) := by decide +kernel
theorem dL_night_96 : decode cL_night 96 = .ok (.bipush 8, 2) := by decide +kernel
theorem dL_night_98 : decode cL_night 98 = .ok (.iload_n 3, 1) := by decide +kernel
theorem dL_night_99 : decode cL_night 99 = .ok (.iadd, 1) := by decide +kernel
theorem dL_night_100 : decode cL_night 100 = .ok (.iaload, 1) := by decide +kernel
theorem dL_night_101 : decode cL_night 101 = .ok (.iload 4, 2) := by decide +kernel
theorem dL_night_103 : decode cL_night 103 = .ok (.isub, 1) := by decide +kernel
theorem dL_night_104 : decode cL_night 104 = .ok (.goto 4, 3) := by decide +kernel
theorem dL_night_107 : decode cL_night 107 = .ok (.iconst 0, 1) := by decide +kernel
theorem dL_night_108 : decode cL_night 108 = .ok (.iastore, 1) := by decide +kernel
theorem dL_night_109 : decode cL_night 109 = .ok (.iinc 3 1, 3) := by decide +kernel
theorem dL_night_112 : decode cL_night 112 = .ok (.goto (-78), 3) := by decide +kernel
theorem dL_night_115 : decode cL_night 115 = .ok (.iload_n 2, 1) := by decide +kernel
theorem dL_night_116 : decode cL_night 116 = .ok (.ireturn, 1) := by decide +kernel
theorem mt_L_cell : Cond.static yL_cell ∈ gd_tbl ∧ Cond.initialized yL_cell.cls ∈ gd_tbl ∧ Cond.code yL_cell cL_cell 2 (some .int) ∈ gd_tbl := ⟨in_gd (i := 510) (by decide +kernel) rfl, in_gd (i := 35) (by decide +kernel) rfl, in_gd (i := 511) (by decide +kernel) rfl⟩
theorem yo_L_cell : yOk yL_cell 2 := ⟨by decide, by decide, by decide +kernel⟩
theorem l_L_9 : mlS RL 9 yL_cell cL_cell 2 (some .int) := ⟨in_gd (i := 509) (by decide +kernel) rfl, mt_L_cell⟩
theorem mt_L_low : Cond.static yL_low ∈ gd_tbl ∧ Cond.initialized yL_low.cls ∈ gd_tbl ∧ Cond.code yL_low cL_low 2 (some .int) ∈ gd_tbl := ⟨in_gd (i := 514) (by decide +kernel) rfl, in_gd (i := 35) (by decide +kernel) rfl, in_gd (i := 515) (by decide +kernel) rfl⟩
theorem yo_L_low : yOk yL_low 2 := ⟨by decide, by decide, by decide +kernel⟩
theorem l_L_15 : mlS RL 15 yL_low cL_low 2 (some .int) := ⟨in_gd (i := 513) (by decide +kernel) rfl, mt_L_low⟩
theorem mt_X1_text : (Cond.instanceMethod yX1_text ∈ gd_tbl ∧ Cond.selects yX1_text.cls yX1_text yX1_text ∈ gd_tbl) ∧ Cond.initialized yX1_text.cls ∈ gd_tbl ∧ Cond.code yX1_text cX1_text 3 (some .int) ∈ gd_tbl := ⟨⟨in_gd (i := 521) (by decide +kernel) rfl, in_gd (i := 522) (by decide +kernel) rfl⟩, in_gd (i := 36) (by decide +kernel) rfl, in_gd (i := 523) (by decide +kernel) rfl⟩
theorem yo_X1_text : yOk yX1_text 2 := ⟨by decide, by decide, by decide +kernel⟩
theorem l_L_19 : mlV RL 19 yX1_text cX1_text 3 (some .int) := ⟨in_gd (i := 520) (by decide +kernel) rfl, mt_X1_text⟩
theorem mt_X1_fault : (Cond.instanceMethod yX1_fault ∈ gd_tbl ∧ Cond.selects yX1_fault.cls yX1_fault yX1_fault ∈ gd_tbl) ∧ Cond.initialized yX1_fault.cls ∈ gd_tbl ∧ Cond.code yX1_fault cX1_fault 2 (some .int) ∈ gd_tbl := ⟨⟨in_gd (i := 535) (by decide +kernel) rfl, in_gd (i := 536) (by decide +kernel) rfl⟩, in_gd (i := 36) (by decide +kernel) rfl, in_gd (i := 537) (by decide +kernel) rfl⟩
theorem yo_X1_fault : yOk yX1_fault 1 := ⟨by decide, by decide, by decide +kernel⟩
theorem l_L_32 : mlV RL 32 yX1_fault cX1_fault 2 (some .int) := ⟨in_gd (i := 534) (by decide +kernel) rfl, mt_X1_fault⟩
theorem mt_X1_river : (Cond.instanceMethod yX1_river ∈ gd_tbl ∧ Cond.selects yX1_river.cls yX1_river yX1_river ∈ gd_tbl) ∧ Cond.initialized yX1_river.cls ∈ gd_tbl ∧ Cond.code yX1_river cX1_river 2 (some .int) ∈ gd_tbl := ⟨⟨in_gd (i := 190) (by decide +kernel) rfl, in_gd (i := 191) (by decide +kernel) rfl⟩, in_gd (i := 36) (by decide +kernel) rfl, in_gd (i := 192) (by decide +kernel) rfl⟩
theorem yo_X1_river : yOk yX1_river 1 := ⟨by decide, by decide, by decide +kernel⟩
theorem l_L_35 : mlV RL 35 yX1_river cX1_river 2 (some .int) := ⟨in_gd (i := 189) (by decide +kernel) rfl, mt_X1_river⟩
theorem mt_L_letter : Cond.static yL_letter ∈ gd_tbl ∧ Cond.initialized yL_letter.cls ∈ gd_tbl ∧ Cond.code yL_letter cL_letter 1 (some .int) ∈ gd_tbl := ⟨in_gd (i := 532) (by decide +kernel) rfl, in_gd (i := 35) (by decide +kernel) rfl, in_gd (i := 533) (by decide +kernel) rfl⟩
theorem yo_L_letter : yOk yL_letter 1 := ⟨by decide, by decide, by decide +kernel⟩
theorem l_L_28 : mlS RL 28 yL_letter cL_letter 1 (some .int) := ⟨in_gd (i := 531) (by decide +kernel) rfl, mt_L_letter⟩
theorem mt_X1_put : (Cond.instanceMethod yX1_put ∈ gd_tbl ∧ Cond.selects yX1_put.cls yX1_put yX1_put ∈ gd_tbl) ∧ Cond.initialized yX1_put.cls ∈ gd_tbl ∧ Cond.code yX1_put cX1_put 5 (some .int) ∈ gd_tbl := ⟨⟨in_gd (i := 528) (by decide +kernel) rfl, in_gd (i := 529) (by decide +kernel) rfl⟩, in_gd (i := 36) (by decide +kernel) rfl, in_gd (i := 530) (by decide +kernel) rfl⟩
theorem yo_X1_put : yOk yX1_put 3 := ⟨by decide, by decide, by decide +kernel⟩
theorem l_L_24 : mlV RL 24 yX1_put cX1_put 5 (some .int) := ⟨in_gd (i := 527) (by decide +kernel) rfl, mt_X1_put⟩
theorem mt_L_far : Cond.static yL_far ∈ gd_tbl ∧ Cond.initialized yL_far.cls ∈ gd_tbl ∧ Cond.code yL_far cL_far 2 (some .int) ∈ gd_tbl := ⟨in_gd (i := 551) (by decide +kernel) rfl, in_gd (i := 35) (by decide +kernel) rfl, in_gd (i := 552) (by decide +kernel) rfl⟩
theorem yo_L_far : yOk yL_far 2 := ⟨by decide, by decide, by decide +kernel⟩
theorem l_L_38 : mlS RL 38 yL_far cL_far 2 (some .int) := ⟨in_gd (i := 550) (by decide +kernel) rfl, mt_L_far⟩
theorem mt_L_dares : Cond.static yL_dares ∈ gd_tbl ∧ Cond.initialized yL_dares.cls ∈ gd_tbl ∧ Cond.code yL_dares cL_dares 5 (some .int) ∈ gd_tbl := ⟨in_gd (i := 554) (by decide +kernel) rfl, in_gd (i := 35) (by decide +kernel) rfl, in_gd (i := 555) (by decide +kernel) rfl⟩
theorem yo_L_dares : yOk yL_dares 4 := ⟨by decide, by decide, by decide +kernel⟩
theorem l_L_41 : mlS RL 41 yL_dares cL_dares 5 (some .int) := ⟨in_gd (i := 553) (by decide +kernel) rfl, mt_L_dares⟩
theorem mt_L_daresNow : Cond.static yL_daresNow ∈ gd_tbl ∧ Cond.initialized yL_daresNow.cls ∈ gd_tbl ∧ Cond.code yL_daresNow cL_daresNow 3 (some .int) ∈ gd_tbl := ⟨in_gd (i := 548) (by decide +kernel) rfl, in_gd (i := 35) (by decide +kernel) rfl, in_gd (i := 549) (by decide +kernel) rfl⟩
theorem yo_L_daresNow : yOk yL_daresNow 3 := ⟨by decide, by decide, by decide +kernel⟩
theorem l_L_45 : mlS RL 45 yL_daresNow cL_daresNow 3 (some .int) := ⟨in_gd (i := 547) (by decide +kernel) rfl, mt_L_daresNow⟩
theorem mt_L_most : Cond.static yL_most ∈ gd_tbl ∧ Cond.initialized yL_most.cls ∈ gd_tbl ∧ Cond.code yL_most cL_most 8 (some .int) ∈ gd_tbl := ⟨in_gd (i := 545) (by decide +kernel) rfl, in_gd (i := 35) (by decide +kernel) rfl, in_gd (i := 546) (by decide +kernel) rfl⟩
theorem yo_L_most : yOk yL_most 3 := ⟨by decide, by decide, by decide +kernel⟩
theorem l_L_49 : mlS RL 49 yL_most cL_most 8 (some .int) := ⟨in_gd (i := 544) (by decide +kernel) rfl, mt_L_most⟩
theorem mt_L_fades : Cond.static yL_fades ∈ gd_tbl ∧ Cond.initialized yL_fades.cls ∈ gd_tbl ∧ Cond.code yL_fades cL_fades 1 (some .int) ∈ gd_tbl := ⟨in_gd (i := 557) (by decide +kernel) rfl, in_gd (i := 35) (by decide +kernel) rfl, in_gd (i := 558) (by decide +kernel) rfl⟩
theorem yo_L_fades : yOk yL_fades 1 := ⟨by decide, by decide, by decide +kernel⟩
theorem l_L_52 : mlS RL 52 yL_fades cL_fades 1 (some .int) := ⟨in_gd (i := 556) (by decide +kernel) rfl, mt_L_fades⟩
def fL_river_L106 (K15 : Int → Mem → Option (Int × Mem)) (σ : Scr) (x1 : Int) : Nat → Int → Int → Mem → Option (Int × Mem)
  | 0, _, _, _ => none
  | n28 + 1, x25, x26, μ27 =>
    if (μ27 60 0) ≤ x26 then
      K15 x25 μ27
    else
      (fL_cell σ (w32 (1 + x26)) μ27).bind fun x29 =>
      mlet ((w32 (3 + (w32 (5 * x26))))) fun x30 =>
      (fL_low x29 6 μ27).bind fun x31 =>
      grd (0 ≤ (w32 (1 + x26)) ∧ (w32 (1 + x26)) < 7) <|
      mlet (wr μ27 60 ((w32 (1 + x26))).toNat x31) fun μ32 =>
      mlet (fun (x33 : Int) =>
        (fL_low (bshr x29 3) x33 μ32).bind fun x35 =>
        grd (0 ≤ (w32 (2 + x26)) ∧ (w32 (2 + x26)) < 20) <|
        mlet (wr μ32 61 ((w32 (2 + x26))).toNat x35) fun μ36 =>
        mlet (fun (x37 : Int) =>
          (fL_low (bshr x29 7) x37 μ36).bind fun x39 =>
          grd (0 ≤ (w32 (8 + x26)) ∧ (w32 (8 + x26)) < 20) <|
          mlet (wr μ36 61 ((w32 (8 + x26))).toNat x39) fun μ40 =>
          mlet (fun (x41 : Int) (μ42 : Mem) =>
            mlet (w32 (x26 + 1)) fun x44 =>
            fL_river_L106 K15 σ x1 n28 x41 x44 μ42
            ) fun (K43 : Int → Mem → Option (Int × Mem)) =>
          mlet (fun (μ45 : Mem) =>
            K43 0 μ45
            ) fun (K46 : Mem → Option (Int × Mem)) =>
          if x25 = 0 then
            K46 μ40
          else
            grd (0 ≤ (w32 (1 + x26)) ∧ (w32 (1 + x26)) < 7) <|
            (fL_letter (μ40 60 ((w32 (1 + x26))).toNat) μ40).bind fun x47 =>
            bnd2 (fX1_put 0 x30 x47 μ40) fun x48 μ49 =>
            if ¬ x48 = 1032 then
              K46 μ49
            else
              grd (0 ≤ (w32 (2 + x26)) ∧ (w32 (2 + x26)) < 20) <|
              bnd2 (fX1_put 0 (w32 (x30 + 1)) (w32 (48 + (μ49 61 ((w32 (2 + x26))).toNat))) μ49) fun x50 μ51 =>
              if ¬ x50 = 1032 then
                K46 μ51
              else
                grd (0 ≤ (w32 (8 + x26)) ∧ (w32 (8 + x26)) < 20) <|
                bnd2 (fX1_put 0 (w32 (x30 + 2)) (w32 (48 + (w32 ((μ51 61 ((w32 (8 + x26))).toNat).tdiv 10)))) μ51) fun x52 μ53 =>
                if ¬ x52 = 1032 then
                  K46 μ53
                else
                  grd (0 ≤ (w32 (8 + x26)) ∧ (w32 (8 + x26)) < 20) <|
                  bnd2 (fX1_put 0 (w32 (x30 + 3)) (w32 (48 + ((μ53 61 ((w32 (8 + x26))).toNat).tmod 10))) μ53) fun x54 μ55 =>
                  if ¬ x54 = 1032 then
                    K46 μ55
                  else
                    K43 1 μ55
          ) fun (K38 : Int → Option (Int × Mem)) =>
        if ¬ (band (bshr x1 21) 1) = 0 then
          K38 8
        else
          K38 21
        ) fun (K34 : Int → Option (Int × Mem)) =>
      if ¬ (band (bshr x1 20) 1) = 0 then
        K34 3
      else
        K34 10
def fL_river_L22 (K5 : Mem → Option (Int × Mem)) : Nat → Int → Mem → Option (Int × Mem)
  | 0, _, _ => none
  | n75 + 1, x73, μ74 =>
    if 20 ≤ x73 then
      K5 μ74
    else
      grd (0 ≤ x73 ∧ x73 < 20) <|
      mlet (wr μ74 61 (x73).toNat 0) fun μ76 =>
      mlet (w32 (x73 + 1)) fun x77 =>
      fL_river_L22 K5 n75 x77 μ76
def fL_river (σ : Scr) (μ : Mem) : Option (Int × Mem) :=
  (fL_cell σ 0 μ).bind fun x1 =>
  (fL_low x1 6 μ).bind fun x2 =>
  mlet (wr μ 60 0 (w32 (1 + x2))) fun μ3 =>
  mlet (fun (μ4 : Mem) =>
    (fL_low (bshr x1 3) 10 μ4).bind fun x6 =>
    mlet (wr μ4 61 1 x6) fun μ7 =>
    bnd2 (fX1_text 0 40 μ7) fun x8 μ9 =>
    mlet (fun (x10 : Int) (μ11 : Mem) =>
      mlet (fun (x13 : Int) (μ14 : Mem) =>
        mlet (fun (μ16 : Mem) =>
          some (0, μ16)
          ) fun (K17 : Mem → Option (Int × Mem)) =>
        if x13 = 0 then
          K17 μ14
        else
          bnd2 (fX1_fault 0 μ14) fun x18 μ19 =>
          if ¬ x18 = (-9) then
            K17 μ19
          else
            bnd2 (fX1_river 0 μ19) fun x20 μ21 =>
            if ¬ x20 = (μ21 60 0) then
              K17 μ21
            else
              some (1, μ21)
        ) fun (K15 : Int → Mem → Option (Int × Mem)) =>
      fL_river_L106 K15 σ x1 fuel x10 0 μ11
      ) fun (K12 : Int → Mem → Option (Int × Mem)) =>
    mlet (fun (μ64 : Mem) =>
      K12 0 μ64
      ) fun (K65 : Mem → Option (Int × Mem)) =>
    if ¬ x8 = 40 then
      K65 μ9
    else
      bnd2 (fX1_put 0 0 102 μ9) fun x66 μ67 =>
      if ¬ x66 = 1032 then
        K65 μ67
      else
        bnd2 (fX1_put 0 1 (w32 (48 + (μ67 61 1))) μ67) fun x68 μ69 =>
        if ¬ x68 = 1032 then
          K65 μ69
        else
          K12 1 μ69
    ) fun (K5 : Mem → Option (Int × Mem)) =>
  fL_river_L22 K5 fuel 0 μ3
theorem K_L_river {σ : Scr}    (μ : Mem) : Con σ yL_river cL_river 9 (some .boolean) 6 [.inr (.inr 0), .inr (.inr 64), .inr (.inr 60), .inr (.inr 61)] μ (fL_river σ  μ) wI := by
  refine con_of (own := RL) (by decide) rfl (Nat.le_of_ble_eq_true rfl) ?_
  show Sim σ cL_river 9 RL (6) (some .boolean) wI 0 [(0, .inr (.inr 0)), (1, .inr (.inr 64)), (2, .inr (.inr 60)), (3, .inr (.inr 61))] [] μ (fL_river σ  μ)
  unfold fL_river
  refine S_aload_n dL_river_0 rfl ?_
  refine S_iconst dL_river_1 rfl ?_
  refine S_callS_I dL_river_2 [.inr (.inr 64), .inl 0] (K_L_cell 0 μ) l_L_9 yo_L_cell rfl rfl rfl (fun x1 => ?_)
  refine S_istore (lv' := [(4, .inl x1), (0, .inr (.inr 0)), (1, .inr (.inr 64)), (2, .inr (.inr 60)), (3, .inr (.inr 61))]) dL_river_5 rfl rfl ?_
  refine S_aload_n dL_river_7 rfl ?_
  refine S_iconst dL_river_8 rfl ?_
  refine S_iconst dL_river_9 rfl ?_
  refine S_iload dL_river_10 rfl ?_
  refine S_bipush dL_river_12 rfl (by decide) ?_
  refine S_callS_I dL_river_14 [.inl x1, .inl 6] (K_L_low x1 6 μ) l_L_15 yo_L_low rfl rfl rfl (fun x2 => ?_)
  refine S_iadd dL_river_17 ?_
  refine S_iastK (k := 0) dL_river_18 rfl (by decide) (by decide) (fun μ3 => ?_)
  refine S_iconst dL_river_19 rfl ?_
  refine S_istore (lv' := [(5, .inl 0), (4, .inl x1), (0, .inr (.inr 0)), (1, .inr (.inr 64)), (2, .inr (.inr 60)), (3, .inr (.inr 61))]) dL_river_20 rfl rfl ?_
  refine S_jn (fun (K5 : Mem → Option (Int × Mem)) => ∀ (μ4 : Mem), Sim σ cL_river 9 RL (6) (some .boolean) wI 40 [(0, .inr (.inr 0)), (1, .inr (.inr 64)), (2, .inr (.inr 60)), (3, .inr (.inr 61)), (4, .inl x1)] [] μ4 (K5 μ4)) ?_ (fun K5 hK5 => ?_)
  · intro μ4
    refine S_aload_n dL_river_40 rfl ?_
    refine S_iconst dL_river_41 rfl ?_
    refine S_iload dL_river_42 rfl ?_
    refine S_iconst dL_river_44 rfl ?_
    refine S_ishr dL_river_45 ?_
    refine S_bipush dL_river_46 rfl (by decide) ?_
    refine S_callS_I dL_river_48 [.inl (bshr x1 3), .inl 10] (K_L_low (bshr x1 3) 10 μ4) l_L_15 yo_L_low rfl rfl rfl (fun x6 => ?_)
    refine S_iastK (k := 1) dL_river_51 rfl (by decide) (by decide) (fun μ7 => ?_)
    refine S_aload_n dL_river_52 rfl ?_
    refine S_iconst dL_river_53 rfl ?_
    refine S_bipush dL_river_54 rfl (by decide) ?_
    refine S_callV_M2 dL_river_56 [.inl 0, .inl 40] (K_X1_text 0 40 μ7) l_L_19 yo_X1_text rfl rfl rfl rfl rfl (fun x8 μ9 => ?_)
    refine S_bipush dL_river_59 rfl (by decide) ?_
    refine S_jn (fun (K12 : Int → Mem → Option (Int × Mem)) => ∀ (x10 : Int) (μ11 : Mem), Sim σ cL_river 9 RL (6) (some .boolean) wI 101 [(0, .inr (.inr 0)), (1, .inr (.inr 64)), (2, .inr (.inr 60)), (3, .inr (.inr 61)), (4, .inl x1)] [.inl x10] μ11 (K12 x10 μ11)) ?_ (fun K12 hK12 => ?_)
    · intro x10 μ11
      refine S_istore (lv' := [(5, .inl x10), (0, .inr (.inr 0)), (1, .inr (.inr 64)), (2, .inr (.inr 60)), (3, .inr (.inr 61)), (4, .inl x1)]) dL_river_101 rfl rfl ?_
      refine S_iconst dL_river_103 rfl ?_
      refine S_istore (lv' := [(6, .inl 0), (5, .inl x10), (0, .inr (.inr 0)), (1, .inr (.inr 64)), (2, .inr (.inr 60)), (3, .inr (.inr 61)), (4, .inl x1)]) dL_river_104 rfl rfl ?_
      refine S_jn (fun (K15 : Int → Mem → Option (Int × Mem)) => ∀ (x13 : Int) (μ14 : Mem), Sim σ cL_river 9 RL (6) (some .boolean) wI 326 [(0, .inr (.inr 0)), (2, .inr (.inr 60)), (5, .inl x13)] [] μ14 (K15 x13 μ14)) ?_ (fun K15 hK15 => ?_)
      · intro x13 μ14
        refine S_iload dL_river_326 rfl ?_
        refine S_jn (fun (K17 : Mem → Option (Int × Mem)) => ∀ (μ16 : Mem), Sim σ cL_river 9 RL (6) (some .boolean) wI 356 [] [] μ16 (K17 μ16)) ?_ (fun K17 hK17 => ?_)
        · intro μ16
          refine S_iconst dL_river_356 rfl ?_
          exact S_zret dL_river_357 rfl (by decide) rfl
        refine S_if_eq (tgt := 356) dL_river_328 (by decide) (fun h24 => ?_) (fun h24 => ?_)
        · exact S_sub [] rfl (hK17 μ14)
        · refine S_aload_n dL_river_331 rfl ?_
          refine S_iconst dL_river_332 rfl ?_
          refine S_callV_M2 dL_river_333 [.inl 0] (K_X1_fault 0 μ14) l_L_32 yo_X1_fault rfl rfl rfl rfl rfl (fun x18 μ19 => ?_)
          refine S_bipush dL_river_336 rfl (by decide) ?_
          refine S_ic_ne (tgt := 356) dL_river_338 (by decide) (fun h23 => ?_) (fun h23 => ?_)
          · exact S_sub [] rfl (hK17 μ19)
          · refine S_aload_n dL_river_341 rfl ?_
            refine S_iconst dL_river_342 rfl ?_
            refine S_callV_M2 dL_river_343 [.inl 0] (K_X1_river 0 μ19) l_L_35 yo_X1_river rfl rfl rfl rfl rfl (fun x20 μ21 => ?_)
            refine S_aload_n dL_river_346 rfl ?_
            refine S_iconst dL_river_347 rfl ?_
            refine S_ialdK (k := 0) dL_river_348 rfl (by decide) (by decide) ?_
            refine S_ic_ne (tgt := 356) dL_river_349 (by decide) (fun h22 => ?_) (fun h22 => ?_)
            · exact S_sub [] rfl (hK17 μ21)
            · refine S_iconst dL_river_352 rfl ?_
              refine S_goto (tgt := 357) dL_river_353 (by decide) ?_
              exact S_zret dL_river_357 rfl (by decide) rfl
      have hL106 : ∀ (n28 : Nat) (x25 : Int) (x26 : Int) (μ27 : Mem), Sim σ cL_river 9 RL (6) (some .boolean) wI 106 [(0, .inr (.inr 0)), (1, .inr (.inr 64)), (2, .inr (.inr 60)), (3, .inr (.inr 61)), (4, .inl x1), (5, .inl x25), (6, .inl x26)] [] μ27 (fL_river_L106 K15 σ x1 n28 x25 x26 μ27) := by
        intro n28
        induction n28 with
        | zero =>
          intro x25 x26 μ27
          exact S_none rfl
        | succ n28 ih =>
          intro x25 x26 μ27
          rw [fL_river_L106]
          refine S_iload dL_river_106 rfl ?_
          refine S_aload_n dL_river_108 rfl ?_
          refine S_iconst dL_river_109 rfl ?_
          refine S_ialdK (k := 0) dL_river_110 rfl (by decide) (by decide) ?_
          refine S_ic_ge (tgt := 326) dL_river_111 (by decide) (fun h63 => ?_) (fun h63 => ?_)
          · exact S_sub [0, 2, 5] rfl (hK15 x25 μ27)
          · refine S_aload_n dL_river_114 rfl ?_
            refine S_iconst dL_river_115 rfl ?_
            refine S_iload dL_river_116 rfl ?_
            refine S_iadd dL_river_118 ?_
            refine S_callS_I dL_river_119 [.inr (.inr 64), .inl (w32 (1 + x26))] (K_L_cell (w32 (1 + x26)) μ27) l_L_9 yo_L_cell rfl rfl rfl (fun x29 => ?_)
            refine S_istore (lv' := [(7, .inl x29), (0, .inr (.inr 0)), (1, .inr (.inr 64)), (2, .inr (.inr 60)), (3, .inr (.inr 61)), (4, .inl x1), (5, .inl x25), (6, .inl x26)]) dL_river_122 rfl rfl ?_
            refine S_iconst dL_river_124 rfl ?_
            refine S_iconst dL_river_125 rfl ?_
            refine S_iload dL_river_126 rfl ?_
            refine S_imul dL_river_128 ?_
            refine S_iadd dL_river_129 ?_
            refine S_let (fun x30 => ?_)
            refine S_istore (lv' := [(8, .inl x30), (7, .inl x29), (0, .inr (.inr 0)), (1, .inr (.inr 64)), (2, .inr (.inr 60)), (3, .inr (.inr 61)), (4, .inl x1), (5, .inl x25), (6, .inl x26)]) dL_river_130 rfl rfl ?_
            refine S_aload_n dL_river_132 rfl ?_
            refine S_iconst dL_river_133 rfl ?_
            refine S_iload dL_river_134 rfl ?_
            refine S_iadd dL_river_136 ?_
            refine S_iload dL_river_137 rfl ?_
            refine S_bipush dL_river_139 rfl (by decide) ?_
            refine S_callS_I dL_river_141 [.inl x29, .inl 6] (K_L_low x29 6 μ27) l_L_15 yo_L_low rfl rfl rfl (fun x31 => ?_)
            refine S_iast (N := 7) dL_river_144 rfl (by decide) rfl (fun μ32 => ?_)
            refine S_aload_n dL_river_145 rfl ?_
            refine S_iconst dL_river_146 rfl ?_
            refine S_iload dL_river_147 rfl ?_
            refine S_iadd dL_river_149 ?_
            refine S_iload dL_river_150 rfl ?_
            refine S_iconst dL_river_152 rfl ?_
            refine S_ishr dL_river_153 ?_
            refine S_iload dL_river_154 rfl ?_
            refine S_bipush dL_river_156 rfl (by decide) ?_
            refine S_ishr dL_river_158 ?_
            refine S_iconst dL_river_159 rfl ?_
            refine S_iand dL_river_160 ?_
            refine S_jn (fun (K34 : Int → Option (Int × Mem)) => ∀ (x33 : Int), Sim σ cL_river 9 RL (6) (some .boolean) wI 170 [(0, .inr (.inr 0)), (1, .inr (.inr 64)), (2, .inr (.inr 60)), (3, .inr (.inr 61)), (4, .inl x1), (5, .inl x25), (6, .inl x26), (7, .inl x29), (8, .inl x30)] [.inl x33, .inl (bshr x29 3), .inl (w32 (2 + x26)), .inr (.inr 61)] μ32 (K34 x33)) ?_ (fun K34 hK34 => ?_)
            · intro x33
              refine S_callS_I dL_river_170 [.inl (bshr x29 3), .inl x33] (K_L_low (bshr x29 3) x33 μ32) l_L_15 yo_L_low rfl rfl rfl (fun x35 => ?_)
              refine S_iast (N := 20) dL_river_173 rfl (by decide) rfl (fun μ36 => ?_)
              refine S_aload_n dL_river_174 rfl ?_
              refine S_bipush dL_river_175 rfl (by decide) ?_
              refine S_iload dL_river_177 rfl ?_
              refine S_iadd dL_river_179 ?_
              refine S_iload dL_river_180 rfl ?_
              refine S_bipush dL_river_182 rfl (by decide) ?_
              refine S_ishr dL_river_184 ?_
              refine S_iload dL_river_185 rfl ?_
              refine S_bipush dL_river_187 rfl (by decide) ?_
              refine S_ishr dL_river_189 ?_
              refine S_iconst dL_river_190 rfl ?_
              refine S_iand dL_river_191 ?_
              refine S_jn (fun (K38 : Int → Option (Int × Mem)) => ∀ (x37 : Int), Sim σ cL_river 9 RL (6) (some .boolean) wI 202 [(0, .inr (.inr 0)), (1, .inr (.inr 64)), (2, .inr (.inr 60)), (3, .inr (.inr 61)), (4, .inl x1), (5, .inl x25), (6, .inl x26), (8, .inl x30)] [.inl x37, .inl (bshr x29 7), .inl (w32 (8 + x26)), .inr (.inr 61)] μ36 (K38 x37)) ?_ (fun K38 hK38 => ?_)
              · intro x37
                refine S_callS_I dL_river_202 [.inl (bshr x29 7), .inl x37] (K_L_low (bshr x29 7) x37 μ36) l_L_15 yo_L_low rfl rfl rfl (fun x39 => ?_)
                refine S_iast (N := 20) dL_river_205 rfl (by decide) rfl (fun μ40 => ?_)
                refine S_iload dL_river_206 rfl ?_
                refine S_jn (fun (K43 : Int → Mem → Option (Int × Mem)) => ∀ (x41 : Int) (μ42 : Mem), Sim σ cL_river 9 RL (6) (some .boolean) wI 318 [(0, .inr (.inr 0)), (1, .inr (.inr 64)), (2, .inr (.inr 60)), (3, .inr (.inr 61)), (4, .inl x1), (6, .inl x26)] [.inl x41] μ42 (K43 x41 μ42)) ?_ (fun K43 hK43 => ?_)
                · intro x41 μ42
                  refine S_istore (lv' := [(5, .inl x41), (0, .inr (.inr 0)), (1, .inr (.inr 64)), (2, .inr (.inr 60)), (3, .inr (.inr 61)), (4, .inl x1), (6, .inl x26)]) dL_river_318 rfl rfl ?_
                  refine S_iinc (lv' := fun x44 => [(6, .inl x44), (5, .inl x41), (0, .inr (.inr 0)), (1, .inr (.inr 64)), (2, .inr (.inr 60)), (3, .inr (.inr 61)), (4, .inl x1)]) dL_river_320 rfl rfl rfl (fun _ => rfl) (fun x44 => ?_)
                  refine S_goto (tgt := 106) dL_river_323 (by decide) ?_
                  exact S_sub [2, 3, 4, 5, 6, 1, 0] rfl (ih x41 x44 μ42)
                refine S_jn (fun (K46 : Mem → Option (Int × Mem)) => ∀ (μ45 : Mem), Sim σ cL_river 9 RL (6) (some .boolean) wI 317 [(0, .inr (.inr 0)), (1, .inr (.inr 64)), (2, .inr (.inr 60)), (3, .inr (.inr 61)), (4, .inl x1), (6, .inl x26)] [] μ45 (K46 μ45)) ?_ (fun K46 hK46 => ?_)
                · intro μ45
                  refine S_iconst dL_river_317 rfl ?_
                  exact S_sub [0, 1, 2, 3, 4, 5] rfl (hK43 0 μ45)
                refine S_if_eq (tgt := 317) dL_river_208 (by decide) (fun h60 => ?_) (fun h60 => ?_)
                · exact S_sub [0, 1, 2, 3, 4, 6] rfl (hK46 μ40)
                · refine S_aload_n dL_river_211 rfl ?_
                  refine S_iconst dL_river_212 rfl ?_
                  refine S_iload dL_river_213 rfl ?_
                  refine S_aload_n dL_river_215 rfl ?_
                  refine S_iconst dL_river_216 rfl ?_
                  refine S_iload dL_river_217 rfl ?_
                  refine S_iadd dL_river_219 ?_
                  refine S_iald (N := 7) dL_river_220 rfl (by decide) rfl ?_
                  refine S_callS_I dL_river_221 [.inl (μ40 60 ((w32 (1 + x26))).toNat)] (K_L_letter (μ40 60 ((w32 (1 + x26))).toNat) μ40) l_L_28 yo_L_letter rfl rfl rfl (fun x47 => ?_)
                  refine S_callV_M2 dL_river_224 [.inl 0, .inl x30, .inl x47] (K_X1_put 0 x30 x47 μ40) l_L_24 yo_X1_put rfl rfl rfl rfl rfl (fun x48 μ49 => ?_)
                  refine S_sipush dL_river_227 rfl (by decide) ?_
                  refine S_ic_ne (tgt := 317) dL_river_230 (by decide) (fun h59 => ?_) (fun h59 => ?_)
                  · exact S_sub [0, 1, 2, 3, 4, 6] rfl (hK46 μ49)
                  · refine S_aload_n dL_river_233 rfl ?_
                    refine S_iconst dL_river_234 rfl ?_
                    refine S_iload dL_river_235 rfl ?_
                    refine S_iconst dL_river_237 rfl ?_
                    refine S_iadd dL_river_238 ?_
                    refine S_bipush dL_river_239 rfl (by decide) ?_
                    refine S_aload_n dL_river_241 rfl ?_
                    refine S_iconst dL_river_242 rfl ?_
                    refine S_iload dL_river_243 rfl ?_
                    refine S_iadd dL_river_245 ?_
                    refine S_iald (N := 20) dL_river_246 rfl (by decide) rfl ?_
                    refine S_iadd dL_river_247 ?_
                    refine S_callV_M2 dL_river_248 [.inl 0, .inl (w32 (x30 + 1)), .inl (w32 (48 + (μ49 61 ((w32 (2 + x26))).toNat)))] (K_X1_put 0 (w32 (x30 + 1)) (w32 (48 + (μ49 61 ((w32 (2 + x26))).toNat))) μ49) l_L_24 yo_X1_put rfl rfl rfl rfl rfl (fun x50 μ51 => ?_)
                    refine S_sipush dL_river_251 rfl (by decide) ?_
                    refine S_ic_ne (tgt := 317) dL_river_254 (by decide) (fun h58 => ?_) (fun h58 => ?_)
                    · exact S_sub [0, 1, 2, 3, 4, 6] rfl (hK46 μ51)
                    · refine S_aload_n dL_river_257 rfl ?_
                      refine S_iconst dL_river_258 rfl ?_
                      refine S_iload dL_river_259 rfl ?_
                      refine S_iconst dL_river_261 rfl ?_
                      refine S_iadd dL_river_262 ?_
                      refine S_bipush dL_river_263 rfl (by decide) ?_
                      refine S_aload_n dL_river_265 rfl ?_
                      refine S_bipush dL_river_266 rfl (by decide) ?_
                      refine S_iload dL_river_268 rfl ?_
                      refine S_iadd dL_river_270 ?_
                      refine S_iald (N := 20) dL_river_271 rfl (by decide) rfl ?_
                      refine S_bipush dL_river_272 rfl (by decide) ?_
                      refine S_idivK dL_river_274 (by decide) ?_
                      refine S_iadd dL_river_275 ?_
                      refine S_callV_M2 dL_river_276 [.inl 0, .inl (w32 (x30 + 2)), .inl (w32 (48 + (w32 ((μ51 61 ((w32 (8 + x26))).toNat).tdiv 10))))] (K_X1_put 0 (w32 (x30 + 2)) (w32 (48 + (w32 ((μ51 61 ((w32 (8 + x26))).toNat).tdiv 10)))) μ51) l_L_24 yo_X1_put rfl rfl rfl rfl rfl (fun x52 μ53 => ?_)
                      refine S_sipush dL_river_279 rfl (by decide) ?_
                      refine S_ic_ne (tgt := 317) dL_river_282 (by decide) (fun h57 => ?_) (fun h57 => ?_)
                      · exact S_sub [0, 1, 2, 3, 4, 6] rfl (hK46 μ53)
                      · refine S_aload_n dL_river_285 rfl ?_
                        refine S_iconst dL_river_286 rfl ?_
                        refine S_iload dL_river_287 rfl ?_
                        refine S_iconst dL_river_289 rfl ?_
                        refine S_iadd dL_river_290 ?_
                        refine S_bipush dL_river_291 rfl (by decide) ?_
                        refine S_aload_n dL_river_293 rfl ?_
                        refine S_bipush dL_river_294 rfl (by decide) ?_
                        refine S_iload dL_river_296 rfl ?_
                        refine S_iadd dL_river_298 ?_
                        refine S_iald (N := 20) dL_river_299 rfl (by decide) rfl ?_
                        refine S_bipush dL_river_300 rfl (by decide) ?_
                        refine S_iremK dL_river_302 (by decide) ?_
                        refine S_iadd dL_river_303 ?_
                        refine S_callV_M2 dL_river_304 [.inl 0, .inl (w32 (x30 + 3)), .inl (w32 (48 + ((μ53 61 ((w32 (8 + x26))).toNat).tmod 10)))] (K_X1_put 0 (w32 (x30 + 3)) (w32 (48 + ((μ53 61 ((w32 (8 + x26))).toNat).tmod 10))) μ53) l_L_24 yo_X1_put rfl rfl rfl rfl rfl (fun x54 μ55 => ?_)
                        refine S_sipush dL_river_307 rfl (by decide) ?_
                        refine S_ic_ne (tgt := 317) dL_river_310 (by decide) (fun h56 => ?_) (fun h56 => ?_)
                        · exact S_sub [0, 1, 2, 3, 4, 6] rfl (hK46 μ55)
                        · refine S_iconst dL_river_313 rfl ?_
                          refine S_goto (tgt := 318) dL_river_314 (by decide) ?_
                          exact S_sub [0, 1, 2, 3, 4, 6] rfl (hK43 1 μ55)
              refine S_if_ne (tgt := 200) dL_river_192 (by decide) (fun h61 => ?_) (fun h61 => ?_)
              · refine S_bipush dL_river_200 rfl (by decide) ?_
                exact S_sub [0, 1, 2, 3, 4, 5, 6, 8] rfl (hK38 8)
              · refine S_bipush dL_river_195 rfl (by decide) ?_
                refine S_goto (tgt := 202) dL_river_197 (by decide) ?_
                exact S_sub [0, 1, 2, 3, 4, 5, 6, 8] rfl (hK38 21)
            refine S_if_ne (tgt := 169) dL_river_161 (by decide) (fun h62 => ?_) (fun h62 => ?_)
            · refine S_iconst dL_river_169 rfl ?_
              exact S_sub [2, 3, 4, 5, 6, 7, 8, 1, 0] rfl (hK34 3)
            · refine S_bipush dL_river_164 rfl (by decide) ?_
              refine S_goto (tgt := 170) dL_river_166 (by decide) ?_
              exact S_sub [2, 3, 4, 5, 6, 7, 8, 1, 0] rfl (hK34 10)
      exact S_sub [2, 3, 4, 5, 6, 1, 0] rfl (hL106 fuel x10 0 μ11)
    refine S_jn (fun (K65 : Mem → Option (Int × Mem)) => ∀ (μ64 : Mem), Sim σ cL_river 9 RL (6) (some .boolean) wI 100 [(0, .inr (.inr 0)), (1, .inr (.inr 64)), (2, .inr (.inr 60)), (3, .inr (.inr 61)), (4, .inl x1)] [] μ64 (K65 μ64)) ?_ (fun K65 hK65 => ?_)
    · intro μ64
      refine S_iconst dL_river_100 rfl ?_
      exact S_sub [0, 1, 2, 3, 4] rfl (hK12 0 μ64)
    refine S_ic_ne (tgt := 100) dL_river_61 (by decide) (fun h72 => ?_) (fun h72 => ?_)
    · exact S_sub [0, 1, 2, 3, 4] rfl (hK65 μ9)
    · refine S_aload_n dL_river_64 rfl ?_
      refine S_iconst dL_river_65 rfl ?_
      refine S_iconst dL_river_66 rfl ?_
      refine S_bipush dL_river_67 rfl (by decide) ?_
      refine S_callV_M2 dL_river_69 [.inl 0, .inl 0, .inl 102] (K_X1_put 0 0 102 μ9) l_L_24 yo_X1_put rfl rfl rfl rfl rfl (fun x66 μ67 => ?_)
      refine S_sipush dL_river_72 rfl (by decide) ?_
      refine S_ic_ne (tgt := 100) dL_river_75 (by decide) (fun h71 => ?_) (fun h71 => ?_)
      · exact S_sub [0, 1, 2, 3, 4] rfl (hK65 μ67)
      · refine S_aload_n dL_river_78 rfl ?_
        refine S_iconst dL_river_79 rfl ?_
        refine S_iconst dL_river_80 rfl ?_
        refine S_bipush dL_river_81 rfl (by decide) ?_
        refine S_aload_n dL_river_83 rfl ?_
        refine S_iconst dL_river_84 rfl ?_
        refine S_ialdK (k := 1) dL_river_85 rfl (by decide) (by decide) ?_
        refine S_iadd dL_river_86 ?_
        refine S_callV_M2 dL_river_87 [.inl 0, .inl 1, .inl (w32 (48 + (μ67 61 1)))] (K_X1_put 0 1 (w32 (48 + (μ67 61 1))) μ67) l_L_24 yo_X1_put rfl rfl rfl rfl rfl (fun x68 μ69 => ?_)
        refine S_sipush dL_river_90 rfl (by decide) ?_
        refine S_ic_ne (tgt := 100) dL_river_93 (by decide) (fun h70 => ?_) (fun h70 => ?_)
        · exact S_sub [0, 1, 2, 3, 4] rfl (hK65 μ69)
        · refine S_iconst dL_river_96 rfl ?_
          refine S_goto (tgt := 101) dL_river_97 (by decide) ?_
          exact S_sub [0, 1, 2, 3, 4] rfl (hK12 1 μ69)
  have hL22 : ∀ (n75 : Nat) (x73 : Int) (μ74 : Mem), Sim σ cL_river 9 RL (6) (some .boolean) wI 22 [(0, .inr (.inr 0)), (1, .inr (.inr 64)), (2, .inr (.inr 60)), (3, .inr (.inr 61)), (4, .inl x1), (5, .inl x73)] [] μ74 (fL_river_L22 K5 n75 x73 μ74) := by
    intro n75
    induction n75 with
    | zero =>
      intro x73 μ74
      exact S_none rfl
    | succ n75 ih =>
      intro x73 μ74
      rw [fL_river_L22]
      refine S_iload dL_river_22 rfl ?_
      refine S_bipush dL_river_24 rfl (by decide) ?_
      refine S_ic_ge (tgt := 40) dL_river_26 (by decide) (fun h78 => ?_) (fun h78 => ?_)
      · exact S_sub [0, 1, 2, 3, 4] rfl (hK5 μ74)
      · refine S_aload_n dL_river_29 rfl ?_
        refine S_iload dL_river_30 rfl ?_
        refine S_iconst dL_river_32 rfl ?_
        refine S_iast (N := 20) dL_river_33 rfl (by decide) rfl (fun μ76 => ?_)
        refine S_iinc (lv' := fun x77 => [(5, .inl x77), (0, .inr (.inr 0)), (1, .inr (.inr 64)), (2, .inr (.inr 60)), (3, .inr (.inr 61)), (4, .inl x1)]) dL_river_34 rfl rfl rfl (fun _ => rfl) (fun x77 => ?_)
        refine S_goto (tgt := 22) dL_river_37 (by decide) ?_
        exact S_sub [1, 2, 3, 4, 5, 0] rfl (ih x77 μ76)
  exact S_sub [2, 3, 4, 5, 1, 0] rfl (hL22 fuel 0 μ3)
def fL_far (p1 : Int) (p2 : Int) (μ : Mem) : Option Int :=
  if p2 ≤ p1 then
    some (w32 (p1 - p2))
  else
    some (w32 (p2 - p1))
theorem K_L_far {σ : Scr}  (p1 : Int) (p2 : Int)  (μ : Mem) : Con σ yL_far cL_far 2 (some .int) 2 [.inl p1, .inl p2] μ (fL_far p1 p2 μ) (rI μ) := by
  refine con_of (own := RL) (by decide) rfl (Nat.le_of_ble_eq_true rfl) ?_
  show Sim σ cL_far 2 RL (2) (some .int) (rI μ) 0 [(0, .inl p1), (1, .inl p2)] [] μ (fL_far p1 p2 μ)
  unfold fL_far
  refine S_iload_n dL_far_0 rfl ?_
  refine S_iload_n dL_far_1 rfl ?_
  refine S_ic_ge (tgt := 11) dL_far_2 (by decide) (fun h1 => ?_) (fun h1 => ?_)
  · refine S_iload_n dL_far_11 rfl ?_
    refine S_iload_n dL_far_12 rfl ?_
    refine S_isub dL_far_13 ?_
    exact S_iret dL_far_14 rfl rfl
  · refine S_iload_n dL_far_5 rfl ?_
    refine S_iload_n dL_far_6 rfl ?_
    refine S_isub dL_far_7 ?_
    refine S_goto (tgt := 14) dL_far_8 (by decide) ?_
    exact S_iret dL_far_14 rfl rfl
def fL_dares (p1 : Int) (p2 : Int) (p3 : Int) (p4 : Int) (μ : Mem) : Option Int :=
  mlet (fun (x1 : Int) =>
    if ¬ p1 = 1 then
      if ¬ p1 = 2 then
        if ¬ p1 = 4 then
          if ¬ p1 = 5 then
            some p2
          else
            if x1 ≤ 10 then
              some (w32 (10 - x1))
            else
              some 0
        else
          mlet (fun (x5 : Int) =>
            some (w32 (p2 + x5))
            ) fun (K6 : Int → Option Int) =>
          if p4 ≤ 3 then
            K6 p4
          else
            K6 3
      else
        some x1
    else
      some (w32 (p2 * (w32 (2 - (band p3 1)))))
    ) fun (K2 : Int → Option Int) =>
  if p2 ≤ 4 then
    K2 0
  else
    K2 p2
theorem K_L_dares {σ : Scr}  (p1 : Int) (p2 : Int) (p3 : Int) (p4 : Int)  (μ : Mem) : Con σ yL_dares cL_dares 5 (some .int) 2 [.inl p1, .inl p2, .inl p3, .inl p4] μ (fL_dares p1 p2 p3 p4 μ) (rI μ) := by
  refine con_of (own := RL) (by decide) rfl (Nat.le_of_ble_eq_true rfl) ?_
  show Sim σ cL_dares 5 RL (2) (some .int) (rI μ) 0 [(0, .inl p1), (1, .inl p2), (2, .inl p3), (3, .inl p4)] [] μ (fL_dares p1 p2 p3 p4 μ)
  unfold fL_dares
  refine S_iload_n dL_dares_0 rfl ?_
  refine S_iconst dL_dares_1 rfl ?_
  refine S_jn (fun (K2 : Int → Option Int) => ∀ (x1 : Int), Sim σ cL_dares 5 RL (2) (some .int) (rI μ) 10 [(0, .inl p1), (1, .inl p2), (2, .inl p3), (3, .inl p4)] [.inl x1] μ (K2 x1)) ?_ (fun K2 hK2 => ?_)
  · intro x1
    refine S_istore (lv' := [(4, .inl x1), (0, .inl p1), (1, .inl p2), (2, .inl p3), (3, .inl p4)]) dL_dares_10 rfl rfl ?_
    refine S_iload_n dL_dares_12 rfl ?_
    refine S_iconst dL_dares_13 rfl ?_
    refine S_ic_ne (tgt := 27) dL_dares_14 (by decide) (fun h10 => ?_) (fun h10 => ?_)
    · refine S_iload_n dL_dares_27 rfl ?_
      refine S_iconst dL_dares_28 rfl ?_
      refine S_ic_ne (tgt := 37) dL_dares_29 (by decide) (fun h9 => ?_) (fun h9 => ?_)
      · refine S_iload_n dL_dares_37 rfl ?_
        refine S_iconst dL_dares_38 rfl ?_
        refine S_ic_ne (tgt := 57) dL_dares_39 (by decide) (fun h8 => ?_) (fun h8 => ?_)
        · refine S_iload_n dL_dares_57 rfl ?_
          refine S_iconst dL_dares_58 rfl ?_
          refine S_ic_ne (tgt := 81) dL_dares_59 (by decide) (fun h4 => ?_) (fun h4 => ?_)
          · refine S_iload_n dL_dares_81 rfl ?_
            exact S_iret dL_dares_82 rfl rfl
          · refine S_iload dL_dares_62 rfl ?_
            refine S_bipush dL_dares_64 rfl (by decide) ?_
            refine S_ic_le (tgt := 73) dL_dares_66 (by decide) (fun h3 => ?_) (fun h3 => ?_)
            · refine S_bipush dL_dares_73 rfl (by decide) ?_
              refine S_iload dL_dares_75 rfl ?_
              refine S_isub dL_dares_77 ?_
              refine S_goto (tgt := 82) dL_dares_78 (by decide) ?_
              exact S_iret dL_dares_82 rfl rfl
            · refine S_iconst dL_dares_69 rfl ?_
              refine S_goto (tgt := 82) dL_dares_70 (by decide) ?_
              exact S_iret dL_dares_82 rfl rfl
        · refine S_iload_n dL_dares_42 rfl ?_
          refine S_iload_n dL_dares_43 rfl ?_
          refine S_iconst dL_dares_44 rfl ?_
          refine S_jn (fun (K6 : Int → Option Int) => ∀ (x5 : Int), Sim σ cL_dares 5 RL (2) (some .int) (rI μ) 53 [] [.inl x5, .inl p2] μ (K6 x5)) ?_ (fun K6 hK6 => ?_)
          · intro x5
            refine S_iadd dL_dares_53 ?_
            refine S_goto (tgt := 82) dL_dares_54 (by decide) ?_
            exact S_iret dL_dares_82 rfl rfl
          refine S_ic_le (tgt := 52) dL_dares_45 (by decide) (fun h7 => ?_) (fun h7 => ?_)
          · refine S_iload_n dL_dares_52 rfl ?_
            exact S_sub [] rfl (hK6 p4)
          · refine S_iconst dL_dares_48 rfl ?_
            refine S_goto (tgt := 53) dL_dares_49 (by decide) ?_
            exact S_sub [] rfl (hK6 3)
      · refine S_iload dL_dares_32 rfl ?_
        refine S_goto (tgt := 82) dL_dares_34 (by decide) ?_
        exact S_iret dL_dares_82 rfl rfl
    · refine S_iload_n dL_dares_17 rfl ?_
      refine S_iconst dL_dares_18 rfl ?_
      refine S_iload_n dL_dares_19 rfl ?_
      refine S_iconst dL_dares_20 rfl ?_
      refine S_iand dL_dares_21 ?_
      refine S_isub dL_dares_22 ?_
      refine S_imul dL_dares_23 ?_
      refine S_goto (tgt := 82) dL_dares_24 (by decide) ?_
      exact S_iret dL_dares_82 rfl rfl
  refine S_ic_le (tgt := 9) dL_dares_2 (by decide) (fun h11 => ?_) (fun h11 => ?_)
  · refine S_iconst dL_dares_9 rfl ?_
    exact S_sub [0, 1, 2, 3] rfl (hK2 0)
  · refine S_iload_n dL_dares_5 rfl ?_
    refine S_goto (tgt := 10) dL_dares_6 (by decide) ?_
    exact S_sub [0, 1, 2, 3] rfl (hK2 p2)
def fL_daresNow (p3 : Int) (μ : Mem) : Option Int :=
  grd (0 ≤ (w32 (1 + p3)) ∧ (w32 (1 + p3)) < 7) <|
  grd (0 ≤ (w32 (8 + p3)) ∧ (w32 (8 + p3)) < 20) <|
  grd (0 ≤ (w32 (2 + p3)) ∧ (w32 (2 + p3)) < 20) <|
  (fL_far (μ 61 ((w32 (2 + p3))).toNat) (μ 61 1) μ).bind fun x1 =>
  (fL_dares (μ 60 ((w32 (1 + p3))).toNat) (μ 61 ((w32 (8 + p3))).toNat) (μ 61 0) x1 μ).bind fun x2 =>
  some x2
theorem K_L_daresNow {σ : Scr}  (p3 : Int)  (μ : Mem) : Con σ yL_daresNow cL_daresNow 3 (some .int) 3 [.inr (.inr 60), .inr (.inr 61), .inl p3] μ (fL_daresNow p3 μ) (rI μ) := by
  refine con_of (own := RL) (by decide) rfl (Nat.le_of_ble_eq_true rfl) ?_
  show Sim σ cL_daresNow 3 RL (3) (some .int) (rI μ) 0 [(0, .inr (.inr 60)), (1, .inr (.inr 61)), (2, .inl p3)] [] μ (fL_daresNow p3 μ)
  unfold fL_daresNow
  refine S_aload_n dL_daresNow_0 rfl ?_
  refine S_iconst dL_daresNow_1 rfl ?_
  refine S_iload_n dL_daresNow_2 rfl ?_
  refine S_iadd dL_daresNow_3 ?_
  refine S_iald (N := 7) dL_daresNow_4 rfl (by decide) rfl ?_
  refine S_aload_n dL_daresNow_5 rfl ?_
  refine S_bipush dL_daresNow_6 rfl (by decide) ?_
  refine S_iload_n dL_daresNow_8 rfl ?_
  refine S_iadd dL_daresNow_9 ?_
  refine S_iald (N := 20) dL_daresNow_10 rfl (by decide) rfl ?_
  refine S_aload_n dL_daresNow_11 rfl ?_
  refine S_iconst dL_daresNow_12 rfl ?_
  refine S_ialdK (k := 0) dL_daresNow_13 rfl (by decide) (by decide) ?_
  refine S_aload_n dL_daresNow_14 rfl ?_
  refine S_iconst dL_daresNow_15 rfl ?_
  refine S_iload_n dL_daresNow_16 rfl ?_
  refine S_iadd dL_daresNow_17 ?_
  refine S_iald (N := 20) dL_daresNow_18 rfl (by decide) rfl ?_
  refine S_aload_n dL_daresNow_19 rfl ?_
  refine S_iconst dL_daresNow_20 rfl ?_
  refine S_ialdK (k := 1) dL_daresNow_21 rfl (by decide) (by decide) ?_
  refine S_callS_I dL_daresNow_22 [.inl (μ 61 ((w32 (2 + p3))).toNat), .inl (μ 61 1)] (K_L_far (μ 61 ((w32 (2 + p3))).toNat) (μ 61 1) μ) l_L_38 yo_L_far rfl rfl rfl (fun x1 => ?_)
  refine S_callS_I dL_daresNow_25 [.inl (μ 60 ((w32 (1 + p3))).toNat), .inl (μ 61 ((w32 (8 + p3))).toNat), .inl (μ 61 0), .inl x1] (K_L_dares (μ 60 ((w32 (1 + p3))).toNat) (μ 61 ((w32 (8 + p3))).toNat) (μ 61 0) x1 μ) l_L_41 yo_L_dares rfl rfl rfl (fun x2 => ?_)
  exact S_iret dL_daresNow_28 rfl rfl
def fL_most_L13 (μ : Mem) (p3 : Int) : Nat → Int → Int → Int → Option Int
  | 0, _, _, _ => none
  | n5 + 1, x2, x3, x4 =>
    if x4 < 0 then
      some x2
    else
      mlet (fun (x6 : Int) =>
        grd (0 ≤ (w32 (2 + x4)) ∧ (w32 (2 + x4)) < 20) <|
        (fL_far (μ 61 ((w32 (2 + x4))).toNat) (μ 61 1) μ).bind fun x8 =>
        mlet ((w32 ((w32 ((w32 (10 * x6)) + 9)) - x8))) fun x9 =>
        mlet (fun (x10 : Int) (x11 : Int) =>
          mlet (w32 (x4 + (-1))) fun x13 =>
          fL_most_L13 μ p3 n5 x10 x11 x13
          ) fun (K12 : Int → Int → Option Int) =>
        if x6 ≤ 0 then
          K12 x2 x3
        else
          if x9 < x3 then
            K12 x2 x3
          else
            K12 x4 x9
        ) fun (K7 : Int → Option Int) =>
      if ¬ (band (bshr p3 x4) 1) = 1 then
        (fL_daresNow x4 μ).bind fun x16 =>
        K7 x16
      else
        K7 0
def fL_most (p3 : Int) (μ : Mem) : Option Int :=
  mlet ((w32 ((μ 60 0) - 1))) fun x1 =>
  fL_most_L13 μ p3 fuel (-9) 0 x1
theorem K_L_most {σ : Scr}  (p3 : Int)  (μ : Mem) : Con σ yL_most cL_most 8 (some .int) 4 [.inr (.inr 60), .inr (.inr 61), .inl p3] μ (fL_most p3 μ) (rI μ) := by
  refine con_of (own := RL) (by decide) rfl (Nat.le_of_ble_eq_true rfl) ?_
  show Sim σ cL_most 8 RL (4) (some .int) (rI μ) 0 [(0, .inr (.inr 60)), (1, .inr (.inr 61)), (2, .inl p3)] [] μ (fL_most p3 μ)
  unfold fL_most
  refine S_bipush dL_most_0 rfl (by decide) ?_
  refine S_istore_n (lv' := [(3, .inl (-9)), (0, .inr (.inr 60)), (1, .inr (.inr 61)), (2, .inl p3)]) dL_most_2 rfl rfl ?_
  refine S_iconst dL_most_3 rfl ?_
  refine S_istore (lv' := [(4, .inl 0), (3, .inl (-9)), (0, .inr (.inr 60)), (1, .inr (.inr 61)), (2, .inl p3)]) dL_most_4 rfl rfl ?_
  refine S_aload_n dL_most_6 rfl ?_
  refine S_iconst dL_most_7 rfl ?_
  refine S_ialdK (k := 0) dL_most_8 rfl (by decide) (by decide) ?_
  refine S_iconst dL_most_9 rfl ?_
  refine S_isub dL_most_10 ?_
  refine S_let (fun x1 => ?_)
  refine S_istore (lv' := [(5, .inl x1), (4, .inl 0), (3, .inl (-9)), (0, .inr (.inr 60)), (1, .inr (.inr 61)), (2, .inl p3)]) dL_most_11 rfl rfl ?_
  have hL13 : ∀ (n5 : Nat) (x2 : Int) (x3 : Int) (x4 : Int), Sim σ cL_most 8 RL (4) (some .int) (rI μ) 13 [(0, .inr (.inr 60)), (1, .inr (.inr 61)), (2, .inl p3), (3, .inl x2), (4, .inl x3), (5, .inl x4)] [] μ (fL_most_L13 μ p3 n5 x2 x3 x4) := by
    intro n5
    induction n5 with
    | zero =>
      intro x2 x3 x4
      exact S_none rfl
    | succ n5 ih =>
      intro x2 x3 x4
      rw [fL_most_L13]
      refine S_iload dL_most_13 rfl ?_
      refine S_if_lt (tgt := 89) dL_most_15 (by decide) (fun h18 => ?_) (fun h18 => ?_)
      · refine S_iload_n dL_most_89 rfl ?_
        exact S_iret dL_most_90 rfl rfl
      · refine S_iload_n dL_most_18 rfl ?_
        refine S_iload dL_most_19 rfl ?_
        refine S_ishr dL_most_21 ?_
        refine S_iconst dL_most_22 rfl ?_
        refine S_iand dL_most_23 ?_
        refine S_iconst dL_most_24 rfl ?_
        refine S_jn (fun (K7 : Int → Option Int) => ∀ (x6 : Int), Sim σ cL_most 8 RL (4) (some .int) (rI μ) 39 [(0, .inr (.inr 60)), (1, .inr (.inr 61)), (2, .inl p3), (3, .inl x2), (4, .inl x3), (5, .inl x4)] [.inl x6] μ (K7 x6)) ?_ (fun K7 hK7 => ?_)
        · intro x6
          refine S_istore (lv' := [(6, .inl x6), (0, .inr (.inr 60)), (1, .inr (.inr 61)), (2, .inl p3), (3, .inl x2), (4, .inl x3), (5, .inl x4)]) dL_most_39 rfl rfl ?_
          refine S_bipush dL_most_41 rfl (by decide) ?_
          refine S_iload dL_most_43 rfl ?_
          refine S_imul dL_most_45 ?_
          refine S_bipush dL_most_46 rfl (by decide) ?_
          refine S_iadd dL_most_48 ?_
          refine S_aload_n dL_most_49 rfl ?_
          refine S_iconst dL_most_50 rfl ?_
          refine S_iload dL_most_51 rfl ?_
          refine S_iadd dL_most_53 ?_
          refine S_iald (N := 20) dL_most_54 rfl (by decide) rfl ?_
          refine S_aload_n dL_most_55 rfl ?_
          refine S_iconst dL_most_56 rfl ?_
          refine S_ialdK (k := 1) dL_most_57 rfl (by decide) (by decide) ?_
          refine S_callS_I dL_most_58 [.inl (μ 61 ((w32 (2 + x4))).toNat), .inl (μ 61 1)] (K_L_far (μ 61 ((w32 (2 + x4))).toNat) (μ 61 1) μ) l_L_38 yo_L_far rfl rfl rfl (fun x8 => ?_)
          refine S_isub dL_most_61 ?_
          refine S_let (fun x9 => ?_)
          refine S_istore (lv' := [(7, .inl x9), (6, .inl x6), (0, .inr (.inr 60)), (1, .inr (.inr 61)), (2, .inl p3), (3, .inl x2), (4, .inl x3), (5, .inl x4)]) dL_most_62 rfl rfl ?_
          refine S_iload dL_most_64 rfl ?_
          refine S_jn (fun (K12 : Int → Int → Option Int) => ∀ (x10 : Int) (x11 : Int), Sim σ cL_most 8 RL (4) (some .int) (rI μ) 83 [(0, .inr (.inr 60)), (1, .inr (.inr 61)), (2, .inl p3), (3, .inl x10), (4, .inl x11), (5, .inl x4)] [] μ (K12 x10 x11)) ?_ (fun K12 hK12 => ?_)
          · intro x10 x11
            refine S_iinc (lv' := fun x13 => [(5, .inl x13), (0, .inr (.inr 60)), (1, .inr (.inr 61)), (2, .inl p3), (3, .inl x10), (4, .inl x11)]) dL_most_83 rfl rfl rfl (fun _ => rfl) (fun x13 => ?_)
            refine S_goto (tgt := 13) dL_most_86 (by decide) ?_
            exact S_sub [1, 2, 3, 4, 5, 0] rfl (ih x10 x11 x13)
          refine S_if_le (tgt := 83) dL_most_66 (by decide) (fun h15 => ?_) (fun h15 => ?_)
          · exact S_sub [2, 3, 4, 5, 6, 7] rfl (hK12 x2 x3)
          · refine S_iload dL_most_69 rfl ?_
            refine S_iload dL_most_71 rfl ?_
            refine S_ic_lt (tgt := 83) dL_most_73 (by decide) (fun h14 => ?_) (fun h14 => ?_)
            · exact S_sub [2, 3, 4, 5, 6, 7] rfl (hK12 x2 x3)
            · refine S_iload dL_most_76 rfl ?_
              refine S_istore_n (lv' := [(3, .inl x4), (7, .inl x9), (6, .inl x6), (0, .inr (.inr 60)), (1, .inr (.inr 61)), (2, .inl p3), (4, .inl x3), (5, .inl x4)]) dL_most_78 rfl rfl ?_
              refine S_iload dL_most_79 rfl ?_
              refine S_istore (lv' := [(4, .inl x9), (3, .inl x4), (7, .inl x9), (6, .inl x6), (0, .inr (.inr 60)), (1, .inr (.inr 61)), (2, .inl p3), (5, .inl x4)]) dL_most_81 rfl rfl ?_
              exact S_sub [4, 5, 6, 1, 0, 7] rfl (hK12 x4 x9)
        refine S_ic_ne (tgt := 32) dL_most_25 (by decide) (fun h17 => ?_) (fun h17 => ?_)
        · refine S_aload_n dL_most_32 rfl ?_
          refine S_aload_n dL_most_33 rfl ?_
          refine S_iload dL_most_34 rfl ?_
          refine S_callS_I dL_most_36 [.inr (.inr 60), .inr (.inr 61), .inl x4] (K_L_daresNow x4 μ) l_L_45 yo_L_daresNow rfl rfl rfl (fun x16 => ?_)
          exact S_sub [0, 1, 2, 3, 4, 5] rfl (hK7 x16)
        · refine S_iconst dL_most_28 rfl ?_
          refine S_goto (tgt := 39) dL_most_29 (by decide) ?_
          exact S_sub [0, 1, 2, 3, 4, 5] rfl (hK7 0)
  exact S_sub [3, 4, 5, 2, 1, 0] rfl (hL13 fuel (-9) 0 x1)
def fL_fades (p1 : Int) (μ : Mem) : Option Int :=
  mlet (
    some 2
    : Option Int) fun (K1 : Option Int) =>
  if p1 = 2 then
    K1
  else
    if ¬ p1 = 5 then
      mlet (
        some 0
        : Option Int) fun (K2 : Option Int) =>
      if p1 = 3 then
        K2
      else
        if ¬ p1 = 4 then
          some 1
        else
          K2
    else
      K1
theorem K_L_fades {σ : Scr}  (p1 : Int)  (μ : Mem) : Con σ yL_fades cL_fades 1 (some .int) 2 [.inl p1] μ (fL_fades p1 μ) (rI μ) := by
  refine con_of (own := RL) (by decide) rfl (Nat.le_of_ble_eq_true rfl) ?_
  show Sim σ cL_fades 1 RL (2) (some .int) (rI μ) 0 [(0, .inl p1)] [] μ (fL_fades p1 μ)
  unfold fL_fades
  refine S_iload_n dL_fades_0 rfl ?_
  refine S_iconst dL_fades_1 rfl ?_
  refine S_jn (fun (K1 : Option Int) => Sim σ cL_fades 1 RL (2) (some .int) (rI μ) 10 [] [] μ K1) ?_ (fun K1 hK1 => ?_)
  · skip
    refine S_iconst dL_fades_10 rfl ?_
    refine S_goto (tgt := 29) dL_fades_11 (by decide) ?_
    exact S_iret dL_fades_29 rfl rfl
  refine S_ic_eq (tgt := 10) dL_fades_2 (by decide) (fun h6 => ?_) (fun h6 => ?_)
  · exact S_sub [] rfl (hK1)
  · refine S_iload_n dL_fades_5 rfl ?_
    refine S_iconst dL_fades_6 rfl ?_
    refine S_ic_ne (tgt := 14) dL_fades_7 (by decide) (fun h5 => ?_) (fun h5 => ?_)
    · refine S_iload_n dL_fades_14 rfl ?_
      refine S_iconst dL_fades_15 rfl ?_
      refine S_jn (fun (K2 : Option Int) => Sim σ cL_fades 1 RL (2) (some .int) (rI μ) 24 [] [] μ K2) ?_ (fun K2 hK2 => ?_)
      · skip
        refine S_iconst dL_fades_24 rfl ?_
        refine S_goto (tgt := 29) dL_fades_25 (by decide) ?_
        exact S_iret dL_fades_29 rfl rfl
      refine S_ic_eq (tgt := 24) dL_fades_16 (by decide) (fun h4 => ?_) (fun h4 => ?_)
      · exact S_sub [] rfl (hK2)
      · refine S_iload_n dL_fades_19 rfl ?_
        refine S_iconst dL_fades_20 rfl ?_
        refine S_ic_ne (tgt := 28) dL_fades_21 (by decide) (fun h3 => ?_) (fun h3 => ?_)
        · refine S_iconst dL_fades_28 rfl ?_
          exact S_iret dL_fades_29 rfl rfl
        · exact S_sub [] rfl (hK2)
    · exact S_sub [] rfl (hK1)
def fL_night_L34 (x1 : Int) : Nat → Int → Mem → Option (Int × Mem)
  | 0, _, _ => none
  | n8 + 1, x6, μ7 =>
    if (μ7 60 0) ≤ x6 then
      some (x1, μ7)
    else
      grd (0 ≤ (w32 (14 + x6)) ∧ (w32 (14 + x6)) < 20) <|
      mlet (fun (x9 : Int) =>
        grd (0 ≤ (w32 (14 + x6)) ∧ (w32 (14 + x6)) < 20) <|
        mlet (wr μ7 61 ((w32 (14 + x6))).toNat (w32 ((μ7 61 ((w32 (14 + x6))).toNat) + x9))) fun μ11 =>
        mlet (fun (x12 : Int) =>
          grd (0 ≤ (w32 (8 + x6)) ∧ (w32 (8 + x6)) < 20) <|
          mlet (fun (x14 : Int) =>
            grd (0 ≤ (w32 (8 + x6)) ∧ (w32 (8 + x6)) < 20) <|
            mlet (wr μ11 61 ((w32 (8 + x6))).toNat x14) fun μ16 =>
            mlet (w32 (x6 + 1)) fun x17 =>
            fL_night_L34 x1 n8 x17 μ16
            ) fun (K15 : Int → Option (Int × Mem)) =>
          if (μ11 61 ((w32 (8 + x6))).toNat) ≤ x12 then
            K15 0
          else
            grd (0 ≤ (w32 (8 + x6)) ∧ (w32 (8 + x6)) < 20) <|
            K15 (w32 ((μ11 61 ((w32 (8 + x6))).toNat) - x12))
          ) fun (K13 : Int → Option (Int × Mem)) =>
        if ¬ x6 = x1 then
          grd (0 ≤ (w32 (1 + x6)) ∧ (w32 (1 + x6)) < 7) <|
          (fL_fades (μ11 60 ((w32 (1 + x6))).toNat) μ11).bind fun x19 =>
          K13 x19
        else
          K13 2
        ) fun (K10 : Int → Option (Int × Mem)) =>
      if ¬ x6 = x1 then
        K10 0
      else
        K10 1
def fL_night (μ : Mem) : Option (Int × Mem) :=
  (fL_most 0 μ).bind fun x1 =>
  mlet (fun (x2 : Int) =>
    mlet (wr μ 61 1 x2) fun μ4 =>
    mlet (wr μ4 61 0 (w32 ((μ4 61 0) + 1))) fun μ5 =>
    fL_night_L34 x1 fuel 0 μ5
    ) fun (K3 : Int → Option (Int × Mem)) =>
  if 0 ≤ x1 then
    grd (0 ≤ (w32 (2 + x1)) ∧ (w32 (2 + x1)) < 20) <|
    K3 (μ 61 ((w32 (2 + x1))).toNat)
  else
    K3 (μ 61 1)
theorem K_L_night {σ : Scr}    (μ : Mem) : Con σ yL_night cL_night 5 (some .int) 5 [.inr (.inr 60), .inr (.inr 61)] μ (fL_night  μ) wI := by
  refine con_of (own := RL) (by decide) rfl (Nat.le_of_ble_eq_true rfl) ?_
  show Sim σ cL_night 5 RL (5) (some .int) wI 0 [(0, .inr (.inr 60)), (1, .inr (.inr 61))] [] μ (fL_night  μ)
  unfold fL_night
  refine S_aload_n dL_night_0 rfl ?_
  refine S_aload_n dL_night_1 rfl ?_
  refine S_iconst dL_night_2 rfl ?_
  refine S_callS_I dL_night_3 [.inr (.inr 60), .inr (.inr 61), .inl 0] (K_L_most 0 μ) l_L_49 yo_L_most rfl rfl rfl (fun x1 => ?_)
  refine S_istore_n (lv' := [(2, .inl x1), (0, .inr (.inr 60)), (1, .inr (.inr 61))]) dL_night_6 rfl rfl ?_
  refine S_aload_n dL_night_7 rfl ?_
  refine S_iconst dL_night_8 rfl ?_
  refine S_iload_n dL_night_9 rfl ?_
  refine S_jn (fun (K3 : Int → Option (Int × Mem)) => ∀ (x2 : Int), Sim σ cL_night 5 RL (5) (some .int) wI 24 [(0, .inr (.inr 60)), (1, .inr (.inr 61)), (2, .inl x1)] [.inl x2, .inl 1, .inr (.inr 61)] μ (K3 x2)) ?_ (fun K3 hK3 => ?_)
  · intro x2
    refine S_iastK (k := 1) dL_night_24 rfl (by decide) (by decide) (fun μ4 => ?_)
    refine S_aload_n dL_night_25 rfl ?_
    refine S_iconst dL_night_26 rfl ?_
    refine S_dup2 dL_night_27 rfl rfl ?_
    refine S_ialdK (k := 0) dL_night_28 rfl (by decide) (by decide) ?_
    refine S_iconst dL_night_29 rfl ?_
    refine S_iadd dL_night_30 ?_
    refine S_iastK (k := 0) dL_night_31 rfl (by decide) (by decide) (fun μ5 => ?_)
    refine S_iconst dL_night_32 rfl ?_
    refine S_istore_n (lv' := [(3, .inl 0), (0, .inr (.inr 60)), (1, .inr (.inr 61)), (2, .inl x1)]) dL_night_33 rfl rfl ?_
    have hL34 : ∀ (n8 : Nat) (x6 : Int) (μ7 : Mem), Sim σ cL_night 5 RL (5) (some .int) wI 34 [(0, .inr (.inr 60)), (1, .inr (.inr 61)), (2, .inl x1), (3, .inl x6)] [] μ7 (fL_night_L34 x1 n8 x6 μ7) := by
      intro n8
      induction n8 with
      | zero =>
        intro x6 μ7
        exact S_none rfl
      | succ n8 ih =>
        intro x6 μ7
        rw [fL_night_L34]
        refine S_iload_n dL_night_34 rfl ?_
        refine S_aload_n dL_night_35 rfl ?_
        refine S_iconst dL_night_36 rfl ?_
        refine S_ialdK (k := 0) dL_night_37 rfl (by decide) (by decide) ?_
        refine S_ic_ge (tgt := 115) dL_night_38 (by decide) (fun h22 => ?_) (fun h22 => ?_)
        · refine S_iload_n dL_night_115 rfl ?_
          exact S_iret dL_night_116 rfl rfl
        · refine S_aload_n dL_night_41 rfl ?_
          refine S_bipush dL_night_42 rfl (by decide) ?_
          refine S_iload_n dL_night_44 rfl ?_
          refine S_iadd dL_night_45 ?_
          refine S_dup2 dL_night_46 rfl rfl ?_
          refine S_iald (N := 20) dL_night_47 rfl (by decide) rfl ?_
          refine S_iload_n dL_night_48 rfl ?_
          refine S_iload_n dL_night_49 rfl ?_
          refine S_jn (fun (K10 : Int → Option (Int × Mem)) => ∀ (x9 : Int), Sim σ cL_night 5 RL (5) (some .int) wI 58 [(0, .inr (.inr 60)), (1, .inr (.inr 61)), (2, .inl x1), (3, .inl x6)] [.inl x9, .inl (μ7 61 ((w32 (14 + x6))).toNat), .inl (w32 (14 + x6)), .inr (.inr 61)] μ7 (K10 x9)) ?_ (fun K10 hK10 => ?_)
          · intro x9
            refine S_iadd dL_night_58 ?_
            refine S_iast (N := 20) dL_night_59 rfl (by decide) rfl (fun μ11 => ?_)
            refine S_iload_n dL_night_60 rfl ?_
            refine S_iload_n dL_night_61 rfl ?_
            refine S_jn (fun (K13 : Int → Option (Int × Mem)) => ∀ (x12 : Int), Sim σ cL_night 5 RL (5) (some .int) wI 77 [(0, .inr (.inr 60)), (1, .inr (.inr 61)), (2, .inl x1), (3, .inl x6)] [.inl x12] μ11 (K13 x12)) ?_ (fun K13 hK13 => ?_)
            · intro x12
              refine S_istore (lv' := [(4, .inl x12), (0, .inr (.inr 60)), (1, .inr (.inr 61)), (2, .inl x1), (3, .inl x6)]) dL_night_77 rfl rfl ?_
              refine S_aload_n dL_night_79 rfl ?_
              refine S_bipush dL_night_80 rfl (by decide) ?_
              refine S_iload_n dL_night_82 rfl ?_
              refine S_iadd dL_night_83 ?_
              refine S_aload_n dL_night_84 rfl ?_
              refine S_bipush dL_night_85 rfl (by decide) ?_
              refine S_iload_n dL_night_87 rfl ?_
              refine S_iadd dL_night_88 ?_
              refine S_iald (N := 20) dL_night_89 rfl (by decide) rfl ?_
              refine S_iload dL_night_90 rfl ?_
              refine S_jn (fun (K15 : Int → Option (Int × Mem)) => ∀ (x14 : Int), Sim σ cL_night 5 RL (5) (some .int) wI 108 [(0, .inr (.inr 60)), (1, .inr (.inr 61)), (2, .inl x1), (3, .inl x6)] [.inl x14, .inl (w32 (8 + x6)), .inr (.inr 61)] μ11 (K15 x14)) ?_ (fun K15 hK15 => ?_)
              · intro x14
                refine S_iast (N := 20) dL_night_108 rfl (by decide) rfl (fun μ16 => ?_)
                refine S_iinc (lv' := fun x17 => [(3, .inl x17), (0, .inr (.inr 60)), (1, .inr (.inr 61)), (2, .inl x1)]) dL_night_109 rfl rfl rfl (fun _ => rfl) (fun x17 => ?_)
                refine S_goto (tgt := 34) dL_night_112 (by decide) ?_
                exact S_sub [1, 2, 3, 0] rfl (ih x17 μ16)
              refine S_ic_le (tgt := 107) dL_night_92 (by decide) (fun h18 => ?_) (fun h18 => ?_)
              · refine S_iconst dL_night_107 rfl ?_
                exact S_sub [1, 2, 3, 4] rfl (hK15 0)
              · refine S_aload_n dL_night_95 rfl ?_
                refine S_bipush dL_night_96 rfl (by decide) ?_
                refine S_iload_n dL_night_98 rfl ?_
                refine S_iadd dL_night_99 ?_
                refine S_iald (N := 20) dL_night_100 rfl (by decide) rfl ?_
                refine S_iload dL_night_101 rfl ?_
                refine S_isub dL_night_103 ?_
                refine S_goto (tgt := 108) dL_night_104 (by decide) ?_
                exact S_sub [1, 2, 3, 4] rfl (hK15 (w32 ((μ11 61 ((w32 (8 + x6))).toNat) - x12)))
            refine S_ic_ne (tgt := 69) dL_night_62 (by decide) (fun h20 => ?_) (fun h20 => ?_)
            · refine S_aload_n dL_night_69 rfl ?_
              refine S_iconst dL_night_70 rfl ?_
              refine S_iload_n dL_night_71 rfl ?_
              refine S_iadd dL_night_72 ?_
              refine S_iald (N := 7) dL_night_73 rfl (by decide) rfl ?_
              refine S_callS_I dL_night_74 [.inl (μ11 60 ((w32 (1 + x6))).toNat)] (K_L_fades (μ11 60 ((w32 (1 + x6))).toNat) μ11) l_L_52 yo_L_fades rfl rfl rfl (fun x19 => ?_)
              exact S_sub [0, 1, 2, 3] rfl (hK13 x19)
            · refine S_iconst dL_night_65 rfl ?_
              refine S_goto (tgt := 77) dL_night_66 (by decide) ?_
              exact S_sub [0, 1, 2, 3] rfl (hK13 2)
          refine S_ic_ne (tgt := 57) dL_night_50 (by decide) (fun h21 => ?_) (fun h21 => ?_)
          · refine S_iconst dL_night_57 rfl ?_
            exact S_sub [0, 1, 2, 3] rfl (hK10 0)
          · refine S_iconst dL_night_53 rfl ?_
            refine S_goto (tgt := 58) dL_night_54 (by decide) ?_
            exact S_sub [0, 1, 2, 3] rfl (hK10 1)
    exact S_sub [1, 2, 3, 0] rfl (hL34 fuel 0 μ5)
  refine S_if_ge (tgt := 19) dL_night_10 (by decide) (fun h23 => ?_) (fun h23 => ?_)
  · refine S_aload_n dL_night_19 rfl ?_
    refine S_iconst dL_night_20 rfl ?_
    refine S_iload_n dL_night_21 rfl ?_
    refine S_iadd dL_night_22 ?_
    refine S_iald (N := 20) dL_night_23 rfl (by decide) rfl ?_
    exact S_sub [1, 2, 0] rfl (hK3 (μ 61 ((w32 (2 + x1))).toNat))
  · refine S_aload_n dL_night_13 rfl ?_
    refine S_iconst dL_night_14 rfl ?_
    refine S_ialdK (k := 1) dL_night_15 rfl (by decide) (by decide) ?_
    refine S_goto (tgt := 24) dL_night_16 (by decide) ?_
    exact S_sub [1, 2, 0] rfl (hK3 (μ 61 1))
