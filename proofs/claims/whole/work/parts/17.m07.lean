theorem dX1_digest_0 : decode cX1_digest 0 = .ok (.ldc2_w 250, 3) := by decide +kernel
theorem dX1_digest_3 : decode cX1_digest 3 = .ok (.lstore_n 1, 1) := by decide +kernel
theorem dX1_digest_4 : decode cX1_digest 4 = .ok (.iconst 0, 1) := by decide +kernel
theorem dX1_digest_5 : decode cX1_digest 5 = .ok (.istore_n 3, 1) := by decide +kernel
theorem dX1_digest_6 : decode cX1_digest 6 = .ok (.iload_n 3, 1) := by decide +kernel
theorem dX1_digest_7 : decode cX1_digest 7 = .ok (.bipush 12, 2) := by decide +kernel
theorem dX1_digest_9 : decode cX1_digest 9 = .ok (.if_icmp .ge 22, 3) := by decide +kernel
theorem dX1_digest_12 : decode cX1_digest 12 = .ok (.ldc2_w 252, 3) := by decide +kernel
theorem dX1_digest_15 : decode cX1_digest 15 = .ok (.lload_n 1, 1) := by decide +kernel
theorem dX1_digest_16 : decode cX1_digest 16 = .ok (.lmul, 1) := by decide +kernel
theorem dX1_digest_17 : decode cX1_digest 17 = .ok (.aload_n 0, 1) := by decide +kernel
theorem dX1_digest_18 : decode cX1_digest 18 = .ok (.iload_n 3, 1) := by decide +kernel
theorem dX1_digest_19 : decode cX1_digest 19 = .ok (.invokevirtual 254, 3) := by decide +kernel
theorem dX1_digest_22 : decode cX1_digest 22 = .ok (.i2l, 1) := by decide +kernel
theorem dX1_digest_23 : decode cX1_digest 23 = .ok (.ladd, 1) := by decide +kernel
theorem dX1_digest_24 : decode cX1_digest 24 = .ok (.lstore_n 1, 1) := by decide +kernel
theorem dX1_digest_25 : decode cX1_digest 25 = .ok (.iinc 3 1, 3) := by decide +kernel
theorem dX1_digest_28 : decode cX1_digest 28 = .ok (.goto (-22), 3) := by decide +kernel
theorem dX1_digest_31 : decode cX1_digest 31 = .ok (.iconst 0, 1) := by decide +kernel
theorem dX1_digest_32 : decode cX1_digest 32 = .ok (.istore_n 3, 1) := by decide +kernel
theorem dX1_digest_33 : decode cX1_digest 33 = .ok (.iload_n 3, 1) := by decide +kernel
theorem dX1_digest_34 : decode cX1_digest 34 = .ok (.aload_n 0, 1) := by decide +kernel
theorem dX1_digest_35 : decode cX1_digest 35 = .ok (.getfield 33, 3) := by decide +kernel
theorem dX1_digest_38 : decode cX1_digest 38 = .ok (.getfield 122, 3) := by decide +kernel
theorem dX1_digest_41 : decode cX1_digest 41 = .ok (.if_icmp .ge 43, 3) := by decide +kernel
theorem dX1_digest_44 : decode cX1_digest 44 = .ok (.iconst 0, 1) := by decide +kernel
theorem dX1_digest_45 : decode cX1_digest 45 = .ok (.istore 4, 2) := by decide +kernel
theorem dX1_digest_47 : decode cX1_digest 47 = .ok (.iload 4, 2) := by decide +kernel
theorem dX1_digest_49 : decode cX1_digest 49 = .ok (.bipush 6, 2) := by decide +kernel
theorem dX1_digest_51 : decode cX1_digest 51 = .ok (.if_icmp .ge 27, 3) := by decide +kernel
theorem dX1_digest_54 : decode cX1_digest 54 = .ok (.ldc2_w 252, 3) := by decide +kernel
theorem dX1_digest_57 : decode cX1_digest 57 = .ok (.lload_n 1, 1) := by decide +kernel
theorem dX1_digest_58 : decode cX1_digest 58 = .ok (.lmul, 1) := by decide +kernel
theorem dX1_digest_59 : decode cX1_digest 59 = .ok (.aload_n 0, 1) := by decide +kernel
theorem dX1_digest_60 : decode cX1_digest 60 = .ok (.getfield 33, 3) := by decide +kernel
theorem dX1_digest_63 : decode cX1_digest 63 = .ok (.iload_n 3, 1) := by decide +kernel
theorem dX1_digest_64 : decode cX1_digest 64 = .ok (.iload 4, 2) := by decide +kernel
theorem dX1_digest_66 : decode cX1_digest 66 = .ok (.invokevirtual 132, 3) := by decide +kernel
theorem dX1_digest_69 : decode cX1_digest 69 = .ok (.i2l, 1) := by decide +kernel
theorem dX1_digest_70 : decode cX1_digest 70 = .ok (.ladd, 1) := by decide +kernel
theorem dX1_digest_71 : decode cX1_digest 71 = .ok (.lstore_n 1, 1) := by decide +kernel
theorem dX1_digest_72 : decode cX1_digest 72 = .ok (.iinc 4 1, 3) := by decide +kernel
theorem dX1_digest_75 : decode cX1_digest 75 = .ok (.goto (-28), 3) := by decide +kernel
theorem dX1_digest_78 : decode cX1_digest 78 = .ok (.iinc 3 1, 3) := by decide +kernel
theorem dX1_digest_81 : decode cX1_digest 81 = .ok (.goto (-48), 3) := by decide +kernel
theorem dX1_digest_84 : decode cX1_digest 84 = .ok (.iconst 0, 1) := by decide +kernel
theorem dX1_digest_85 : decode cX1_digest 85 = .ok (.istore_n 3, 1) := by decide +kernel
theorem dX1_digest_86 : decode cX1_digest 86 = .ok (.iload_n 3, 1) := by decide +kernel
theorem dX1_digest_87 : decode cX1_digest 87 = .ok (.iconst 3, 1) := by decide +kernel
theorem dX1_digest_88 : decode cX1_digest 88 = .ok (.if_icmp .ge 23, 3) := by decide +kernel
theorem dX1_digest_91 : decode cX1_digest 91 = .ok (.ldc2_w 252, 3) := by decide +kernel
theorem dX1_digest_94 : decode cX1_digest 94 = .ok (.lload_n 1, 1) := by decide +kernel
theorem dX1_digest_95 : decode cX1_digest 95 = .ok (.lmul, 1) := by decide +kernel
theorem dX1_digest_96 : decode cX1_digest 96 = .ok (.aload_n 0, 1) := by decide +kernel
theorem dX1_digest_97 : decode cX1_digest 97 = .ok (.getfield 49, 3) := by decide +kernel
theorem dX1_digest_100 : decode cX1_digest 100 = .ok (.iload_n 3, 1) := by decide +kernel
theorem dX1_digest_101 : decode cX1_digest 101 = .ok (.iaload, 1) := by decide +kernel
theorem dX1_digest_102 : decode cX1_digest 102 = .ok (.i2l, 1) := by decide +kernel
theorem dX1_digest_103 : decode cX1_digest 103 = .ok (.ladd, 1) := by decide +kernel
theorem dX1_digest_104 : decode cX1_digest 104 = .ok (.lstore_n 1, 1) := by decide +kernel
theorem dX1_digest_105 : decode cX1_digest 105 = .ok (.iinc 3 1, 3) := by decide +kernel
theorem dX1_digest_108 : decode cX1_digest 108 = .ok (.goto (-22), 3) := by decide +kernel
theorem dX1_digest_111 : decode cX1_digest 111 = .ok (.iconst 0, 1) := by decide +kernel
theorem dX1_digest_112 : decode cX1_digest 112 = .ok (.istore_n 3, 1) := by decide +kernel
theorem dX1_digest_113 : decode cX1_digest 113 = .ok (.iload_n 3, 1) := by decide +kernel
theorem dX1_digest_114 : decode cX1_digest 114 = .ok (.bipush 6, 2) := by decide +kernel
theorem dX1_digest_116 : decode cX1_digest 116 = .ok (.if_icmp .ge 60, 3) := by decide +kernel
theorem dX1_digest_119 : decode cX1_digest 119 = .ok (.ldc2_w 252, 3) := by decide +kernel
theorem dX1_digest_122 : decode cX1_digest 122 = .ok (.lload_n 1, 1) := by decide +kernel
theorem dX1_digest_123 : decode cX1_digest 123 = .ok (.lmul, 1) := by decide +kernel
theorem dX1_digest_124 : decode cX1_digest 124 = .ok (.aload_n 0, 1) := by decide +kernel
theorem dX1_digest_125 : decode cX1_digest 125 = .ok (.getfield 14, 3) := by decide +kernel
theorem dX1_digest_128 : decode cX1_digest 128 = .ok (.iload_n 3, 1) := by decide +kernel
theorem dX1_digest_129 : decode cX1_digest 129 = .ok (.iaload, 1) := by decide +kernel
theorem dX1_digest_130 : decode cX1_digest 130 = .ok (.i2l, 1) := by decide +kernel
theorem dX1_digest_131 : decode cX1_digest 131 = .ok (.ladd, 1) := by decide +kernel
theorem dX1_digest_132 : decode cX1_digest 132 = .ok (.lstore_n 1, 1) := by decide +kernel
theorem dX1_digest_133 : decode cX1_digest 133 = .ok (.iconst 0, 1) := by decide +kernel
theorem dX1_digest_134 : decode cX1_digest 134 = .ok (.istore 4, 2) := by decide +kernel
theorem dX1_digest_136 : decode cX1_digest 136 = .ok (.iload 4, 2) := by decide +kernel
theorem dX1_digest_138 : decode cX1_digest 138 = .ok (.aload_n 0, 1) := by decide +kernel
theorem dX1_digest_139 : decode cX1_digest 139 = .ok (.getfield 14, 3) := by decide +kernel
theorem dX1_digest_142 : decode cX1_digest 142 = .ok (.iload_n 3, 1) := by decide +kernel
theorem dX1_digest_143 : decode cX1_digest 143 = .ok (.iaload, 1) := by decide +kernel
theorem dX1_digest_144 : decode cX1_digest 144 = .ok (.if_icmp .ge 26, 3) := by decide +kernel
theorem dX1_digest_147 : decode cX1_digest 147 = .ok (.ldc2_w 252, 3) := by decide +kernel
theorem dX1_digest_150 : decode cX1_digest 150 = .ok (.lload_n 1, 1) := by decide +kernel
theorem dX1_digest_151 : decode cX1_digest 151 = .ok (.lmul, 1) := by decide +kernel
theorem dX1_digest_152 : decode cX1_digest 152 = .ok (.aload_n 0, 1) := by decide +kernel
theorem dX1_digest_153 : decode cX1_digest 153 = .ok (.getfield 11, 3) := by decide +kernel
theorem dX1_digest_156 : decode cX1_digest 156 = .ok (.iload_n 3, 1) := by decide +kernel
theorem dX1_digest_157 : decode cX1_digest 157 = .ok (.aaload, 1) := by decide +kernel
theorem dX1_digest_158 : decode cX1_digest 158 = .ok (.iload 4, 2) := by decide +kernel
theorem dX1_digest_160 : decode cX1_digest 160 = .ok (.iaload, 1) := by decide +kernel
theorem dX1_digest_161 : decode cX1_digest 161 = .ok (.i2l, 1) := by decide +kernel
theorem dX1_digest_162 : decode cX1_digest 162 = .ok (.ladd, 1) := by decide +kernel
theorem dX1_digest_163 : decode cX1_digest 163 = .ok (.lstore_n 1, 1) := by decide +kernel
theorem dX1_digest_164 : decode cX1_digest 164 = .ok (.iinc 4 1, 3) := by decide +kernel
theorem dX1_digest_167 : decode cX1_digest 167 = .ok (.goto (-31), 3) := by decide +kernel
theorem dX1_digest_170 : decode cX1_digest 170 = .ok (.iinc 3 1, 3) := by decide +kernel
theorem dX1_digest_173 : decode cX1_digest 173 = .ok (.goto (-60), 3) := by decide +kernel
theorem dX1_digest_176 : decode cX1_digest 176 = .ok (.iconst 0, 1) := by decide +kernel
theorem dX1_digest_177 : decode cX1_digest 177 = .ok (.istore_n 3, 1) := by decide +kernel
theorem dX1_digest_178 : decode cX1_digest 178 = .ok (.iload_n 3, 1) := by decide +kernel
theorem dX1_digest_179 : decode cX1_digest 179 = .ok (.iconst 4, 1) := by decide +kernel
theorem dX1_digest_180 : decode cX1_digest 180 = .ok (.if_icmp .ge 60, 3) := by decide +kernel
theorem dX1_digest_183 : decode cX1_digest 183 = .ok (.ldc2_w 252, 3) := by decide +kernel
theorem dX1_digest_186 : decode cX1_digest 186 = .ok (.lload_n 1, 1) := by decide +kernel
theorem dX1_digest_187 : decode cX1_digest 187 = .ok (.lmul, 1) := by decide +kernel
theorem dX1_digest_188 : decode cX1_digest 188 = .ok (.aload_n 0, 1) := by decide +kernel
theorem dX1_digest_189 : decode cX1_digest 189 = .ok (.getfield 23, 3) := by decide +kernel
theorem dX1_digest_192 : decode cX1_digest 192 = .ok (.iload_n 3, 1) := by decide +kernel
theorem dX1_digest_193 : decode cX1_digest 193 = .ok (.iaload, 1) := by decide +kernel
theorem dX1_digest_194 : decode cX1_digest 194 = .ok (.i2l, 1) := by decide +kernel
theorem dX1_digest_195 : decode cX1_digest 195 = .ok (.ladd, 1) := by decide +kernel
theorem dX1_digest_196 : decode cX1_digest 196 = .ok (.lstore_n 1, 1) := by decide +kernel
theorem dX1_digest_197 : decode cX1_digest 197 = .ok (.iconst 0, 1) := by decide +kernel
theorem dX1_digest_198 : decode cX1_digest 198 = .ok (.istore 4, 2) := by decide +kernel
theorem dX1_digest_200 : decode cX1_digest 200 = .ok (.iload 4, 2) := by decide +kernel
theorem dX1_digest_202 : decode cX1_digest 202 = .ok (.aload_n 0, 1) := by decide +kernel
theorem dX1_digest_203 : decode cX1_digest 203 = .ok (.getfield 23, 3) := by decide +kernel
theorem dX1_digest_206 : decode cX1_digest 206 = .ok (.iload_n 3, 1) := by decide +kernel
theorem dX1_digest_207 : decode cX1_digest 207 = .ok (.iaload, 1) := by decide +kernel
theorem dX1_digest_208 : decode cX1_digest 208 = .ok (.if_icmp .ge 26, 3) := by decide +kernel
theorem dX1_digest_211 : decode cX1_digest 211 = .ok (.ldc2_w 252, 3) := by decide +kernel
theorem dX1_digest_214 : decode cX1_digest 214 = .ok (.lload_n 1, 1) := by decide +kernel
theorem dX1_digest_215 : decode cX1_digest 215 = .ok (.lmul, 1) := by decide +kernel
theorem dX1_digest_216 : decode cX1_digest 216 = .ok (.aload_n 0, 1) := by decide +kernel
theorem dX1_digest_217 : decode cX1_digest 217 = .ok (.getfield 20, 3) := by decide +kernel
theorem dX1_digest_220 : decode cX1_digest 220 = .ok (.iload_n 3, 1) := by decide +kernel
theorem dX1_digest_221 : decode cX1_digest 221 = .ok (.aaload, 1) := by decide +kernel
theorem dX1_digest_222 : decode cX1_digest 222 = .ok (.iload 4, 2) := by decide +kernel
theorem dX1_digest_224 : decode cX1_digest 224 = .ok (.baload, 1) := by decide +kernel
theorem dX1_digest_225 : decode cX1_digest 225 = .ok (.i2l, 1) := by decide +kernel
theorem dX1_digest_226 : decode cX1_digest 226 = .ok (.ladd, 1) := by decide +kernel
theorem dX1_digest_227 : decode cX1_digest 227 = .ok (.lstore_n 1, 1) := by decide +kernel
theorem dX1_digest_228 : decode cX1_digest 228 = .ok (.iinc 4 1, 3) := by decide +kernel
theorem dX1_digest_231 : decode cX1_digest 231 = .ok (.goto (-31), 3) := by decide +kernel
theorem dX1_digest_234 : decode cX1_digest 234 = .ok (.iinc 3 1, 3) := by decide +kernel
theorem dX1_digest_237 : decode cX1_digest 237 = .ok (.goto (-59), 3) := by decide +kernel
theorem dX1_digest_240 : decode cX1_digest 240 = .ok (.lload_n 1, 1) := by decide +kernel
theorem dX1_digest_241 : decode cX1_digest 241 = .ok (.lreturn, 1) := by decide +kernel
theorem dX2_in_0 : decode cX2_in 0 = .ok (.lload_n 0, 1) := by decide +kernel
theorem dX2_in_1 : decode cX2_in 1 = .ok (.lload_n 2, 1) := by decide +kernel
theorem dX2_in_2 : decode cX2_in 2 = .ok (.lcmp, 1) := by decide +kernel
theorem dX2_in_3 : decode cX2_in 3 = .ok (.ifCond .lt 14, 3) := by decide +kernel
theorem dX2_in_6 : decode cX2_in 6 = .ok (.lload_n 0, 1) := by decide +kernel
theorem dX2_in_7 : decode cX2_in 7 = .ok (.lload 4, 2) := by decide +kernel
theorem dX2_in_9 : decode cX2_in 9 = .ok (.lcmp, 1) := by decide +kernel
theorem dX2_in_10 : decode cX2_in 10 = .ok (.ifCond .gt 7, 3) := by decide +kernel
theorem dX2_in_13 : decode cX2_in 13 = .ok (.iconst 1, 1) := by decide +kernel
theorem dX2_in_14 : decode cX2_in 14 = .ok (.goto 4, 3) := by decide +kernel
theorem dX2_in_17 : decode cX2_in 17 = .ok (.iconst 0, 1) := by decide +kernel
theorem dX2_in_18 : decode cX2_in 18 = .ok (.ireturn, 1) := by decide +kernel
theorem dX2_has_0 : decode cX2_has 0 = .ok (.iload_n 0, 1) := by decide +kernel
theorem dX2_has_1 : decode cX2_has 1 = .ok (.iload_n 1, 1) := by decide +kernel
theorem dX2_has_2 : decode cX2_has 2 = .ok (.ishr, 1) := by decide +kernel
theorem dX2_has_3 : decode cX2_has 3 = .ok (.iconst 1, 1) := by decide +kernel
theorem dX2_has_4 : decode cX2_has 4 = .ok (.iand, 1) := by decide +kernel
theorem dX2_has_5 : decode cX2_has 5 = .ok (.iconst 1, 1) := by decide +kernel
theorem dX2_has_6 : decode cX2_has 6 = .ok (.if_icmp .ne 7, 3) := by decide +kernel
theorem dX2_has_9 : decode cX2_has 9 = .ok (.iconst 1, 1) := by decide +kernel
theorem dX2_has_10 : decode cX2_has 10 = .ok (.goto 4, 3) := by decide +kernel
theorem dX2_has_13 : decode cX2_has 13 = .ok (.iconst 0, 1) := by decide +kernel
theorem dX2_has_14 : decode cX2_has 14 = .ok (.ireturn, 1) := by decide +kernel
theorem dX2_find_0 : decode cX2_find 0 = .ok (.aload_n 0, 1) := by decide +kernel
theorem dX2_find_1 : decode cX2_find 1 = .ok (.iload_n 1, 1) := by decide +kernel
theorem dX2_find_2 : decode cX2_find 2 = .ok (.putfield 50, 3) := by decide +kernel
theorem dX2_find_5 : decode cX2_find 5 = .ok (.aload_n 0, 1) := by decide +kernel
theorem dX2_find_6 : decode cX2_find 6 = .ok (.getfield 32, 3) := by decide +kernel
theorem dX2_find_9 : decode cX2_find 9 = .ok (.iload_n 1, 1) := by decide +kernel
theorem dX2_find_10 : decode cX2_find 10 = .ok (.dup2, 1) := by decide +kernel
theorem dX2_find_11 : decode cX2_find 11 = .ok (.iaload, 1) := by decide +kernel
theorem dX2_find_12 : decode cX2_find 12 = .ok (.iconst 1, 1) := by decide +kernel
theorem dX2_find_13 : decode cX2_find 13 = .ok (.iadd, 1) := by decide +kernel
theorem dX2_find_14 : decode cX2_find 14 = .ok (.iastore, 1) := by decide +kernel
theorem dX2_find_15 : decode cX2_find 15 = .ok (.bipush (-3), 2) := by decide +kernel
theorem dX2_find_17 : decode cX2_find 17 = .ok (.ireturn, 1) := by decide +kernel
theorem dX2_tell_0 : decode cX2_tell 0 = .ok (.aload_n 0, 1) := by decide +kernel
theorem dX2_tell_1 : decode cX2_tell 1 = .ok (.iload_n 1, 1) := by decide +kernel
theorem dX2_tell_2 : decode cX2_tell 2 = .ok (.putfield 54, 3) := by decide +kernel
theorem dX2_tell_5 : decode cX2_tell 5 = .ok (.iconst 1, 1) := by decide +kernel
theorem dX2_tell_6 : decode cX2_tell 6 = .ok (.ireturn, 1) := by decide +kernel
theorem dX2_isRow_0 : decode cX2_isRow 0 = .ok (.iload_n 0, 1) := by decide +kernel
theorem dX2_isRow_1 : decode cX2_isRow 1 = .ok (.i2l, 1) := by decide +kernel
theorem dX2_isRow_2 : decode cX2_isRow 2 = .ok (.lconst 0, 1) := by decide +kernel
theorem dX2_isRow_3 : decode cX2_isRow 3 = .ok (.ldc2_w 57, 3) := by decide +kernel
theorem dX2_isRow_6 : decode cX2_isRow 6 = .ok (.invokestatic 59, 3) := by decide +kernel
theorem dX2_isRow_9 : decode cX2_isRow 9 = .ok (.ireturn, 1) := by decide +kernel
theorem dX2_isText_0 : decode cX2_isText 0 = .ok (.iload_n 0, 1) := by decide +kernel
theorem dX2_isText_1 : decode cX2_isText 1 = .ok (.i2l, 1) := by decide +kernel
theorem dX2_isText_2 : decode cX2_isText 2 = .ok (.lconst 0, 1) := by decide +kernel
theorem dX2_isText_3 : decode cX2_isText 3 = .ok (.ldc2_w 63, 3) := by decide +kernel
theorem dX2_isText_6 : decode cX2_isText 6 = .ok (.invokestatic 59, 3) := by decide +kernel
theorem dX2_isText_9 : decode cX2_isText 9 = .ok (.ireturn, 1) := by decide +kernel
theorem dX2_makeRow_0 : decode cX2_makeRow 0 = .ok (.aload_n 0, 1) := by decide +kernel
theorem dX2_makeRow_1 : decode cX2_makeRow 1 = .ok (.getfield 16, 3) := by decide +kernel
theorem dX2_makeRow_4 : decode cX2_makeRow 4 = .ok (.iload_n 1, 1) := by decide +kernel
theorem dX2_makeRow_5 : decode cX2_makeRow 5 = .ok (.iload_n 2, 1) := by decide +kernel
theorem dX2_makeRow_6 : decode cX2_makeRow 6 = .ok (.iastore, 1) := by decide +kernel
theorem dX2_makeRow_7 : decode cX2_makeRow 7 = .ok (.iconst 0, 1) := by decide +kernel
theorem dX2_makeRow_8 : decode cX2_makeRow 8 = .ok (.istore_n 3, 1) := by decide +kernel
theorem dX2_makeRow_9 : decode cX2_makeRow 9 = .ok (.iload_n 3, 1) := by decide +kernel
theorem dX2_makeRow_10 : decode cX2_makeRow 10 = .ok (.bipush 40, 2) := by decide +kernel
theorem dX2_makeRow_12 : decode cX2_makeRow 12 = .ok (.if_icmp .ge 21, 3) := by decide +kernel
theorem dX2_makeRow_15 : decode cX2_makeRow 15 = .ok (.aload_n 0, 1) := by decide +kernel
theorem dX2_makeRow_16 : decode cX2_makeRow 16 = .ok (.getfield 19, 3) := by decide +kernel
theorem dX2_makeRow_19 : decode cX2_makeRow 19 = .ok (.bipush 40, 2) := by decide +kernel
theorem dX2_makeRow_21 : decode cX2_makeRow 21 = .ok (.iload_n 1, 1) := by decide +kernel
theorem dX2_makeRow_22 : decode cX2_makeRow 22 = .ok (.imul, 1) := by decide +kernel
theorem dX2_makeRow_23 : decode cX2_makeRow 23 = .ok (.iload_n 3, 1) := by decide +kernel
theorem dX2_makeRow_24 : decode cX2_makeRow 24 = .ok (.iadd, 1) := by decide +kernel
theorem dX2_makeRow_25 : decode cX2_makeRow 25 = .ok (.iconst 0, 1) := by decide +kernel
theorem dX2_makeRow_26 : decode cX2_makeRow 26 = .ok (.iastore, 1) := by decide +kernel
theorem dX2_makeRow_27 : decode cX2_makeRow 27 = .ok (.iinc 3 1, 3) := by decide +kernel
theorem dX2_makeRow_30 : decode cX2_makeRow 30 = .ok (.goto (-21), 3) := by decide +kernel
theorem dX2_makeRow_33 : decode cX2_makeRow 33 = .ok (.return_, 1) := by decide +kernel
theorem dX2_row_0 : decode cX2_row 0 = .ok (.iload_n 1, 1) := by decide +kernel
theorem dX2_row_1 : decode cX2_row 1 = .ok (.invokestatic 65, 3) := by decide +kernel
theorem dX2_row_4 : decode cX2_row 4 = .ok (.ifCond .eq 9, 3) := by decide +kernel
theorem dX2_row_7 : decode cX2_row 7 = .ok (.iload_n 2, 1) := by decide +kernel
theorem dX2_row_8 : decode cX2_row 8 = .ok (.bipush 40, 2) := by decide +kernel
theorem dX2_row_10 : decode cX2_row 10 = .ok (.if_icmp .le 5, 3) := by decide +kernel
theorem dX2_row_13 : decode cX2_row 13 = .ok (.iconst (-1), 1) := by decide +kernel
theorem dX2_row_14 : decode cX2_row 14 = .ok (.ireturn, 1) := by decide +kernel
theorem dX2_row_15 : decode cX2_row 15 = .ok (.iload_n 2, 1) := by decide +kernel
theorem dX2_row_16 : decode cX2_row 16 = .ok (.ifCond .ge 9, 3) := by decide +kernel
theorem dX2_row_19 : decode cX2_row 19 = .ok (.aload_n 0, 1) := by decide +kernel
theorem dX2_row_20 : decode cX2_row 20 = .ok (.iconst 5, 1) := by decide +kernel
theorem dX2_row_21 : decode cX2_row 21 = .ok (.invokevirtual 69, 3) := by decide +kernel
theorem dX2_row_24 : decode cX2_row 24 = .ok (.ireturn, 1) := by decide +kernel
theorem dX2_row_25 : decode cX2_row 25 = .ok (.aload_n 0, 1) := by decide +kernel
theorem dX2_row_26 : decode cX2_row 26 = .ok (.iload_n 1, 1) := by decide +kernel
theorem dX2_row_27 : decode cX2_row 27 = .ok (.iload_n 2, 1) := by decide +kernel
theorem dX2_row_28 : decode cX2_row 28 = .ok (.invokevirtual 73, 3) := by decide +kernel
theorem dX2_row_31 : decode cX2_row 31 = .ok (.iload_n 2, 1) := by decide +kernel
theorem dX2_row_32 : decode cX2_row 32 = .ok (.ireturn, 1) := by decide +kernel
theorem dX2_refused_0 : decode cX2_refused 0 = .ok (.iload_n 1, 1) := by decide +kernel
theorem dX2_refused_1 : decode cX2_refused 1 = .ok (.invokestatic 65, 3) := by decide +kernel
theorem dX2_refused_4 : decode cX2_refused 4 = .ok (.ifCond .ne 7, 3) := by decide +kernel
theorem dX2_refused_7 : decode cX2_refused 7 = .ok (.iconst (-1), 1) := by decide +kernel
theorem dX2_refused_8 : decode cX2_refused 8 = .ok (.goto 47, 3) := by decide +kernel
theorem dX2_refused_11 : decode cX2_refused 11 = .ok (.aload_n 0, 1) := by decide +kernel
theorem dX2_refused_12 : decode cX2_refused 12 = .ok (.getfield 16, 3) := by decide +kernel
theorem dX2_refused_15 : decode cX2_refused 15 = .ok (.iload_n 1, 1) := by decide +kernel
theorem dX2_refused_16 : decode cX2_refused 16 = .ok (.iaload, 1) := by decide +kernel
theorem dX2_refused_17 : decode cX2_refused 17 = .ok (.ifCond .ge 11, 3) := by decide +kernel
theorem dX2_refused_20 : decode cX2_refused 20 = .ok (.aload_n 0, 1) := by decide +kernel
theorem dX2_refused_21 : decode cX2_refused 21 = .ok (.iconst 1, 1) := by decide +kernel
theorem dX2_refused_22 : decode cX2_refused 22 = .ok (.invokevirtual 69, 3) := by decide +kernel
theorem dX2_refused_25 : decode cX2_refused 25 = .ok (.goto 30, 3) := by decide +kernel
theorem dX2_refused_28 : decode cX2_refused 28 = .ok (.iload_n 2, 1) := by decide +kernel
theorem dX2_refused_29 : decode cX2_refused 29 = .ok (.i2l, 1) := by decide +kernel
theorem dX2_refused_30 : decode cX2_refused 30 = .ok (.lconst 0, 1) := by decide +kernel
theorem dX2_refused_31 : decode cX2_refused 31 = .ok (.aload_n 0, 1) := by decide +kernel
theorem dX2_refused_32 : decode cX2_refused 32 = .ok (.getfield 16, 3) := by decide +kernel
theorem dX2_refused_35 : decode cX2_refused 35 = .ok (.iload_n 1, 1) := by decide +kernel
theorem dX2_refused_36 : decode cX2_refused 36 = .ok (.iaload, 1) := by decide +kernel
theorem dX2_refused_37 : decode cX2_refused 37 = .ok (.iconst 1, 1) := by decide +kernel
theorem dX2_refused_38 : decode cX2_refused 38 = .ok (.isub, 1) := by decide +kernel
theorem dX2_refused_39 : decode cX2_refused 39 = .ok (.i2l, 1) := by decide +kernel
theorem dX2_refused_40 : decode cX2_refused 40 = .ok (.invokestatic 59, 3) := by decide +kernel
theorem dX2_refused_43 : decode cX2_refused 43 = .ok (.ifCond .eq 7, 3) := by decide +kernel
theorem dX2_refused_46 : decode cX2_refused 46 = .ok (.iconst 0, 1) := by decide +kernel
theorem dX2_refused_47 : decode cX2_refused 47 = .ok (.goto 8, 3) := by decide +kernel
theorem dX2_refused_50 : decode cX2_refused 50 = .ok (.aload_n 0, 1) := by decide +kernel
theorem dX2_refused_51 : decode cX2_refused 51 = .ok (.iconst 2, 1) := by decide +kernel
theorem dX2_refused_52 : decode cX2_refused 52 = .ok (.invokevirtual 69, 3) := by decide +kernel
theorem dX2_refused_55 : decode cX2_refused 55 = .ok (.ireturn, 1) := by decide +kernel
theorem dX2_lay_0 : decode cX2_lay 0 = .ok (.aload_n 0, 1) := by decide +kernel
theorem dX2_lay_1 : decode cX2_lay 1 = .ok (.iload_n 1, 1) := by decide +kernel
theorem dX2_lay_2 : decode cX2_lay 2 = .ok (.iload_n 2, 1) := by decide +kernel
theorem dX2_lay_3 : decode cX2_lay 3 = .ok (.invokevirtual 77, 3) := by decide +kernel
theorem dX2_lay_6 : decode cX2_lay 6 = .ok (.istore 4, 2) := by decide +kernel
theorem dX2_lay_8 : decode cX2_lay 8 = .ok (.iload 4, 2) := by decide +kernel
theorem dX2_lay_10 : decode cX2_lay 10 = .ok (.ifCond .eq 6, 3) := by decide +kernel
theorem dX2_lay_13 : decode cX2_lay 13 = .ok (.iload 4, 2) := by decide +kernel
theorem dX2_lay_15 : decode cX2_lay 15 = .ok (.ireturn, 1) := by decide +kernel
theorem dX2_lay_16 : decode cX2_lay 16 = .ok (.aload_n 0, 1) := by decide +kernel
theorem dX2_lay_17 : decode cX2_lay 17 = .ok (.getfield 19, 3) := by decide +kernel
theorem dX2_lay_20 : decode cX2_lay 20 = .ok (.bipush 40, 2) := by decide +kernel
theorem dX2_lay_22 : decode cX2_lay 22 = .ok (.iload_n 1, 1) := by decide +kernel
theorem dX2_lay_23 : decode cX2_lay 23 = .ok (.imul, 1) := by decide +kernel
theorem dX2_lay_24 : decode cX2_lay 24 = .ok (.iload_n 2, 1) := by decide +kernel
theorem dX2_lay_25 : decode cX2_lay 25 = .ok (.iadd, 1) := by decide +kernel
theorem dX2_lay_26 : decode cX2_lay 26 = .ok (.iaload, 1) := by decide +kernel
theorem dX2_lay_27 : decode cX2_lay 27 = .ok (.istore 5, 2) := by decide +kernel
theorem dX2_lay_29 : decode cX2_lay 29 = .ok (.aload_n 0, 1) := by decide +kernel
theorem dX2_lay_30 : decode cX2_lay 30 = .ok (.getfield 19, 3) := by decide +kernel
theorem dX2_lay_33 : decode cX2_lay 33 = .ok (.bipush 40, 2) := by decide +kernel
theorem dX2_lay_35 : decode cX2_lay 35 = .ok (.iload_n 1, 1) := by decide +kernel
theorem dX2_lay_36 : decode cX2_lay 36 = .ok (.imul, 1) := by decide +kernel
theorem dX2_lay_37 : decode cX2_lay 37 = .ok (.iload_n 2, 1) := by decide +kernel
theorem dX2_lay_38 : decode cX2_lay 38 = .ok (.iadd, 1) := by decide +kernel
theorem dX2_lay_39 : decode cX2_lay 39 = .ok (.iload_n 3, 1) := by decide +kernel
theorem dX2_lay_40 : decode cX2_lay 40 = .ok (.iastore, 1) := by decide +kernel
theorem dX2_lay_41 : decode cX2_lay 41 = .ok (.aload_n 0, 1) := by decide +kernel
theorem dX2_lay_42 : decode cX2_lay 42 = .ok (.iload 5, 2) := by decide +kernel
theorem dX2_lay_44 : decode cX2_lay 44 = .ok (.invokevirtual 81, 3) := by decide +kernel
theorem dX2_lay_47 : decode cX2_lay 47 = .ok (.ireturn, 1) := by decide +kernel
theorem dX2_at_0 : decode cX2_at 0 = .ok (.aload_n 0, 1) := by decide +kernel
theorem dX2_at_1 : decode cX2_at 1 = .ok (.iload_n 1, 1) := by decide +kernel
theorem dX2_at_2 : decode cX2_at 2 = .ok (.iload_n 2, 1) := by decide +kernel
theorem dX2_at_3 : decode cX2_at 3 = .ok (.invokevirtual 77, 3) := by decide +kernel
theorem dX2_at_6 : decode cX2_at 6 = .ok (.istore_n 3, 1) := by decide +kernel
theorem dX2_at_7 : decode cX2_at 7 = .ok (.iload_n 3, 1) := by decide +kernel
theorem dX2_at_8 : decode cX2_at 8 = .ok (.ifCond .eq 7, 3) := by decide +kernel
theorem dX2_at_11 : decode cX2_at 11 = .ok (.iload_n 3, 1) := by decide +kernel
theorem dX2_at_12 : decode cX2_at 12 = .ok (.goto 18, 3) := by decide +kernel
theorem dX2_at_15 : decode cX2_at 15 = .ok (.aload_n 0, 1) := by decide +kernel
theorem dX2_at_16 : decode cX2_at 16 = .ok (.aload_n 0, 1) := by decide +kernel
theorem dX2_at_17 : decode cX2_at 17 = .ok (.getfield 19, 3) := by decide +kernel
theorem dX2_at_20 : decode cX2_at 20 = .ok (.bipush 40, 2) := by decide +kernel
theorem dX2_at_22 : decode cX2_at 22 = .ok (.iload_n 1, 1) := by decide +kernel
theorem dX2_at_23 : decode cX2_at 23 = .ok (.imul, 1) := by decide +kernel
theorem dX2_at_24 : decode cX2_at 24 = .ok (.iload_n 2, 1) := by decide +kernel
theorem dX2_at_25 : decode cX2_at 25 = .ok (.iadd, 1) := by decide +kernel
theorem dX2_at_26 : decode cX2_at 26 = .ok (.iaload, 1) := by decide +kernel
theorem dX2_at_27 : decode cX2_at 27 = .ok (.invokevirtual 81, 3) := by decide +kernel
theorem dX2_at_30 : decode cX2_at 30 = .ok (.ireturn, 1) := by decide +kernel
theorem dX2_tear_0 : decode cX2_tear 0 = .ok (.iload_n 1, 1) := by decide +kernel
theorem dX2_tear_1 : decode cX2_tear 1 = .ok (.invokestatic 65, 3) := by decide +kernel
theorem dX2_tear_4 : decode cX2_tear 4 = .ok (.ifCond .ne 5, 3) := by decide +kernel
theorem dX2_tear_7 : decode cX2_tear 7 = .ok (.iconst (-1), 1) := by decide +kernel
theorem dX2_tear_8 : decode cX2_tear 8 = .ok (.ireturn, 1) := by decide +kernel
theorem dX2_tear_9 : decode cX2_tear 9 = .ok (.aload_n 0, 1) := by decide +kernel
theorem dX2_tear_10 : decode cX2_tear 10 = .ok (.getfield 16, 3) := by decide +kernel
theorem dX2_tear_13 : decode cX2_tear 13 = .ok (.iload_n 1, 1) := by decide +kernel
theorem dX2_tear_14 : decode cX2_tear 14 = .ok (.iaload, 1) := by decide +kernel
theorem dX2_tear_15 : decode cX2_tear 15 = .ok (.ifCond .ge 9, 3) := by decide +kernel
theorem dX2_tear_18 : decode cX2_tear 18 = .ok (.aload_n 0, 1) := by decide +kernel
theorem dX2_tear_19 : decode cX2_tear 19 = .ok (.iconst 1, 1) := by decide +kernel
theorem dX2_tear_20 : decode cX2_tear 20 = .ok (.invokevirtual 69, 3) := by decide +kernel
theorem dX2_tear_23 : decode cX2_tear 23 = .ok (.ireturn, 1) := by decide +kernel
theorem dX2_tear_24 : decode cX2_tear 24 = .ok (.aload_n 0, 1) := by decide +kernel
theorem dX2_tear_25 : decode cX2_tear 25 = .ok (.getfield 16, 3) := by decide +kernel
theorem dX2_tear_28 : decode cX2_tear 28 = .ok (.iload_n 1, 1) := by decide +kernel
theorem dX2_tear_29 : decode cX2_tear 29 = .ok (.iconst (-1), 1) := by decide +kernel
theorem dX2_tear_30 : decode cX2_tear 30 = .ok (.iastore, 1) := by decide +kernel
theorem dX2_tear_31 : decode cX2_tear 31 = .ok (.iconst 1, 1) := by decide +kernel
theorem dX2_tear_32 : decode cX2_tear 32 = .ok (.ireturn, 1) := by decide +kernel
theorem dX2_isSpan_0 : decode cX2_isSpan 0 = .ok (.iload_n 2, 1) := by decide +kernel
theorem dX2_isSpan_1 : decode cX2_isSpan 1 = .ok (.ifCond .lt 23, 3) := by decide +kernel
theorem dX2_isSpan_4 : decode cX2_isSpan 4 = .ok (.iload_n 2, 1) := by decide +kernel
theorem dX2_isSpan_5 : decode cX2_isSpan 5 = .ok (.i2l, 1) := by decide +kernel
theorem dX2_isSpan_6 : decode cX2_isSpan 6 = .ok (.iload_n 3, 1) := by decide +kernel
theorem dX2_isSpan_7 : decode cX2_isSpan 7 = .ok (.i2l, 1) := by decide +kernel
theorem dX2_isSpan_8 : decode cX2_isSpan 8 = .ok (.ladd, 1) := by decide +kernel
theorem dX2_isSpan_9 : decode cX2_isSpan 9 = .ok (.aload_n 0, 1) := by decide +kernel
theorem dX2_isSpan_10 : decode cX2_isSpan 10 = .ok (.getfield 16, 3) := by decide +kernel
theorem dX2_isSpan_13 : decode cX2_isSpan 13 = .ok (.iload_n 1, 1) := by decide +kernel
theorem dX2_isSpan_14 : decode cX2_isSpan 14 = .ok (.iaload, 1) := by decide +kernel
theorem dX2_isSpan_15 : decode cX2_isSpan 15 = .ok (.i2l, 1) := by decide +kernel
theorem dX2_isSpan_16 : decode cX2_isSpan 16 = .ok (.lcmp, 1) := by decide +kernel
theorem dX2_isSpan_17 : decode cX2_isSpan 17 = .ok (.ifCond .gt 7, 3) := by decide +kernel
theorem dX2_isSpan_20 : decode cX2_isSpan 20 = .ok (.iconst 1, 1) := by decide +kernel
theorem dX2_isSpan_21 : decode cX2_isSpan 21 = .ok (.goto 4, 3) := by decide +kernel
theorem dX2_isSpan_24 : decode cX2_isSpan 24 = .ok (.iconst 0, 1) := by decide +kernel
theorem dX2_isSpan_25 : decode cX2_isSpan 25 = .ok (.ireturn, 1) := by decide +kernel
theorem dX2_copy_0 : decode cX2_copy 0 = .ok (.iload_n 1, 1) := by decide +kernel
theorem dX2_copy_1 : decode cX2_copy 1 = .ok (.invokestatic 65, 3) := by decide +kernel
theorem dX2_copy_4 : decode cX2_copy 4 = .ok (.ifCond .eq 10, 3) := by decide +kernel
theorem dX2_copy_7 : decode cX2_copy 7 = .ok (.iload_n 3, 1) := by decide +kernel
theorem dX2_copy_8 : decode cX2_copy 8 = .ok (.invokestatic 65, 3) := by decide +kernel
theorem dX2_copy_11 : decode cX2_copy 11 = .ok (.ifCond .ne 5, 3) := by decide +kernel
theorem dX2_copy_14 : decode cX2_copy 14 = .ok (.iconst (-1), 1) := by decide +kernel
theorem dX2_copy_15 : decode cX2_copy 15 = .ok (.ireturn, 1) := by decide +kernel
theorem dX2_copy_16 : decode cX2_copy 16 = .ok (.iload 5, 2) := by decide +kernel
theorem dX2_copy_18 : decode cX2_copy 18 = .ok (.ifCond .ge 9, 3) := by decide +kernel
theorem dX2_copy_21 : decode cX2_copy 21 = .ok (.aload_n 0, 1) := by decide +kernel
theorem dX2_copy_22 : decode cX2_copy 22 = .ok (.iconst 5, 1) := by decide +kernel
theorem dX2_copy_23 : decode cX2_copy 23 = .ok (.invokevirtual 69, 3) := by decide +kernel
theorem dX2_copy_26 : decode cX2_copy 26 = .ok (.ireturn, 1) := by decide +kernel
theorem dX2_copy_27 : decode cX2_copy 27 = .ok (.aload_n 0, 1) := by decide +kernel
theorem dX2_copy_28 : decode cX2_copy 28 = .ok (.getfield 16, 3) := by decide +kernel
theorem dX2_copy_31 : decode cX2_copy 31 = .ok (.iload_n 1, 1) := by decide +kernel
theorem dX2_copy_32 : decode cX2_copy 32 = .ok (.iaload, 1) := by decide +kernel
theorem dX2_copy_33 : decode cX2_copy 33 = .ok (.ifCond .lt 12, 3) := by decide +kernel
theorem dX2_copy_36 : decode cX2_copy 36 = .ok (.aload_n 0, 1) := by decide +kernel
theorem dX2_copy_37 : decode cX2_copy 37 = .ok (.getfield 16, 3) := by decide +kernel
theorem dX2_copy_40 : decode cX2_copy 40 = .ok (.iload_n 3, 1) := by decide +kernel
theorem dX2_copy_41 : decode cX2_copy 41 = .ok (.iaload, 1) := by decide +kernel
theorem dX2_copy_42 : decode cX2_copy 42 = .ok (.ifCond .ge 9, 3) := by decide +kernel
theorem dX2_copy_45 : decode cX2_copy 45 = .ok (.aload_n 0, 1) := by decide +kernel
theorem dX2_copy_46 : decode cX2_copy 46 = .ok (.iconst 1, 1) := by decide +kernel
theorem dX2_copy_47 : decode cX2_copy 47 = .ok (.invokevirtual 69, 3) := by decide +kernel
theorem dX2_copy_50 : decode cX2_copy 50 = .ok (.ireturn, 1) := by decide +kernel
theorem dX2_copy_51 : decode cX2_copy 51 = .ok (.aload_n 0, 1) := by decide +kernel
theorem dX2_copy_52 : decode cX2_copy 52 = .ok (.iload_n 1, 1) := by decide +kernel
theorem dX2_copy_53 : decode cX2_copy 53 = .ok (.iload_n 2, 1) := by decide +kernel
theorem dX2_copy_54 : decode cX2_copy 54 = .ok (.iload 5, 2) := by decide +kernel
theorem dX2_copy_56 : decode cX2_copy 56 = .ok (.invokevirtual 84, 3) := by decide +kernel
theorem dX2_copy_59 : decode cX2_copy 59 = .ok (.ifCond .eq 15, 3) := by decide +kernel
theorem dX2_copy_62 : decode cX2_copy 62 = .ok (.aload_n 0, 1) := by decide +kernel
theorem dX2_copy_63 : decode cX2_copy 63 = .ok (.iload_n 3, 1) := by decide +kernel
theorem dX2_copy_64 : decode cX2_copy 64 = .ok (.iload 4, 2) := by decide +kernel
theorem dX2_copy_66 : decode cX2_copy 66 = .ok (.iload 5, 2) := by decide +kernel
theorem dX2_copy_68 : decode cX2_copy 68 = .ok (.invokevirtual 84, 3) := by decide +kernel
theorem dX2_copy_71 : decode cX2_copy 71 = .ok (.ifCond .ne 9, 3) := by decide +kernel
theorem dX2_copy_74 : decode cX2_copy 74 = .ok (.aload_n 0, 1) := by decide +kernel
theorem dX2_copy_75 : decode cX2_copy 75 = .ok (.iconst 2, 1) := by decide +kernel
theorem dX2_copy_76 : decode cX2_copy 76 = .ok (.invokevirtual 69, 3) := by decide +kernel
theorem dX2_copy_79 : decode cX2_copy 79 = .ok (.ireturn, 1) := by decide +kernel
theorem dX2_copy_80 : decode cX2_copy 80 = .ok (.iload_n 2, 1) := by decide +kernel
theorem dX2_copy_81 : decode cX2_copy 81 = .ok (.iload 4, 2) := by decide +kernel
theorem dX2_copy_83 : decode cX2_copy 83 = .ok (.if_icmp .ge 7, 3) := by decide +kernel
theorem dX2_copy_86 : decode cX2_copy 86 = .ok (.iconst 1, 1) := by decide +kernel
theorem dX2_copy_87 : decode cX2_copy 87 = .ok (.goto 4, 3) := by decide +kernel
theorem dX2_copy_90 : decode cX2_copy 90 = .ok (.iconst 0, 1) := by decide +kernel
theorem dX2_copy_91 : decode cX2_copy 91 = .ok (.istore 6, 2) := by decide +kernel
theorem dX2_copy_93 : decode cX2_copy 93 = .ok (.iconst 0, 1) := by decide +kernel
theorem dX2_copy_94 : decode cX2_copy 94 = .ok (.istore 7, 2) := by decide +kernel
theorem dX2_copy_96 : decode cX2_copy 96 = .ok (.iload 7, 2) := by decide +kernel
theorem dX2_copy_98 : decode cX2_copy 98 = .ok (.iload 5, 2) := by decide +kernel
theorem dX2_copy_100 : decode cX2_copy 100 = .ok (.if_icmp .ge 57, 3) := by decide +kernel
theorem dX2_copy_103 : decode cX2_copy 103 = .ok (.iload 6, 2) := by decide +kernel
theorem dX2_copy_105 : decode cX2_copy 105 = .ok (.ifCond .eq 13, 3) := by decide +kernel
theorem dX2_copy_108 : decode cX2_copy 108 = .ok (.iload 5, 2) := by decide +kernel
theorem dX2_copy_110 : decode cX2_copy 110 = .ok (.iconst 1, 1) := by decide +kernel
theorem dX2_copy_111 : decode cX2_copy 111 = .ok (.isub, 1) := by decide +kernel
theorem dX2_copy_112 : decode cX2_copy 112 = .ok (.iload 7, 2) := by decide +kernel
theorem dX2_copy_114 : decode cX2_copy 114 = .ok (.isub, 1) := by decide +kernel
theorem dX2_copy_115 : decode cX2_copy 115 = .ok (.goto 5, 3) := by decide +kernel
theorem dX2_copy_118 : decode cX2_copy 118 = .ok (.iload 7, 2) := by decide +kernel
theorem dX2_copy_120 : decode cX2_copy 120 = .ok (.istore 8, 2) := by decide +kernel
theorem dX2_copy_122 : decode cX2_copy 122 = .ok (.aload_n 0, 1) := by decide +kernel
theorem dX2_copy_123 : decode cX2_copy 123 = .ok (.getfield 19, 3) := by decide +kernel
theorem dX2_copy_126 : decode cX2_copy 126 = .ok (.bipush 40, 2) := by decide +kernel
theorem dX2_copy_128 : decode cX2_copy 128 = .ok (.iload_n 3, 1) := by decide +kernel
theorem dX2_copy_129 : decode cX2_copy 129 = .ok (.imul, 1) := by decide +kernel
theorem dX2_copy_130 : decode cX2_copy 130 = .ok (.iload 4, 2) := by decide +kernel
theorem dX2_copy_132 : decode cX2_copy 132 = .ok (.iadd, 1) := by decide +kernel
theorem dX2_copy_133 : decode cX2_copy 133 = .ok (.iload 8, 2) := by decide +kernel
theorem dX2_copy_135 : decode cX2_copy 135 = .ok (.iadd, 1) := by decide +kernel
theorem dX2_copy_136 : decode cX2_copy 136 = .ok (.aload_n 0, 1) := by decide +kernel
theorem dX2_copy_137 : decode cX2_copy 137 = .ok (.getfield 19, 3) := by decide +kernel
theorem dX2_copy_140 : decode cX2_copy 140 = .ok (.bipush 40, 2) := by decide +kernel
theorem dX2_copy_142 : decode cX2_copy 142 = .ok (.iload_n 1, 1) := by decide +kernel
theorem dX2_copy_143 : decode cX2_copy 143 = .ok (.imul, 1) := by decide +kernel
theorem dX2_copy_144 : decode cX2_copy 144 = .ok (.iload_n 2, 1) := by decide +kernel
theorem dX2_copy_145 : decode cX2_copy 145 = .ok (.iadd, 1) := by decide +kernel
theorem dX2_copy_146 : decode cX2_copy 146 = .ok (.iload 8, 2) := by decide +kernel
theorem dX2_copy_148 : decode cX2_copy 148 = .ok (.iadd, 1) := by decide +kernel
theorem dX2_copy_149 : decode cX2_copy 149 = .ok (.iaload, 1) := by decide +kernel
theorem dX2_copy_150 : decode cX2_copy 150 = .ok (.iastore, 1) := by decide +kernel
theorem dX2_copy_151 : decode cX2_copy 151 = .ok (.iinc 7 1, 3) := by decide +kernel
theorem dX2_copy_154 : decode cX2_copy 154 = .ok (.goto (-58), 3) := by decide +kernel
theorem dX2_copy_157 : decode cX2_copy 157 = .ok (.iconst 1, 1) := by decide +kernel
theorem dX2_copy_158 : decode cX2_copy 158 = .ok (.ireturn, 1) := by decide +kernel
theorem k_X1_250 : Cond.constantLong RX1 250 (Int64.ofInt 17) ∈ gd_tbl := in_gd (i := 604) (by decide +kernel) rfl
theorem k_X1_252 : Cond.constantLong RX1 252 (Int64.ofInt 31) ∈ gd_tbl := in_gd (i := 605) (by decide +kernel) rfl
theorem mt_X1_count : (Cond.instanceMethod yX1_count ∈ gd_tbl ∧ Cond.selects yX1_count.cls yX1_count yX1_count ∈ gd_tbl) ∧ Cond.initialized yX1_count.cls ∈ gd_tbl ∧ Cond.code yX1_count cX1_count 2 (some .int) ∈ gd_tbl := ⟨⟨in_gd (i := 574) (by decide +kernel) rfl, in_gd (i := 575) (by decide +kernel) rfl⟩, in_gd (i := 84) (by decide +kernel) rfl, in_gd (i := 576) (by decide +kernel) rfl⟩
theorem yo_X1_count : yOk yX1_count 1 := ⟨by decide, by decide, by decide +kernel⟩
theorem l_X1_254 : mlV RX1 254 yX1_count cX1_count 2 (some .int) := ⟨in_gd (i := 606) (by decide +kernel) rfl, mt_X1_count⟩
theorem fl_X2_32 : FLk RX2 32 2 11 := Or.inl (in_gd (i := 624) (by decide +kernel) rfl)
theorem fl_X2_50 : FLk RX2 50 2 10 := Or.inl (in_gd (i := 623) (by decide +kernel) rfl)
theorem fl_X2_54 : FLk RX2 54 2 7 := Or.inl (in_gd (i := 620) (by decide +kernel) rfl)
theorem k_X2_57 : Cond.constantLong RX2 57 (Int64.ofInt 5) ∈ gd_tbl := in_gd (i := 690) (by decide +kernel) rfl
theorem mt_X2_in : Cond.static yX2_in ∈ gd_tbl ∧ Cond.initialized yX2_in.cls ∈ gd_tbl ∧ Cond.code yX2_in cX2_in 6 (some .boolean) ∈ gd_tbl := ⟨in_gd (i := 692) (by decide +kernel) rfl, in_gd (i := 87) (by decide +kernel) rfl, in_gd (i := 693) (by decide +kernel) rfl⟩
theorem yo_X2_in : yOk yX2_in 3 := ⟨by decide, by decide, by decide +kernel⟩
theorem l_X2_59 : mlS RX2 59 yX2_in cX2_in 6 (some .boolean) := ⟨in_gd (i := 691) (by decide +kernel) rfl, mt_X2_in⟩
theorem k_X2_63 : Cond.constantLong RX2 63 (Int64.ofInt 3) ∈ gd_tbl := in_gd (i := 741) (by decide +kernel) rfl
theorem fl_X2_16 : FLk RX2 16 2 3 := Or.inl (in_gd (i := 616) (by decide +kernel) rfl)
theorem fl_X2_19 : FLk RX2 19 2 4 := Or.inl (in_gd (i := 617) (by decide +kernel) rfl)
theorem mt_X2_isRow : Cond.static yX2_isRow ∈ gd_tbl ∧ Cond.initialized yX2_isRow.cls ∈ gd_tbl ∧ Cond.code yX2_isRow cX2_isRow 1 (some .boolean) ∈ gd_tbl := ⟨in_gd (i := 688) (by decide +kernel) rfl, in_gd (i := 87) (by decide +kernel) rfl, in_gd (i := 689) (by decide +kernel) rfl⟩
theorem yo_X2_isRow : yOk yX2_isRow 1 := ⟨by decide, by decide, by decide +kernel⟩
theorem l_X2_65 : mlS RX2 65 yX2_isRow cX2_isRow 1 (some .boolean) := ⟨in_gd (i := 687) (by decide +kernel) rfl, mt_X2_isRow⟩
theorem mt_X2_makeRow : (Cond.instanceMethod yX2_makeRow ∈ gd_tbl ∧ Cond.selects yX2_makeRow.cls yX2_makeRow yX2_makeRow ∈ gd_tbl) ∧ Cond.initialized yX2_makeRow.cls ∈ gd_tbl ∧ Cond.code yX2_makeRow cX2_makeRow 4 (none) ∈ gd_tbl := ⟨⟨in_gd (i := 700) (by decide +kernel) rfl, in_gd (i := 38) (by decide +kernel) rfl⟩, in_gd (i := 87) (by decide +kernel) rfl, in_gd (i := 701) (by decide +kernel) rfl⟩
theorem yo_X2_makeRow : yOk yX2_makeRow 2 := ⟨by decide, by decide, by decide +kernel⟩
theorem l_X2_73 : mlV RX2 73 yX2_makeRow cX2_makeRow 4 (none) := ⟨in_gd (i := 698) (by decide +kernel) rfl, mt_X2_makeRow⟩
theorem mt_X2_find : (Cond.instanceMethod yX2_find ∈ gd_tbl ∧ Cond.selects yX2_find.cls yX2_find yX2_find ∈ gd_tbl) ∧ Cond.initialized yX2_find.cls ∈ gd_tbl ∧ Cond.code yX2_find cX2_find 2 (some .int) ∈ gd_tbl := ⟨⟨in_gd (i := 696) (by decide +kernel) rfl, in_gd (i := 37) (by decide +kernel) rfl⟩, in_gd (i := 87) (by decide +kernel) rfl, in_gd (i := 697) (by decide +kernel) rfl⟩
theorem yo_X2_find : yOk yX2_find 1 := ⟨by decide, by decide, by decide +kernel⟩
theorem l_X2_69 : mlV RX2 69 yX2_find cX2_find 2 (some .int) := ⟨in_gd (i := 694) (by decide +kernel) rfl, mt_X2_find⟩
theorem mt_X2_refused : (Cond.instanceMethod yX2_refused ∈ gd_tbl ∧ Cond.selects yX2_refused.cls yX2_refused yX2_refused ∈ gd_tbl) ∧ Cond.initialized yX2_refused.cls ∈ gd_tbl ∧ Cond.code yX2_refused cX2_refused 3 (some .int) ∈ gd_tbl := ⟨⟨in_gd (i := 708) (by decide +kernel) rfl, in_gd (i := 39) (by decide +kernel) rfl⟩, in_gd (i := 87) (by decide +kernel) rfl, in_gd (i := 709) (by decide +kernel) rfl⟩
theorem yo_X2_refused : yOk yX2_refused 2 := ⟨by decide, by decide, by decide +kernel⟩
theorem l_X2_77 : mlV RX2 77 yX2_refused cX2_refused 3 (some .int) := ⟨in_gd (i := 706) (by decide +kernel) rfl, mt_X2_refused⟩
theorem mt_X2_tell : (Cond.instanceMethod yX2_tell ∈ gd_tbl ∧ Cond.selects yX2_tell.cls yX2_tell yX2_tell ∈ gd_tbl) ∧ Cond.initialized yX2_tell.cls ∈ gd_tbl ∧ Cond.code yX2_tell cX2_tell 2 (some .int) ∈ gd_tbl := ⟨⟨in_gd (i := 712) (by decide +kernel) rfl, in_gd (i := 40) (by decide +kernel) rfl⟩, in_gd (i := 87) (by decide +kernel) rfl, in_gd (i := 713) (by decide +kernel) rfl⟩
theorem yo_X2_tell : yOk yX2_tell 1 := ⟨by decide, by decide, by decide +kernel⟩
theorem l_X2_81 : mlV RX2 81 yX2_tell cX2_tell 2 (some .int) := ⟨in_gd (i := 710) (by decide +kernel) rfl, mt_X2_tell⟩
theorem mt_X2_isSpan : (Cond.instanceMethod yX2_isSpan ∈ gd_tbl ∧ Cond.selects yX2_isSpan.cls yX2_isSpan yX2_isSpan ∈ gd_tbl) ∧ Cond.initialized yX2_isSpan.cls ∈ gd_tbl ∧ Cond.code yX2_isSpan cX2_isSpan 4 (some .boolean) ∈ gd_tbl := ⟨⟨in_gd (i := 728) (by decide +kernel) rfl, in_gd (i := 41) (by decide +kernel) rfl⟩, in_gd (i := 87) (by decide +kernel) rfl, in_gd (i := 729) (by decide +kernel) rfl⟩
theorem yo_X2_isSpan : yOk yX2_isSpan 3 := ⟨by decide, by decide, by decide +kernel⟩
theorem l_X2_84 : mlV RX2 84 yX2_isSpan cX2_isSpan 4 (some .boolean) := ⟨in_gd (i := 726) (by decide +kernel) rfl, mt_X2_isSpan⟩
def fX1_digest_L200 (x10 : Int) (μ : Mem) (K14 : Int → Option Int) : Nat → Int → Int → Option Int
  | 0, _, _ => none
  | n18 + 1, x16, x17 =>
    grd (0 ≤ x10 ∧ x10 < 4) <|
    if (μ 14 (x10).toNat) ≤ x17 then
      K14 x16
    else
      grd (0 ≤ x10 ∧ x10 < 4) <|
      mlet (10 + (x10).toNat) fun c19 =>
      grd (0 ≤ x17 ∧ x17 < 60) <|
      mlet ((w64 ((w64 (31 * x16)) + (μ c19 (x17).toNat)))) fun x20 =>
      mlet (w32 (x17 + 1)) fun x21 =>
      fX1_digest_L200 x10 μ K14 n18 x20 x21
def fX1_digest_L178 (μ : Mem) : Nat → Int → Int → Option Int
  | 0, _, _ => none
  | n11 + 1, x9, x10 =>
    if 4 ≤ x10 then
      some x9
    else
      grd (0 ≤ x10 ∧ x10 < 4) <|
      mlet ((w64 ((w64 (31 * x9)) + (μ 14 (x10).toNat)))) fun x12 =>
      mlet (fun (x13 : Int) =>
        mlet (w32 (x10 + 1)) fun x15 =>
        fX1_digest_L178 μ n11 x13 x15
        ) fun (K14 : Int → Option Int) =>
      fX1_digest_L200 x10 μ K14 fuel x12 0
def fX1_digest_L136 (x25 : Int) (μ : Mem) (K29 : Int → Option Int) : Nat → Int → Int → Option Int
  | 0, _, _ => none
  | n33 + 1, x31, x32 =>
    grd (0 ≤ x25 ∧ x25 < 6) <|
    if (μ 8 (x25).toNat) ≤ x32 then
      K29 x31
    else
      grd (0 ≤ x25 ∧ x25 < 6) <|
      mlet (2 + (x25).toNat) fun c34 =>
      grd (0 ≤ x32 ∧ x32 < 40) <|
      mlet ((w64 ((w64 (31 * x31)) + (μ c34 (x32).toNat)))) fun x35 =>
      mlet (w32 (x32 + 1)) fun x36 =>
      fX1_digest_L136 x25 μ K29 n33 x35 x36
def fX1_digest_L113 (K8 : Int → Option Int) (μ : Mem) : Nat → Int → Int → Option Int
  | 0, _, _ => none
  | n26 + 1, x24, x25 =>
    if 6 ≤ x25 then
      K8 x24
    else
      grd (0 ≤ x25 ∧ x25 < 6) <|
      mlet ((w64 ((w64 (31 * x24)) + (μ 8 (x25).toNat)))) fun x27 =>
      mlet (fun (x28 : Int) =>
        mlet (w32 (x25 + 1)) fun x30 =>
        fX1_digest_L113 K8 μ n26 x28 x30
        ) fun (K29 : Int → Option Int) =>
      fX1_digest_L136 x25 μ K29 fuel x27 0
def fX1_digest_L86 (K6 : Int → Option Int) (μ : Mem) : Nat → Int → Int → Option Int
  | 0, _, _ => none
  | n41 + 1, x39, x40 =>
    if 3 ≤ x40 then
      K6 x39
    else
      grd (0 ≤ x40 ∧ x40 < 3) <|
      mlet ((w64 ((w64 (31 * x39)) + (μ 35 (x40).toNat)))) fun x42 =>
      mlet (w32 (x40 + 1)) fun x43 =>
      fX1_digest_L86 K6 μ n41 x42 x43
def fX1_digest_L47 (K49 : Int → Option Int) (x46 : Int) (μ : Mem) : Nat → Int → Int → Option Int
  | 0, _, _ => none
  | n53 + 1, x51, x52 =>
    if 6 ≤ x52 then
      K49 x51
    else
      (fX0_told 20 x46 x52 μ).bind fun x54 =>
      mlet ((w64 ((w64 (31 * x51)) + x54))) fun x55 =>
      mlet (w32 (x52 + 1)) fun x56 =>
      fX1_digest_L47 K49 x46 μ n53 x55 x56
def fX1_digest_L33 (μ : Mem) (K4 : Int → Option Int) : Nat → Int → Int → Option Int
  | 0, _, _ => none
  | n47 + 1, x45, x46 =>
    if (μ 20 4) ≤ x46 then
      K4 x45
    else
      mlet (fun (x48 : Int) =>
        mlet (w32 (x46 + 1)) fun x50 =>
        fX1_digest_L33 μ K4 n47 x48 x50
        ) fun (K49 : Int → Option Int) =>
      fX1_digest_L47 K49 x46 μ fuel x45 0
def fX1_digest_L6 (K2 : Int → Option Int) (μ : Mem) : Nat → Int → Int → Option Int
  | 0, _, _ => none
  | n61 + 1, x59, x60 =>
    if 12 ≤ x60 then
      K2 x59
    else
      (fX1_count x60 μ).bind fun x62 =>
      mlet ((w64 ((w64 (31 * x59)) + x62))) fun x63 =>
      mlet (w32 (x60 + 1)) fun x64 =>
      fX1_digest_L6 K2 μ n61 x63 x64
def fX1_digest (μ : Mem) : Option Int :=
  mlet (fun (x1 : Int) =>
    mlet (fun (x3 : Int) =>
      mlet (fun (x5 : Int) =>
        mlet (fun (x7 : Int) =>
          fX1_digest_L178 μ fuel x7 0
          ) fun (K8 : Int → Option Int) =>
        fX1_digest_L113 K8 μ fuel x5 0
        ) fun (K6 : Int → Option Int) =>
      fX1_digest_L86 K6 μ fuel x3 0
      ) fun (K4 : Int → Option Int) =>
    fX1_digest_L33 μ K4 fuel x1 0
    ) fun (K2 : Int → Option Int) =>
  fX1_digest_L6 K2 μ fuel 17 0
theorem K_X1_digest    (μ : Mem) : Con yX1_digest cX1_digest 5 (some .long) 7 [.inr (.inr 0)] μ (fX1_digest  μ) (rL μ) := by
  refine con_of (own := RX1) (by decide) rfl (Nat.le_of_ble_eq_true rfl) ?_
  show Sim cX1_digest 5 RX1 (7) (some .long) (rL μ) 0 [(0, .inr (.inr 0))] [] μ (fX1_digest  μ)
  unfold fX1_digest
  refine S_ldc2 dX1_digest_0 rfl k_X1_250 ?_
  refine S_lstore_n (lv' := [(1, .inr (.inl 17)), (0, .inr (.inr 0))]) dX1_digest_3 rfl rfl ?_
  refine S_iconst dX1_digest_4 rfl ?_
  refine S_istore_n (lv' := [(3, .inl 0), (1, .inr (.inl 17)), (0, .inr (.inr 0))]) dX1_digest_5 rfl rfl ?_
  refine S_jn (fun (K2 : Int → Option Int) => ∀ (x1 : Int), Sim cX1_digest 5 RX1 (7) (some .long) (rL μ) 31 [(0, .inr (.inr 0)), (1, .inr (.inl x1))] [] μ (K2 x1)) ?_ (fun K2 hK2 => ?_)
  · intro x1
    refine S_iconst dX1_digest_31 rfl ?_
    refine S_istore_n (lv' := [(3, .inl 0), (0, .inr (.inr 0)), (1, .inr (.inl x1))]) dX1_digest_32 rfl rfl ?_
    refine S_jn (fun (K4 : Int → Option Int) => ∀ (x3 : Int), Sim cX1_digest 5 RX1 (7) (some .long) (rL μ) 84 [(0, .inr (.inr 0)), (1, .inr (.inl x3))] [] μ (K4 x3)) ?_ (fun K4 hK4 => ?_)
    · intro x3
      refine S_iconst dX1_digest_84 rfl ?_
      refine S_istore_n (lv' := [(3, .inl 0), (0, .inr (.inr 0)), (1, .inr (.inl x3))]) dX1_digest_85 rfl rfl ?_
      refine S_jn (fun (K6 : Int → Option Int) => ∀ (x5 : Int), Sim cX1_digest 5 RX1 (7) (some .long) (rL μ) 111 [(0, .inr (.inr 0)), (1, .inr (.inl x5))] [] μ (K6 x5)) ?_ (fun K6 hK6 => ?_)
      · intro x5
        refine S_iconst dX1_digest_111 rfl ?_
        refine S_istore_n (lv' := [(3, .inl 0), (0, .inr (.inr 0)), (1, .inr (.inl x5))]) dX1_digest_112 rfl rfl ?_
        refine S_jn (fun (K8 : Int → Option Int) => ∀ (x7 : Int), Sim cX1_digest 5 RX1 (7) (some .long) (rL μ) 176 [(0, .inr (.inr 0)), (1, .inr (.inl x7))] [] μ (K8 x7)) ?_ (fun K8 hK8 => ?_)
        · intro x7
          refine S_iconst dX1_digest_176 rfl ?_
          refine S_istore_n (lv' := [(3, .inl 0), (0, .inr (.inr 0)), (1, .inr (.inl x7))]) dX1_digest_177 rfl rfl ?_
          have hL178 : ∀ (n11 : Nat) (x9 : Int) (x10 : Int), Sim cX1_digest 5 RX1 (7) (some .long) (rL μ) 178 [(0, .inr (.inr 0)), (1, .inr (.inl x9)), (3, .inl x10)] [] μ (fX1_digest_L178 μ n11 x9 x10) := by
            intro n11
            induction n11 with
            | zero =>
              intro x9 x10
              exact S_none rfl
            | succ n11 ih =>
              intro x9 x10
              rw [fX1_digest_L178]
              refine S_iload_n dX1_digest_178 rfl ?_
              refine S_iconst dX1_digest_179 rfl ?_
              refine S_ic_ge (tgt := 240) dX1_digest_180 (by decide) (fun h23 => ?_) (fun h23 => ?_)
              · refine S_lload_n dX1_digest_240 rfl ?_
                exact S_lret dX1_digest_241 rfl rfl
              · refine S_ldc2 dX1_digest_183 rfl k_X1_252 ?_
                refine S_lload_n dX1_digest_186 rfl ?_
                refine S_lmul dX1_digest_187 ?_
                refine S_aload_n dX1_digest_188 rfl ?_
                refine S_getR (c1 := 14) dX1_digest_189 rfl fl_X1_23 rfl rfl rfl ?_
                refine S_iload_n dX1_digest_192 rfl ?_
                refine S_iald (N := 4) dX1_digest_193 rfl (by decide) rfl ?_
                refine S_i2l dX1_digest_194 ?_
                refine S_ladd dX1_digest_195 ?_
                refine S_letL (fun x12 => ?_)
                refine S_lstore_n (lv' := [(1, .inr (.inl x12)), (0, .inr (.inr 0)), (3, .inl x10)]) dX1_digest_196 rfl rfl ?_
                refine S_iconst dX1_digest_197 rfl ?_
                refine S_istore (lv' := [(4, .inl 0), (1, .inr (.inl x12)), (0, .inr (.inr 0)), (3, .inl x10)]) dX1_digest_198 rfl rfl ?_
                refine S_jn (fun (K14 : Int → Option Int) => ∀ (x13 : Int), Sim cX1_digest 5 RX1 (7) (some .long) (rL μ) 234 [(0, .inr (.inr 0)), (1, .inr (.inl x13)), (3, .inl x10)] [] μ (K14 x13)) ?_ (fun K14 hK14 => ?_)
                · intro x13
                  refine S_iinc (lv' := fun x15 => [(3, .inl x15), (0, .inr (.inr 0)), (1, .inr (.inl x13))]) dX1_digest_234 rfl rfl rfl (fun _ => rfl) (fun x15 => ?_)
                  refine S_goto (tgt := 178) dX1_digest_237 (by decide) ?_
                  exact S_sub [1, 2, 0] rfl (ih x13 x15)
                have hL200 : ∀ (n18 : Nat) (x16 : Int) (x17 : Int), Sim cX1_digest 5 RX1 (7) (some .long) (rL μ) 200 [(0, .inr (.inr 0)), (1, .inr (.inl x16)), (3, .inl x10), (4, .inl x17)] [] μ (fX1_digest_L200 x10 μ K14 n18 x16 x17) := by
                  intro n18
                  induction n18 with
                  | zero =>
                    intro x16 x17
                    exact S_none rfl
                  | succ n18 ih =>
                    intro x16 x17
                    rw [fX1_digest_L200]
                    refine S_iload dX1_digest_200 rfl ?_
                    refine S_aload_n dX1_digest_202 rfl ?_
                    refine S_getR (c1 := 14) dX1_digest_203 rfl fl_X1_23 rfl rfl rfl ?_
                    refine S_iload_n dX1_digest_206 rfl ?_
                    refine S_iald (N := 4) dX1_digest_207 rfl (by decide) rfl ?_
                    refine S_ic_ge (tgt := 234) dX1_digest_208 (by decide) (fun h22 => ?_) (fun h22 => ?_)
                    · exact S_sub [0, 1, 2] rfl (hK14 x16)
                    · refine S_ldc2 dX1_digest_211 rfl k_X1_252 ?_
                      refine S_lload_n dX1_digest_214 rfl ?_
                      refine S_lmul dX1_digest_215 ?_
                      refine S_aload_n dX1_digest_216 rfl ?_
                      refine S_getR (c1 := 9) dX1_digest_217 rfl fl_X1_20 rfl rfl rfl ?_
                      refine S_iload_n dX1_digest_220 rfl ?_
                      refine S_aald (N := 4) (c1 := 10) (c2 := 14) dX1_digest_221 rfl (by decide) (by decide) rfl rfl rfl (fun c19 hc19 => ?_)
                      refine S_iload dX1_digest_222 rfl ?_
                      refine S_bald (N := 60) dX1_digest_224 (kd_text hc19) (fam_lt hc19 (by decide)) rfl ?_
                      refine S_i2l dX1_digest_225 ?_
                      refine S_ladd dX1_digest_226 ?_
                      refine S_letL (fun x20 => ?_)
                      refine S_lstore_n (lv' := [(1, .inr (.inl x20)), (0, .inr (.inr 0)), (3, .inl x10), (4, .inl x17)]) dX1_digest_227 rfl rfl ?_
                      refine S_iinc (lv' := fun x21 => [(4, .inl x21), (1, .inr (.inl x20)), (0, .inr (.inr 0)), (3, .inl x10)]) dX1_digest_228 rfl rfl rfl (fun _ => rfl) (fun x21 => ?_)
                      refine S_goto (tgt := 200) dX1_digest_231 (by decide) ?_
                      exact S_sub [2, 1, 3, 0] rfl (ih x20 x21)
                exact S_sub [2, 1, 3, 0] rfl (hL200 fuel x12 0)
          exact S_sub [1, 2, 0] rfl (hL178 fuel x7 0)
        have hL113 : ∀ (n26 : Nat) (x24 : Int) (x25 : Int), Sim cX1_digest 5 RX1 (7) (some .long) (rL μ) 113 [(0, .inr (.inr 0)), (1, .inr (.inl x24)), (3, .inl x25)] [] μ (fX1_digest_L113 K8 μ n26 x24 x25) := by
          intro n26
          induction n26 with
          | zero =>
            intro x24 x25
            exact S_none rfl
          | succ n26 ih =>
            intro x24 x25
            rw [fX1_digest_L113]
            refine S_iload_n dX1_digest_113 rfl ?_
            refine S_bipush dX1_digest_114 rfl (by decide) ?_
            refine S_ic_ge (tgt := 176) dX1_digest_116 (by decide) (fun h38 => ?_) (fun h38 => ?_)
            · exact S_sub [0, 1] rfl (hK8 x24)
            · refine S_ldc2 dX1_digest_119 rfl k_X1_252 ?_
              refine S_lload_n dX1_digest_122 rfl ?_
              refine S_lmul dX1_digest_123 ?_
              refine S_aload_n dX1_digest_124 rfl ?_
              refine S_getR (c1 := 8) dX1_digest_125 rfl fl_X1_14 rfl rfl rfl ?_
              refine S_iload_n dX1_digest_128 rfl ?_
              refine S_iald (N := 6) dX1_digest_129 rfl (by decide) rfl ?_
              refine S_i2l dX1_digest_130 ?_
              refine S_ladd dX1_digest_131 ?_
              refine S_letL (fun x27 => ?_)
              refine S_lstore_n (lv' := [(1, .inr (.inl x27)), (0, .inr (.inr 0)), (3, .inl x25)]) dX1_digest_132 rfl rfl ?_
              refine S_iconst dX1_digest_133 rfl ?_
              refine S_istore (lv' := [(4, .inl 0), (1, .inr (.inl x27)), (0, .inr (.inr 0)), (3, .inl x25)]) dX1_digest_134 rfl rfl ?_
              refine S_jn (fun (K29 : Int → Option Int) => ∀ (x28 : Int), Sim cX1_digest 5 RX1 (7) (some .long) (rL μ) 170 [(0, .inr (.inr 0)), (1, .inr (.inl x28)), (3, .inl x25)] [] μ (K29 x28)) ?_ (fun K29 hK29 => ?_)
              · intro x28
                refine S_iinc (lv' := fun x30 => [(3, .inl x30), (0, .inr (.inr 0)), (1, .inr (.inl x28))]) dX1_digest_170 rfl rfl rfl (fun _ => rfl) (fun x30 => ?_)
                refine S_goto (tgt := 113) dX1_digest_173 (by decide) ?_
                exact S_sub [1, 2, 0] rfl (ih x28 x30)
              have hL136 : ∀ (n33 : Nat) (x31 : Int) (x32 : Int), Sim cX1_digest 5 RX1 (7) (some .long) (rL μ) 136 [(0, .inr (.inr 0)), (1, .inr (.inl x31)), (3, .inl x25), (4, .inl x32)] [] μ (fX1_digest_L136 x25 μ K29 n33 x31 x32) := by
                intro n33
                induction n33 with
                | zero =>
                  intro x31 x32
                  exact S_none rfl
                | succ n33 ih =>
                  intro x31 x32
                  rw [fX1_digest_L136]
                  refine S_iload dX1_digest_136 rfl ?_
                  refine S_aload_n dX1_digest_138 rfl ?_
                  refine S_getR (c1 := 8) dX1_digest_139 rfl fl_X1_14 rfl rfl rfl ?_
                  refine S_iload_n dX1_digest_142 rfl ?_
                  refine S_iald (N := 6) dX1_digest_143 rfl (by decide) rfl ?_
                  refine S_ic_ge (tgt := 170) dX1_digest_144 (by decide) (fun h37 => ?_) (fun h37 => ?_)
                  · exact S_sub [0, 1, 2] rfl (hK29 x31)
                  · refine S_ldc2 dX1_digest_147 rfl k_X1_252 ?_
                    refine S_lload_n dX1_digest_150 rfl ?_
                    refine S_lmul dX1_digest_151 ?_
                    refine S_aload_n dX1_digest_152 rfl ?_
                    refine S_getR (c1 := 1) dX1_digest_153 rfl fl_X1_11 rfl rfl rfl ?_
                    refine S_iload_n dX1_digest_156 rfl ?_
                    refine S_aald (N := 6) (c1 := 2) (c2 := 8) dX1_digest_157 rfl (by decide) (by decide) rfl rfl rfl (fun c34 hc34 => ?_)
                    refine S_iload dX1_digest_158 rfl ?_
                    refine S_iald (N := 40) dX1_digest_160 (kd_row hc34) (fam_lt hc34 (by decide)) rfl ?_
                    refine S_i2l dX1_digest_161 ?_
                    refine S_ladd dX1_digest_162 ?_
                    refine S_letL (fun x35 => ?_)
                    refine S_lstore_n (lv' := [(1, .inr (.inl x35)), (0, .inr (.inr 0)), (3, .inl x25), (4, .inl x32)]) dX1_digest_163 rfl rfl ?_
                    refine S_iinc (lv' := fun x36 => [(4, .inl x36), (1, .inr (.inl x35)), (0, .inr (.inr 0)), (3, .inl x25)]) dX1_digest_164 rfl rfl rfl (fun _ => rfl) (fun x36 => ?_)
                    refine S_goto (tgt := 136) dX1_digest_167 (by decide) ?_
                    exact S_sub [2, 1, 3, 0] rfl (ih x35 x36)
              exact S_sub [2, 1, 3, 0] rfl (hL136 fuel x27 0)
        exact S_sub [1, 2, 0] rfl (hL113 fuel x5 0)
      have hL86 : ∀ (n41 : Nat) (x39 : Int) (x40 : Int), Sim cX1_digest 5 RX1 (7) (some .long) (rL μ) 86 [(0, .inr (.inr 0)), (1, .inr (.inl x39)), (3, .inl x40)] [] μ (fX1_digest_L86 K6 μ n41 x39 x40) := by
        intro n41
        induction n41 with
        | zero =>
          intro x39 x40
          exact S_none rfl
        | succ n41 ih =>
          intro x39 x40
          rw [fX1_digest_L86]
          refine S_iload_n dX1_digest_86 rfl ?_
          refine S_iconst dX1_digest_87 rfl ?_
          refine S_ic_ge (tgt := 111) dX1_digest_88 (by decide) (fun h44 => ?_) (fun h44 => ?_)
          · exact S_sub [0, 1] rfl (hK6 x39)
          · refine S_ldc2 dX1_digest_91 rfl k_X1_252 ?_
            refine S_lload_n dX1_digest_94 rfl ?_
            refine S_lmul dX1_digest_95 ?_
            refine S_aload_n dX1_digest_96 rfl ?_
            refine S_getR (c1 := 35) dX1_digest_97 rfl fl_X1_49 rfl rfl rfl ?_
            refine S_iload_n dX1_digest_100 rfl ?_
            refine S_iald (N := 3) dX1_digest_101 rfl (by decide) rfl ?_
            refine S_i2l dX1_digest_102 ?_
            refine S_ladd dX1_digest_103 ?_
            refine S_letL (fun x42 => ?_)
            refine S_lstore_n (lv' := [(1, .inr (.inl x42)), (0, .inr (.inr 0)), (3, .inl x40)]) dX1_digest_104 rfl rfl ?_
            refine S_iinc (lv' := fun x43 => [(3, .inl x43), (1, .inr (.inl x42)), (0, .inr (.inr 0))]) dX1_digest_105 rfl rfl rfl (fun _ => rfl) (fun x43 => ?_)
            refine S_goto (tgt := 86) dX1_digest_108 (by decide) ?_
            exact S_sub [2, 1, 0] rfl (ih x42 x43)
      exact S_sub [1, 2, 0] rfl (hL86 fuel x3 0)
    have hL33 : ∀ (n47 : Nat) (x45 : Int) (x46 : Int), Sim cX1_digest 5 RX1 (7) (some .long) (rL μ) 33 [(0, .inr (.inr 0)), (1, .inr (.inl x45)), (3, .inl x46)] [] μ (fX1_digest_L33 μ K4 n47 x45 x46) := by
      intro n47
      induction n47 with
      | zero =>
        intro x45 x46
        exact S_none rfl
      | succ n47 ih =>
        intro x45 x46
        rw [fX1_digest_L33]
        refine S_iload_n dX1_digest_33 rfl ?_
        refine S_aload_n dX1_digest_34 rfl ?_
        refine S_getR (c1 := 20) dX1_digest_35 rfl fl_X1_33 rfl rfl rfl ?_
        refine S_getI dX1_digest_38 rfl fl_X1_122 rfl rfl ?_
        refine S_ic_ge (tgt := 84) dX1_digest_41 (by decide) (fun h58 => ?_) (fun h58 => ?_)
        · exact S_sub [0, 1] rfl (hK4 x45)
        · refine S_iconst dX1_digest_44 rfl ?_
          refine S_istore (lv' := [(4, .inl 0), (0, .inr (.inr 0)), (1, .inr (.inl x45)), (3, .inl x46)]) dX1_digest_45 rfl rfl ?_
          refine S_jn (fun (K49 : Int → Option Int) => ∀ (x48 : Int), Sim cX1_digest 5 RX1 (7) (some .long) (rL μ) 78 [(0, .inr (.inr 0)), (1, .inr (.inl x48)), (3, .inl x46)] [] μ (K49 x48)) ?_ (fun K49 hK49 => ?_)
          · intro x48
            refine S_iinc (lv' := fun x50 => [(3, .inl x50), (0, .inr (.inr 0)), (1, .inr (.inl x48))]) dX1_digest_78 rfl rfl rfl (fun _ => rfl) (fun x50 => ?_)
            refine S_goto (tgt := 33) dX1_digest_81 (by decide) ?_
            exact S_sub [1, 2, 0] rfl (ih x48 x50)
          have hL47 : ∀ (n53 : Nat) (x51 : Int) (x52 : Int), Sim cX1_digest 5 RX1 (7) (some .long) (rL μ) 47 [(0, .inr (.inr 0)), (1, .inr (.inl x51)), (3, .inl x46), (4, .inl x52)] [] μ (fX1_digest_L47 K49 x46 μ n53 x51 x52) := by
            intro n53
            induction n53 with
            | zero =>
              intro x51 x52
              exact S_none rfl
            | succ n53 ih =>
              intro x51 x52
              rw [fX1_digest_L47]
              refine S_iload dX1_digest_47 rfl ?_
              refine S_bipush dX1_digest_49 rfl (by decide) ?_
              refine S_ic_ge (tgt := 78) dX1_digest_51 (by decide) (fun h57 => ?_) (fun h57 => ?_)
              · exact S_sub [0, 1, 2] rfl (hK49 x51)
              · refine S_ldc2 dX1_digest_54 rfl k_X1_252 ?_
                refine S_lload_n dX1_digest_57 rfl ?_
                refine S_lmul dX1_digest_58 ?_
                refine S_aload_n dX1_digest_59 rfl ?_
                refine S_getR (c1 := 20) dX1_digest_60 rfl fl_X1_33 rfl rfl rfl ?_
                refine S_iload_n dX1_digest_63 rfl ?_
                refine S_iload dX1_digest_64 rfl ?_
                refine S_callW_I dX1_digest_66 [.inl x46, .inl x52] (K_X0_told (by unfold isBk; decide) x46 x52 μ) l_X1_132 yo_X0_told rfl rfl rfl rfl rfl (fun x54 => ?_)
                refine S_i2l dX1_digest_69 ?_
                refine S_ladd dX1_digest_70 ?_
                refine S_letL (fun x55 => ?_)
                refine S_lstore_n (lv' := [(1, .inr (.inl x55)), (0, .inr (.inr 0)), (3, .inl x46), (4, .inl x52)]) dX1_digest_71 rfl rfl ?_
                refine S_iinc (lv' := fun x56 => [(4, .inl x56), (1, .inr (.inl x55)), (0, .inr (.inr 0)), (3, .inl x46)]) dX1_digest_72 rfl rfl rfl (fun _ => rfl) (fun x56 => ?_)
                refine S_goto (tgt := 47) dX1_digest_75 (by decide) ?_
                exact S_sub [2, 1, 3, 0] rfl (ih x55 x56)
          exact S_sub [1, 2, 3, 0] rfl (hL47 fuel x45 0)
    exact S_sub [1, 2, 0] rfl (hL33 fuel x1 0)
  have hL6 : ∀ (n61 : Nat) (x59 : Int) (x60 : Int), Sim cX1_digest 5 RX1 (7) (some .long) (rL μ) 6 [(0, .inr (.inr 0)), (1, .inr (.inl x59)), (3, .inl x60)] [] μ (fX1_digest_L6 K2 μ n61 x59 x60) := by
    intro n61
    induction n61 with
    | zero =>
      intro x59 x60
      exact S_none rfl
    | succ n61 ih =>
      intro x59 x60
      rw [fX1_digest_L6]
      refine S_iload_n dX1_digest_6 rfl ?_
      refine S_bipush dX1_digest_7 rfl (by decide) ?_
      refine S_ic_ge (tgt := 31) dX1_digest_9 (by decide) (fun h65 => ?_) (fun h65 => ?_)
      · exact S_sub [0, 1] rfl (hK2 x59)
      · refine S_ldc2 dX1_digest_12 rfl k_X1_252 ?_
        refine S_lload_n dX1_digest_15 rfl ?_
        refine S_lmul dX1_digest_16 ?_
        refine S_aload_n dX1_digest_17 rfl ?_
        refine S_iload_n dX1_digest_18 rfl ?_
        refine S_callV_I dX1_digest_19 [.inl x60] (K_X1_count x60 μ) l_X1_254 yo_X1_count rfl rfl rfl rfl rfl (fun x62 => ?_)
        refine S_i2l dX1_digest_22 ?_
        refine S_ladd dX1_digest_23 ?_
        refine S_letL (fun x63 => ?_)
        refine S_lstore_n (lv' := [(1, .inr (.inl x63)), (0, .inr (.inr 0)), (3, .inl x60)]) dX1_digest_24 rfl rfl ?_
        refine S_iinc (lv' := fun x64 => [(3, .inl x64), (1, .inr (.inl x63)), (0, .inr (.inr 0))]) dX1_digest_25 rfl rfl rfl (fun _ => rfl) (fun x64 => ?_)
        refine S_goto (tgt := 6) dX1_digest_28 (by decide) ?_
        exact S_sub [2, 1, 0] rfl (ih x63 x64)
  exact S_sub [2, 1, 0] rfl (hL6 fuel 17 0)
def fX2_in (p1 : Int) (p2 : Int) (p3 : Int) (μ : Mem) : Option Int :=
  mlet (
    some 0
    : Option Int) fun (K1 : Option Int) =>
  if (lcmpZ p1 p2) < 0 then
    K1
  else
    if 0 < (lcmpZ p1 p3) then
      K1
    else
      some 1
theorem K_X2_in  (p1 : Int) (p2 : Int) (p3 : Int)  (μ : Mem) : Con yX2_in cX2_in 6 (some .boolean) 2 [.inr (.inl p1), .inr (.inl p2), .inr (.inl p3)] μ (fX2_in p1 p2 p3 μ) (rI μ) := by
  refine con_of (own := RX2) (by decide) rfl (Nat.le_of_ble_eq_true rfl) ?_
  show Sim cX2_in 6 RX2 (2) (some .boolean) (rI μ) 0 [(0, .inr (.inl p1)), (2, .inr (.inl p2)), (4, .inr (.inl p3))] [] μ (fX2_in p1 p2 p3 μ)
  unfold fX2_in
  refine S_lload_n dX2_in_0 rfl ?_
  refine S_lload_n dX2_in_1 rfl ?_
  refine S_lcmp dX2_in_2 ?_
  refine S_jn (fun (K1 : Option Int) => Sim cX2_in 6 RX2 (2) (some .boolean) (rI μ) 17 [] [] μ K1) ?_ (fun K1 hK1 => ?_)
  · skip
    refine S_iconst dX2_in_17 rfl ?_
    exact S_zret dX2_in_18 rfl (by decide) rfl
  refine S_if_lt (tgt := 17) dX2_in_3 (by decide) (fun h3 => ?_) (fun h3 => ?_)
  · exact S_sub [] rfl (hK1)
  · refine S_lload_n dX2_in_6 rfl ?_
    refine S_lload dX2_in_7 rfl ?_
    refine S_lcmp dX2_in_9 ?_
    refine S_if_gt (tgt := 17) dX2_in_10 (by decide) (fun h2 => ?_) (fun h2 => ?_)
    · exact S_sub [] rfl (hK1)
    · refine S_iconst dX2_in_13 rfl ?_
      refine S_goto (tgt := 18) dX2_in_14 (by decide) ?_
      exact S_zret dX2_in_18 rfl (by decide) rfl
def fX2_has (p1 : Int) (p2 : Int) (μ : Mem) : Option Int :=
  if ¬ (band (bshr p1 p2) 1) = 1 then
    some 0
  else
    some 1
theorem K_X2_has  (p1 : Int) (p2 : Int)  (μ : Mem) : Con yX2_has cX2_has 2 (some .boolean) 2 [.inl p1, .inl p2] μ (fX2_has p1 p2 μ) (rI μ) := by
  refine con_of (own := RX2) (by decide) rfl (Nat.le_of_ble_eq_true rfl) ?_
  show Sim cX2_has 2 RX2 (2) (some .boolean) (rI μ) 0 [(0, .inl p1), (1, .inl p2)] [] μ (fX2_has p1 p2 μ)
  unfold fX2_has
  refine S_iload_n dX2_has_0 rfl ?_
  refine S_iload_n dX2_has_1 rfl ?_
  refine S_ishr dX2_has_2 ?_
  refine S_iconst dX2_has_3 rfl ?_
  refine S_iand dX2_has_4 ?_
  refine S_iconst dX2_has_5 rfl ?_
  refine S_ic_ne (tgt := 13) dX2_has_6 (by decide) (fun h1 => ?_) (fun h1 => ?_)
  · refine S_iconst dX2_has_13 rfl ?_
    exact S_zret dX2_has_14 rfl (by decide) rfl
  · refine S_iconst dX2_has_9 rfl ?_
    refine S_goto (tgt := 14) dX2_has_10 (by decide) ?_
    exact S_zret dX2_has_14 rfl (by decide) rfl
def fX2_find (p1 : Int) (μ : Mem) : Option (Int × Mem) :=
  mlet (wr μ 60 10 p1) fun μ1 =>
  grd (0 ≤ p1 ∧ p1 < 6) <|
  grd (0 ≤ p1 ∧ p1 < 6) <|
  mlet (wr μ1 67 (p1).toNat (w32 ((μ1 67 (p1).toNat) + 1))) fun μ2 =>
  some ((-3), μ2)
theorem K_X2_find  (p1 : Int)  (μ : Mem) : Con yX2_find cX2_find 2 (some .int) 2 [.inr (.inr 60), .inl p1] μ (fX2_find p1 μ) wI := by
  refine con_of (own := RX2) (by decide) rfl (Nat.le_of_ble_eq_true rfl) ?_
  show Sim cX2_find 2 RX2 (2) (some .int) wI 0 [(0, .inr (.inr 60)), (1, .inl p1)] [] μ (fX2_find p1 μ)
  unfold fX2_find
  refine S_aload_n dX2_find_0 rfl ?_
  refine S_iload_n dX2_find_1 rfl ?_
  refine S_putI dX2_find_2 rfl fl_X2_50 rfl rfl rfl rfl (fun μ1 => ?_)
  refine S_aload_n dX2_find_5 rfl ?_
  refine S_getR (c1 := 67) dX2_find_6 rfl fl_X2_32 rfl rfl rfl ?_
  refine S_iload_n dX2_find_9 rfl ?_
  refine S_dup2 dX2_find_10 rfl rfl ?_
  refine S_iald (N := 6) dX2_find_11 rfl (by decide) rfl ?_
  refine S_iconst dX2_find_12 rfl ?_
  refine S_iadd dX2_find_13 ?_
  refine S_iast (N := 6) dX2_find_14 rfl (by decide) rfl (fun μ2 => ?_)
  refine S_bipush dX2_find_15 rfl (by decide) ?_
  exact S_iret dX2_find_17 rfl rfl
def fX2_tell (p1 : Int) (μ : Mem) : Option (Int × Mem) :=
  mlet (wr μ 60 7 p1) fun μ1 =>
  some (1, μ1)
theorem K_X2_tell  (p1 : Int)  (μ : Mem) : Con yX2_tell cX2_tell 2 (some .int) 2 [.inr (.inr 60), .inl p1] μ (fX2_tell p1 μ) wI := by
  refine con_of (own := RX2) (by decide) rfl (Nat.le_of_ble_eq_true rfl) ?_
  show Sim cX2_tell 2 RX2 (2) (some .int) wI 0 [(0, .inr (.inr 60)), (1, .inl p1)] [] μ (fX2_tell p1 μ)
  unfold fX2_tell
  refine S_aload_n dX2_tell_0 rfl ?_
  refine S_iload_n dX2_tell_1 rfl ?_
  refine S_putI dX2_tell_2 rfl fl_X2_54 rfl rfl rfl rfl (fun μ1 => ?_)
  refine S_iconst dX2_tell_5 rfl ?_
  exact S_iret dX2_tell_6 rfl rfl
def fX2_isRow (p1 : Int) (μ : Mem) : Option Int :=
  (fX2_in p1 0 5 μ).bind fun x1 =>
  grd (x1 = 0 ∨ x1 = 1) <|
  some x1
theorem K_X2_isRow  (p1 : Int)  (μ : Mem) : Con yX2_isRow cX2_isRow 1 (some .boolean) 3 [.inl p1] μ (fX2_isRow p1 μ) (rI μ) := by
  refine con_of (own := RX2) (by decide) rfl (Nat.le_of_ble_eq_true rfl) ?_
  show Sim cX2_isRow 1 RX2 (3) (some .boolean) (rI μ) 0 [(0, .inl p1)] [] μ (fX2_isRow p1 μ)
  unfold fX2_isRow
  refine S_iload_n dX2_isRow_0 rfl ?_
  refine S_i2l dX2_isRow_1 ?_
  refine S_lconst (n := 0) dX2_isRow_2 (by decide) rfl ?_
  refine S_ldc2 dX2_isRow_3 rfl k_X2_57 ?_
  refine S_callS_I dX2_isRow_6 [.inr (.inl p1), .inr (.inl 0), .inr (.inl 5)] (K_X2_in p1 0 5 μ) l_X2_59 yo_X2_in rfl rfl rfl (fun x1 => ?_)
  refine S_g (fun hz => ?_)
  exact S_zret dX2_isRow_9 rfl hz rfl
def fX2_isText (p1 : Int) (μ : Mem) : Option Int :=
  (fX2_in p1 0 3 μ).bind fun x1 =>
  grd (x1 = 0 ∨ x1 = 1) <|
  some x1
theorem K_X2_isText  (p1 : Int)  (μ : Mem) : Con yX2_isText cX2_isText 1 (some .boolean) 3 [.inl p1] μ (fX2_isText p1 μ) (rI μ) := by
  refine con_of (own := RX2) (by decide) rfl (Nat.le_of_ble_eq_true rfl) ?_
  show Sim cX2_isText 1 RX2 (3) (some .boolean) (rI μ) 0 [(0, .inl p1)] [] μ (fX2_isText p1 μ)
  unfold fX2_isText
  refine S_iload_n dX2_isText_0 rfl ?_
  refine S_i2l dX2_isText_1 ?_
  refine S_lconst (n := 0) dX2_isText_2 (by decide) rfl ?_
  refine S_ldc2 dX2_isText_3 rfl k_X2_63 ?_
  refine S_callS_I dX2_isText_6 [.inr (.inl p1), .inr (.inl 0), .inr (.inl 3)] (K_X2_in p1 0 3 μ) l_X2_59 yo_X2_in rfl rfl rfl (fun x1 => ?_)
  refine S_g (fun hz => ?_)
  exact S_zret dX2_isText_9 rfl hz rfl
def fX2_makeRow_L9 (p1 : Int) : Nat → Int → Mem → Option Mem
  | 0, _, _ => none
  | n4 + 1, x2, μ3 =>
    if 40 ≤ x2 then
      some μ3
    else
      grd (0 ≤ (w32 ((w32 (40 * p1)) + x2)) ∧ (w32 ((w32 (40 * p1)) + x2)) < 240) <|
      mlet (wr μ3 64 ((w32 ((w32 (40 * p1)) + x2))).toNat 0) fun μ5 =>
      mlet (w32 (x2 + 1)) fun x6 =>
      fX2_makeRow_L9 p1 n4 x6 μ5
def fX2_makeRow (p1 : Int) (p2 : Int) (μ : Mem) : Option Mem :=
  grd (0 ≤ p1 ∧ p1 < 6) <|
  mlet (wr μ 63 (p1).toNat p2) fun μ1 =>
  fX2_makeRow_L9 p1 fuel 0 μ1
theorem K_X2_makeRow  (p1 : Int) (p2 : Int)  (μ : Mem) : Con yX2_makeRow cX2_makeRow 4 (none) 2 [.inr (.inr 60), .inl p1, .inl p2] μ (fX2_makeRow p1 p2 μ) wV := by
  refine con_of (own := RX2) (by decide) rfl (Nat.le_of_ble_eq_true rfl) ?_
  show Sim cX2_makeRow 4 RX2 (2) (none) wV 0 [(0, .inr (.inr 60)), (1, .inl p1), (2, .inl p2)] [] μ (fX2_makeRow p1 p2 μ)
  unfold fX2_makeRow
  refine S_aload_n dX2_makeRow_0 rfl ?_
  refine S_getR (c1 := 63) dX2_makeRow_1 rfl fl_X2_16 rfl rfl rfl ?_
  refine S_iload_n dX2_makeRow_4 rfl ?_
  refine S_iload_n dX2_makeRow_5 rfl ?_
  refine S_iast (N := 6) dX2_makeRow_6 rfl (by decide) rfl (fun μ1 => ?_)
  refine S_iconst dX2_makeRow_7 rfl ?_
  refine S_istore_n (lv' := [(3, .inl 0), (0, .inr (.inr 60)), (1, .inl p1), (2, .inl p2)]) dX2_makeRow_8 rfl rfl ?_
  have hL9 : ∀ (n4 : Nat) (x2 : Int) (μ3 : Mem), Sim cX2_makeRow 4 RX2 (2) (none) wV 9 [(0, .inr (.inr 60)), (1, .inl p1), (3, .inl x2)] [] μ3 (fX2_makeRow_L9 p1 n4 x2 μ3) := by
    intro n4
    induction n4 with
    | zero =>
      intro x2 μ3
      exact S_none rfl
    | succ n4 ih =>
      intro x2 μ3
      rw [fX2_makeRow_L9]
      refine S_iload_n dX2_makeRow_9 rfl ?_
      refine S_bipush dX2_makeRow_10 rfl (by decide) ?_
      refine S_ic_ge (tgt := 33) dX2_makeRow_12 (by decide) (fun h7 => ?_) (fun h7 => ?_)
      · exact S_vret dX2_makeRow_33 rfl rfl
      · refine S_aload_n dX2_makeRow_15 rfl ?_
        refine S_getR (c1 := 64) dX2_makeRow_16 rfl fl_X2_19 rfl rfl rfl ?_
        refine S_bipush dX2_makeRow_19 rfl (by decide) ?_
        refine S_iload_n dX2_makeRow_21 rfl ?_
        refine S_imul dX2_makeRow_22 ?_
        refine S_iload_n dX2_makeRow_23 rfl ?_
        refine S_iadd dX2_makeRow_24 ?_
        refine S_iconst dX2_makeRow_25 rfl ?_
        refine S_iast (N := 240) dX2_makeRow_26 rfl (by decide) rfl (fun μ5 => ?_)
        refine S_iinc (lv' := fun x6 => [(3, .inl x6), (0, .inr (.inr 60)), (1, .inl p1)]) dX2_makeRow_27 rfl rfl rfl (fun _ => rfl) (fun x6 => ?_)
        refine S_goto (tgt := 9) dX2_makeRow_30 (by decide) ?_
        exact S_sub [1, 2, 0] rfl (ih x6 μ5)
  exact S_sub [1, 2, 0] rfl (hL9 fuel 0 μ1)
def fX2_row (p1 : Int) (p2 : Int) (μ : Mem) : Option (Int × Mem) :=
  (fX2_isRow p1 μ).bind fun x1 =>
  if x1 = 0 then
    some ((-1), μ)
  else
    if p2 ≤ 40 then
      if 0 ≤ p2 then
        (fX2_makeRow p1 p2 μ).bind fun μ2 =>
        some (p2, μ2)
      else
        bnd2 (fX2_find 5 μ) fun x3 μ4 =>
        some (x3, μ4)
    else
      some ((-1), μ)
theorem K_X2_row  (p1 : Int) (p2 : Int)  (μ : Mem) : Con yX2_row cX2_row 3 (some .int) 4 [.inr (.inr 60), .inl p1, .inl p2] μ (fX2_row p1 p2 μ) wI := by
  refine con_of (own := RX2) (by decide) rfl (Nat.le_of_ble_eq_true rfl) ?_
  show Sim cX2_row 3 RX2 (4) (some .int) wI 0 [(0, .inr (.inr 60)), (1, .inl p1), (2, .inl p2)] [] μ (fX2_row p1 p2 μ)
  unfold fX2_row
  refine S_iload_n dX2_row_0 rfl ?_
  refine S_callS_I dX2_row_1 [.inl p1] (K_X2_isRow p1 μ) l_X2_65 yo_X2_isRow rfl rfl rfl (fun x1 => ?_)
  refine S_if_eq (tgt := 13) dX2_row_4 (by decide) (fun h7 => ?_) (fun h7 => ?_)
  · refine S_iconst dX2_row_13 rfl ?_
    exact S_iret dX2_row_14 rfl rfl
  · refine S_iload_n dX2_row_7 rfl ?_
    refine S_bipush dX2_row_8 rfl (by decide) ?_
    refine S_ic_le (tgt := 15) dX2_row_10 (by decide) (fun h6 => ?_) (fun h6 => ?_)
    · refine S_iload_n dX2_row_15 rfl ?_
      refine S_if_ge (tgt := 25) dX2_row_16 (by decide) (fun h5 => ?_) (fun h5 => ?_)
      · refine S_aload_n dX2_row_25 rfl ?_
        refine S_iload_n dX2_row_26 rfl ?_
        refine S_iload_n dX2_row_27 rfl ?_
        refine S_callV_V dX2_row_28 [.inl p1, .inl p2] (K_X2_makeRow p1 p2 μ) l_X2_73 yo_X2_makeRow rfl rfl rfl rfl rfl (fun μ2 => ?_)
        refine S_iload_n dX2_row_31 rfl ?_
        exact S_iret dX2_row_32 rfl rfl
      · refine S_aload_n dX2_row_19 rfl ?_
        refine S_iconst dX2_row_20 rfl ?_
        refine S_callV_M2 dX2_row_21 [.inl 5] (K_X2_find 5 μ) l_X2_69 yo_X2_find rfl rfl rfl rfl rfl (fun x3 μ4 => ?_)
        exact S_iret dX2_row_24 rfl rfl
    · refine S_iconst dX2_row_13 rfl ?_
      exact S_iret dX2_row_14 rfl rfl
def fX2_refused (p1 : Int) (p2 : Int) (μ : Mem) : Option (Int × Mem) :=
  (fX2_isRow p1 μ).bind fun x1 =>
  if ¬ x1 = 0 then
    grd (0 ≤ p1 ∧ p1 < 6) <|
    if 0 ≤ (μ 63 (p1).toNat) then
      grd (0 ≤ p1 ∧ p1 < 6) <|
      (fX2_in p2 0 (w32 ((μ 63 (p1).toNat) - 1)) μ).bind fun x2 =>
      if x2 = 0 then
        bnd2 (fX2_find 2 μ) fun x3 μ4 =>
        some (x3, μ4)
      else
        some (0, μ)
    else
      bnd2 (fX2_find 1 μ) fun x6 μ7 =>
      some (x6, μ7)
  else
    some ((-1), μ)
theorem K_X2_refused  (p1 : Int) (p2 : Int)  (μ : Mem) : Con yX2_refused cX2_refused 3 (some .int) 4 [.inr (.inr 60), .inl p1, .inl p2] μ (fX2_refused p1 p2 μ) wI := by
  refine con_of (own := RX2) (by decide) rfl (Nat.le_of_ble_eq_true rfl) ?_
  show Sim cX2_refused 3 RX2 (4) (some .int) wI 0 [(0, .inr (.inr 60)), (1, .inl p1), (2, .inl p2)] [] μ (fX2_refused p1 p2 μ)
  unfold fX2_refused
  refine S_iload_n dX2_refused_0 rfl ?_
  refine S_callS_I dX2_refused_1 [.inl p1] (K_X2_isRow p1 μ) l_X2_65 yo_X2_isRow rfl rfl rfl (fun x1 => ?_)
  refine S_if_ne (tgt := 11) dX2_refused_4 (by decide) (fun h9 => ?_) (fun h9 => ?_)
  · refine S_aload_n dX2_refused_11 rfl ?_
    refine S_getR (c1 := 63) dX2_refused_12 rfl fl_X2_16 rfl rfl rfl ?_
    refine S_iload_n dX2_refused_15 rfl ?_
    refine S_iald (N := 6) dX2_refused_16 rfl (by decide) rfl ?_
    refine S_if_ge (tgt := 28) dX2_refused_17 (by decide) (fun h8 => ?_) (fun h8 => ?_)
    · refine S_iload_n dX2_refused_28 rfl ?_
      refine S_i2l dX2_refused_29 ?_
      refine S_lconst (n := 0) dX2_refused_30 (by decide) rfl ?_
      refine S_aload_n dX2_refused_31 rfl ?_
      refine S_getR (c1 := 63) dX2_refused_32 rfl fl_X2_16 rfl rfl rfl ?_
      refine S_iload_n dX2_refused_35 rfl ?_
      refine S_iald (N := 6) dX2_refused_36 rfl (by decide) rfl ?_
      refine S_iconst dX2_refused_37 rfl ?_
      refine S_isub dX2_refused_38 ?_
      refine S_i2l dX2_refused_39 ?_
      refine S_callS_I dX2_refused_40 [.inr (.inl p2), .inr (.inl 0), .inr (.inl (w32 ((μ 63 (p1).toNat) - 1)))] (K_X2_in p2 0 (w32 ((μ 63 (p1).toNat) - 1)) μ) l_X2_59 yo_X2_in rfl rfl rfl (fun x2 => ?_)
      refine S_if_eq (tgt := 50) dX2_refused_43 (by decide) (fun h5 => ?_) (fun h5 => ?_)
      · refine S_aload_n dX2_refused_50 rfl ?_
        refine S_iconst dX2_refused_51 rfl ?_
        refine S_callV_M2 dX2_refused_52 [.inl 2] (K_X2_find 2 μ) l_X2_69 yo_X2_find rfl rfl rfl rfl rfl (fun x3 μ4 => ?_)
        exact S_iret dX2_refused_55 rfl rfl
      · refine S_iconst dX2_refused_46 rfl ?_
        refine S_goto (tgt := 55) dX2_refused_47 (by decide) ?_
        exact S_iret dX2_refused_55 rfl rfl
    · refine S_aload_n dX2_refused_20 rfl ?_
      refine S_iconst dX2_refused_21 rfl ?_
      refine S_callV_M2 dX2_refused_22 [.inl 1] (K_X2_find 1 μ) l_X2_69 yo_X2_find rfl rfl rfl rfl rfl (fun x6 μ7 => ?_)
      refine S_goto (tgt := 55) dX2_refused_25 (by decide) ?_
      exact S_iret dX2_refused_55 rfl rfl
  · refine S_iconst dX2_refused_7 rfl ?_
    refine S_goto (tgt := 55) dX2_refused_8 (by decide) ?_
    exact S_iret dX2_refused_55 rfl rfl
def fX2_lay (p1 : Int) (p2 : Int) (p3 : Int) (μ : Mem) : Option (Int × Mem) :=
  bnd2 (fX2_refused p1 p2 μ) fun x1 μ2 =>
  if x1 = 0 then
    grd (0 ≤ (w32 ((w32 (40 * p1)) + p2)) ∧ (w32 ((w32 (40 * p1)) + p2)) < 240) <|
    mlet ((μ2 64 ((w32 ((w32 (40 * p1)) + p2))).toNat)) fun x3 =>
    grd (0 ≤ (w32 ((w32 (40 * p1)) + p2)) ∧ (w32 ((w32 (40 * p1)) + p2)) < 240) <|
    mlet (wr μ2 64 ((w32 ((w32 (40 * p1)) + p2))).toNat p3) fun μ4 =>
    bnd2 (fX2_tell x3 μ4) fun x5 μ6 =>
    some (x5, μ6)
  else
    some (x1, μ2)
theorem K_X2_lay  (p1 : Int) (p2 : Int) (p3 : Int)  (μ : Mem) : Con yX2_lay cX2_lay 6 (some .int) 5 [.inr (.inr 60), .inl p1, .inl p2, .inl p3] μ (fX2_lay p1 p2 p3 μ) wI := by
  refine con_of (own := RX2) (by decide) rfl (Nat.le_of_ble_eq_true rfl) ?_
  show Sim cX2_lay 6 RX2 (5) (some .int) wI 0 [(0, .inr (.inr 60)), (1, .inl p1), (2, .inl p2), (3, .inl p3)] [] μ (fX2_lay p1 p2 p3 μ)
  unfold fX2_lay
  refine S_aload_n dX2_lay_0 rfl ?_
  refine S_iload_n dX2_lay_1 rfl ?_
  refine S_iload_n dX2_lay_2 rfl ?_
  refine S_callV_M2 dX2_lay_3 [.inl p1, .inl p2] (K_X2_refused p1 p2 μ) l_X2_77 yo_X2_refused rfl rfl rfl rfl rfl (fun x1 μ2 => ?_)
  refine S_istore (lv' := [(4, .inl x1), (0, .inr (.inr 60)), (1, .inl p1), (2, .inl p2), (3, .inl p3)]) dX2_lay_6 rfl rfl ?_
  refine S_iload dX2_lay_8 rfl ?_
  refine S_if_eq (tgt := 16) dX2_lay_10 (by decide) (fun h7 => ?_) (fun h7 => ?_)
  · refine S_aload_n dX2_lay_16 rfl ?_
    refine S_getR (c1 := 64) dX2_lay_17 rfl fl_X2_19 rfl rfl rfl ?_
    refine S_bipush dX2_lay_20 rfl (by decide) ?_
    refine S_iload_n dX2_lay_22 rfl ?_
    refine S_imul dX2_lay_23 ?_
    refine S_iload_n dX2_lay_24 rfl ?_
    refine S_iadd dX2_lay_25 ?_
    refine S_iald (N := 240) dX2_lay_26 rfl (by decide) rfl ?_
    refine S_let (fun x3 => ?_)
    refine S_istore (lv' := [(5, .inl x3), (4, .inl x1), (0, .inr (.inr 60)), (1, .inl p1), (2, .inl p2), (3, .inl p3)]) dX2_lay_27 rfl rfl ?_
    refine S_aload_n dX2_lay_29 rfl ?_
    refine S_getR (c1 := 64) dX2_lay_30 rfl fl_X2_19 rfl rfl rfl ?_
    refine S_bipush dX2_lay_33 rfl (by decide) ?_
    refine S_iload_n dX2_lay_35 rfl ?_
    refine S_imul dX2_lay_36 ?_
    refine S_iload_n dX2_lay_37 rfl ?_
    refine S_iadd dX2_lay_38 ?_
    refine S_iload_n dX2_lay_39 rfl ?_
    refine S_iast (N := 240) dX2_lay_40 rfl (by decide) rfl (fun μ4 => ?_)
    refine S_aload_n dX2_lay_41 rfl ?_
    refine S_iload dX2_lay_42 rfl ?_
    refine S_callV_M2 dX2_lay_44 [.inl x3] (K_X2_tell x3 μ4) l_X2_81 yo_X2_tell rfl rfl rfl rfl rfl (fun x5 μ6 => ?_)
    exact S_iret dX2_lay_47 rfl rfl
  · refine S_iload dX2_lay_13 rfl ?_
    exact S_iret dX2_lay_15 rfl rfl
def fX2_at (p1 : Int) (p2 : Int) (μ : Mem) : Option (Int × Mem) :=
  bnd2 (fX2_refused p1 p2 μ) fun x1 μ2 =>
  if x1 = 0 then
    grd (0 ≤ (w32 ((w32 (40 * p1)) + p2)) ∧ (w32 ((w32 (40 * p1)) + p2)) < 240) <|
    bnd2 (fX2_tell (μ2 64 ((w32 ((w32 (40 * p1)) + p2))).toNat) μ2) fun x3 μ4 =>
    some (x3, μ4)
  else
    some (x1, μ2)
theorem K_X2_at  (p1 : Int) (p2 : Int)  (μ : Mem) : Con yX2_at cX2_at 4 (some .int) 5 [.inr (.inr 60), .inl p1, .inl p2] μ (fX2_at p1 p2 μ) wI := by
  refine con_of (own := RX2) (by decide) rfl (Nat.le_of_ble_eq_true rfl) ?_
  show Sim cX2_at 4 RX2 (5) (some .int) wI 0 [(0, .inr (.inr 60)), (1, .inl p1), (2, .inl p2)] [] μ (fX2_at p1 p2 μ)
  unfold fX2_at
  refine S_aload_n dX2_at_0 rfl ?_
  refine S_iload_n dX2_at_1 rfl ?_
  refine S_iload_n dX2_at_2 rfl ?_
  refine S_callV_M2 dX2_at_3 [.inl p1, .inl p2] (K_X2_refused p1 p2 μ) l_X2_77 yo_X2_refused rfl rfl rfl rfl rfl (fun x1 μ2 => ?_)
  refine S_istore_n (lv' := [(3, .inl x1), (0, .inr (.inr 60)), (1, .inl p1), (2, .inl p2)]) dX2_at_6 rfl rfl ?_
  refine S_iload_n dX2_at_7 rfl ?_
  refine S_if_eq (tgt := 15) dX2_at_8 (by decide) (fun h5 => ?_) (fun h5 => ?_)
  · refine S_aload_n dX2_at_15 rfl ?_
    refine S_aload_n dX2_at_16 rfl ?_
    refine S_getR (c1 := 64) dX2_at_17 rfl fl_X2_19 rfl rfl rfl ?_
    refine S_bipush dX2_at_20 rfl (by decide) ?_
    refine S_iload_n dX2_at_22 rfl ?_
    refine S_imul dX2_at_23 ?_
    refine S_iload_n dX2_at_24 rfl ?_
    refine S_iadd dX2_at_25 ?_
    refine S_iald (N := 240) dX2_at_26 rfl (by decide) rfl ?_
    refine S_callV_M2 dX2_at_27 [.inl (μ2 64 ((w32 ((w32 (40 * p1)) + p2))).toNat)] (K_X2_tell (μ2 64 ((w32 ((w32 (40 * p1)) + p2))).toNat) μ2) l_X2_81 yo_X2_tell rfl rfl rfl rfl rfl (fun x3 μ4 => ?_)
    exact S_iret dX2_at_30 rfl rfl
  · refine S_iload_n dX2_at_11 rfl ?_
    refine S_goto (tgt := 30) dX2_at_12 (by decide) ?_
    exact S_iret dX2_at_30 rfl rfl
def fX2_tear (p1 : Int) (μ : Mem) : Option (Int × Mem) :=
  (fX2_isRow p1 μ).bind fun x1 =>
  if ¬ x1 = 0 then
    grd (0 ≤ p1 ∧ p1 < 6) <|
    if 0 ≤ (μ 63 (p1).toNat) then
      grd (0 ≤ p1 ∧ p1 < 6) <|
      mlet (wr μ 63 (p1).toNat (-1)) fun μ2 =>
      some (1, μ2)
    else
      bnd2 (fX2_find 1 μ) fun x3 μ4 =>
      some (x3, μ4)
  else
    some ((-1), μ)
theorem K_X2_tear  (p1 : Int)  (μ : Mem) : Con yX2_tear cX2_tear 2 (some .int) 4 [.inr (.inr 60), .inl p1] μ (fX2_tear p1 μ) wI := by
  refine con_of (own := RX2) (by decide) rfl (Nat.le_of_ble_eq_true rfl) ?_
  show Sim cX2_tear 2 RX2 (4) (some .int) wI 0 [(0, .inr (.inr 60)), (1, .inl p1)] [] μ (fX2_tear p1 μ)
  unfold fX2_tear
  refine S_iload_n dX2_tear_0 rfl ?_
  refine S_callS_I dX2_tear_1 [.inl p1] (K_X2_isRow p1 μ) l_X2_65 yo_X2_isRow rfl rfl rfl (fun x1 => ?_)
  refine S_if_ne (tgt := 9) dX2_tear_4 (by decide) (fun h6 => ?_) (fun h6 => ?_)
  · refine S_aload_n dX2_tear_9 rfl ?_
    refine S_getR (c1 := 63) dX2_tear_10 rfl fl_X2_16 rfl rfl rfl ?_
    refine S_iload_n dX2_tear_13 rfl ?_
    refine S_iald (N := 6) dX2_tear_14 rfl (by decide) rfl ?_
    refine S_if_ge (tgt := 24) dX2_tear_15 (by decide) (fun h5 => ?_) (fun h5 => ?_)
    · refine S_aload_n dX2_tear_24 rfl ?_
      refine S_getR (c1 := 63) dX2_tear_25 rfl fl_X2_16 rfl rfl rfl ?_
      refine S_iload_n dX2_tear_28 rfl ?_
      refine S_iconst dX2_tear_29 rfl ?_
      refine S_iast (N := 6) dX2_tear_30 rfl (by decide) rfl (fun μ2 => ?_)
      refine S_iconst dX2_tear_31 rfl ?_
      exact S_iret dX2_tear_32 rfl rfl
    · refine S_aload_n dX2_tear_18 rfl ?_
      refine S_iconst dX2_tear_19 rfl ?_
      refine S_callV_M2 dX2_tear_20 [.inl 1] (K_X2_find 1 μ) l_X2_69 yo_X2_find rfl rfl rfl rfl rfl (fun x3 μ4 => ?_)
      exact S_iret dX2_tear_23 rfl rfl
  · refine S_iconst dX2_tear_7 rfl ?_
    exact S_iret dX2_tear_8 rfl rfl
def fX2_isSpan (p1 : Int) (p2 : Int) (p3 : Int) (μ : Mem) : Option Int :=
  mlet (
    some 0
    : Option Int) fun (K1 : Option Int) =>
  if p2 < 0 then
    K1
  else
    grd (0 ≤ p1 ∧ p1 < 6) <|
    if 0 < (lcmpZ (w64 (p2 + p3)) (μ 63 (p1).toNat)) then
      K1
    else
      some 1
theorem K_X2_isSpan  (p1 : Int) (p2 : Int) (p3 : Int)  (μ : Mem) : Con yX2_isSpan cX2_isSpan 4 (some .boolean) 2 [.inr (.inr 60), .inl p1, .inl p2, .inl p3] μ (fX2_isSpan p1 p2 p3 μ) (rI μ) := by
  refine con_of (own := RX2) (by decide) rfl (Nat.le_of_ble_eq_true rfl) ?_
  show Sim cX2_isSpan 4 RX2 (2) (some .boolean) (rI μ) 0 [(0, .inr (.inr 60)), (1, .inl p1), (2, .inl p2), (3, .inl p3)] [] μ (fX2_isSpan p1 p2 p3 μ)
  unfold fX2_isSpan
  refine S_iload_n dX2_isSpan_0 rfl ?_
  refine S_jn (fun (K1 : Option Int) => Sim cX2_isSpan 4 RX2 (2) (some .boolean) (rI μ) 24 [] [] μ K1) ?_ (fun K1 hK1 => ?_)
  · skip
    refine S_iconst dX2_isSpan_24 rfl ?_
    exact S_zret dX2_isSpan_25 rfl (by decide) rfl
  refine S_if_lt (tgt := 24) dX2_isSpan_1 (by decide) (fun h3 => ?_) (fun h3 => ?_)
  · exact S_sub [] rfl (hK1)
  · refine S_iload_n dX2_isSpan_4 rfl ?_
    refine S_i2l dX2_isSpan_5 ?_
    refine S_iload_n dX2_isSpan_6 rfl ?_
    refine S_i2l dX2_isSpan_7 ?_
    refine S_ladd dX2_isSpan_8 ?_
    refine S_aload_n dX2_isSpan_9 rfl ?_
    refine S_getR (c1 := 63) dX2_isSpan_10 rfl fl_X2_16 rfl rfl rfl ?_
    refine S_iload_n dX2_isSpan_13 rfl ?_
    refine S_iald (N := 6) dX2_isSpan_14 rfl (by decide) rfl ?_
    refine S_i2l dX2_isSpan_15 ?_
    refine S_lcmp dX2_isSpan_16 ?_
    refine S_if_gt (tgt := 24) dX2_isSpan_17 (by decide) (fun h2 => ?_) (fun h2 => ?_)
    · exact S_sub [] rfl (hK1)
    · refine S_iconst dX2_isSpan_20 rfl ?_
      refine S_goto (tgt := 25) dX2_isSpan_21 (by decide) ?_
      exact S_zret dX2_isSpan_25 rfl (by decide) rfl
def fX2_copy_L96 (p5 : Int) (p1 : Int) (p2 : Int) (p3 : Int) (p4 : Int) (x11 : Int) : Nat → Int → Mem → Option (Int × Mem)
  | 0, _, _ => none
  | n15 + 1, x13, μ14 =>
    if p5 ≤ x13 then
      some (1, μ14)
    else
      mlet (fun (x16 : Int) =>
        grd (0 ≤ (w32 ((w32 ((w32 (40 * p1)) + p2)) + x16)) ∧ (w32 ((w32 ((w32 (40 * p1)) + p2)) + x16)) < 240) <|
        grd (0 ≤ (w32 ((w32 ((w32 (40 * p3)) + p4)) + x16)) ∧ (w32 ((w32 ((w32 (40 * p3)) + p4)) + x16)) < 240) <|
        mlet (wr μ14 64 ((w32 ((w32 ((w32 (40 * p3)) + p4)) + x16))).toNat (μ14 64 ((w32 ((w32 ((w32 (40 * p1)) + p2)) + x16))).toNat)) fun μ18 =>
        mlet (w32 (x13 + 1)) fun x19 =>
        fX2_copy_L96 p5 p1 p2 p3 p4 x11 n15 x19 μ18
        ) fun (K17 : Int → Option (Int × Mem)) =>
      if x11 = 0 then
        K17 x13
      else
        K17 (w32 ((w32 (p5 - 1)) - x13))
def fX2_copy (p1 : Int) (p2 : Int) (p3 : Int) (p4 : Int) (p5 : Int) (μ : Mem) : Option (Int × Mem) :=
  (fX2_isRow p1 μ).bind fun x1 =>
  if x1 = 0 then
    some ((-1), μ)
  else
    (fX2_isRow p3 μ).bind fun x2 =>
    if ¬ x2 = 0 then
      if 0 ≤ p5 then
        grd (0 ≤ p1 ∧ p1 < 6) <|
        mlet (
          bnd2 (fX2_find 1 μ) fun x4 μ5 =>
          some (x4, μ5)
          : Option (Int × Mem)) fun (K3 : Option (Int × Mem)) =>
        if (μ 63 (p1).toNat) < 0 then
          K3
        else
          grd (0 ≤ p3 ∧ p3 < 6) <|
          if 0 ≤ (μ 63 (p3).toNat) then
            (fX2_isSpan p1 p2 p5 μ).bind fun x6 =>
            mlet (
              bnd2 (fX2_find 2 μ) fun x8 μ9 =>
              some (x8, μ9)
              : Option (Int × Mem)) fun (K7 : Option (Int × Mem)) =>
            if x6 = 0 then
              K7
            else
              (fX2_isSpan p3 p4 p5 μ).bind fun x10 =>
              if ¬ x10 = 0 then
                mlet (fun (x11 : Int) =>
                  fX2_copy_L96 p5 p1 p2 p3 p4 x11 fuel 0 μ
                  ) fun (K12 : Int → Option (Int × Mem)) =>
                if p4 ≤ p2 then
                  K12 0
                else
                  K12 1
              else
                K7
          else
            K3
      else
        bnd2 (fX2_find 5 μ) fun x27 μ28 =>
        some (x27, μ28)
    else
      some ((-1), μ)
theorem K_X2_copy  (p1 : Int) (p2 : Int) (p3 : Int) (p4 : Int) (p5 : Int)  (μ : Mem) : Con yX2_copy cX2_copy 9 (some .int) 4 [.inr (.inr 60), .inl p1, .inl p2, .inl p3, .inl p4, .inl p5] μ (fX2_copy p1 p2 p3 p4 p5 μ) wI := by
  refine con_of (own := RX2) (by decide) rfl (Nat.le_of_ble_eq_true rfl) ?_
  show Sim cX2_copy 9 RX2 (4) (some .int) wI 0 [(0, .inr (.inr 60)), (1, .inl p1), (2, .inl p2), (3, .inl p3), (4, .inl p4), (5, .inl p5)] [] μ (fX2_copy p1 p2 p3 p4 p5 μ)
  unfold fX2_copy
  refine S_iload_n dX2_copy_0 rfl ?_
  refine S_callS_I dX2_copy_1 [.inl p1] (K_X2_isRow p1 μ) l_X2_65 yo_X2_isRow rfl rfl rfl (fun x1 => ?_)
  refine S_if_eq (tgt := 14) dX2_copy_4 (by decide) (fun h31 => ?_) (fun h31 => ?_)
  · refine S_iconst dX2_copy_14 rfl ?_
    exact S_iret dX2_copy_15 rfl rfl
  · refine S_iload_n dX2_copy_7 rfl ?_
    refine S_callS_I dX2_copy_8 [.inl p3] (K_X2_isRow p3 μ) l_X2_65 yo_X2_isRow rfl rfl rfl (fun x2 => ?_)
    refine S_if_ne (tgt := 16) dX2_copy_11 (by decide) (fun h30 => ?_) (fun h30 => ?_)
    · refine S_iload dX2_copy_16 rfl ?_
      refine S_if_ge (tgt := 27) dX2_copy_18 (by decide) (fun h29 => ?_) (fun h29 => ?_)
      · refine S_aload_n dX2_copy_27 rfl ?_
        refine S_getR (c1 := 63) dX2_copy_28 rfl fl_X2_16 rfl rfl rfl ?_
        refine S_iload_n dX2_copy_31 rfl ?_
        refine S_iald (N := 6) dX2_copy_32 rfl (by decide) rfl ?_
        refine S_jn (fun (K3 : Option (Int × Mem)) => Sim cX2_copy 9 RX2 (4) (some .int) wI 45 [(0, .inr (.inr 60))] [] μ K3) ?_ (fun K3 hK3 => ?_)
        · skip
          refine S_aload_n dX2_copy_45 rfl ?_
          refine S_iconst dX2_copy_46 rfl ?_
          refine S_callV_M2 dX2_copy_47 [.inl 1] (K_X2_find 1 μ) l_X2_69 yo_X2_find rfl rfl rfl rfl rfl (fun x4 μ5 => ?_)
          exact S_iret dX2_copy_50 rfl rfl
        refine S_if_lt (tgt := 45) dX2_copy_33 (by decide) (fun h26 => ?_) (fun h26 => ?_)
        · exact S_sub [0] rfl (hK3)
        · refine S_aload_n dX2_copy_36 rfl ?_
          refine S_getR (c1 := 63) dX2_copy_37 rfl fl_X2_16 rfl rfl rfl ?_
          refine S_iload_n dX2_copy_40 rfl ?_
          refine S_iald (N := 6) dX2_copy_41 rfl (by decide) rfl ?_
          refine S_if_ge (tgt := 51) dX2_copy_42 (by decide) (fun h25 => ?_) (fun h25 => ?_)
          · refine S_aload_n dX2_copy_51 rfl ?_
            refine S_iload_n dX2_copy_52 rfl ?_
            refine S_iload_n dX2_copy_53 rfl ?_
            refine S_iload dX2_copy_54 rfl ?_
            refine S_callV_I dX2_copy_56 [.inl p1, .inl p2, .inl p5] (K_X2_isSpan p1 p2 p5 μ) l_X2_84 yo_X2_isSpan rfl rfl rfl rfl rfl (fun x6 => ?_)
            refine S_jn (fun (K7 : Option (Int × Mem)) => Sim cX2_copy 9 RX2 (4) (some .int) wI 74 [(0, .inr (.inr 60))] [] μ K7) ?_ (fun K7 hK7 => ?_)
            · skip
              refine S_aload_n dX2_copy_74 rfl ?_
              refine S_iconst dX2_copy_75 rfl ?_
              refine S_callV_M2 dX2_copy_76 [.inl 2] (K_X2_find 2 μ) l_X2_69 yo_X2_find rfl rfl rfl rfl rfl (fun x8 μ9 => ?_)
              exact S_iret dX2_copy_79 rfl rfl
            refine S_if_eq (tgt := 74) dX2_copy_59 (by decide) (fun h24 => ?_) (fun h24 => ?_)
            · exact S_sub [0] rfl (hK7)
            · refine S_aload_n dX2_copy_62 rfl ?_
              refine S_iload_n dX2_copy_63 rfl ?_
              refine S_iload dX2_copy_64 rfl ?_
              refine S_iload dX2_copy_66 rfl ?_
              refine S_callV_I dX2_copy_68 [.inl p3, .inl p4, .inl p5] (K_X2_isSpan p3 p4 p5 μ) l_X2_84 yo_X2_isSpan rfl rfl rfl rfl rfl (fun x10 => ?_)
              refine S_if_ne (tgt := 80) dX2_copy_71 (by decide) (fun h23 => ?_) (fun h23 => ?_)
              · refine S_iload_n dX2_copy_80 rfl ?_
                refine S_iload dX2_copy_81 rfl ?_
                refine S_jn (fun (K12 : Int → Option (Int × Mem)) => ∀ (x11 : Int), Sim cX2_copy 9 RX2 (4) (some .int) wI 91 [(0, .inr (.inr 60)), (1, .inl p1), (2, .inl p2), (3, .inl p3), (4, .inl p4), (5, .inl p5)] [.inl x11] μ (K12 x11)) ?_ (fun K12 hK12 => ?_)
                · intro x11
                  refine S_istore (lv' := [(6, .inl x11), (0, .inr (.inr 60)), (1, .inl p1), (2, .inl p2), (3, .inl p3), (4, .inl p4), (5, .inl p5)]) dX2_copy_91 rfl rfl ?_
                  refine S_iconst dX2_copy_93 rfl ?_
                  refine S_istore (lv' := [(7, .inl 0), (6, .inl x11), (0, .inr (.inr 60)), (1, .inl p1), (2, .inl p2), (3, .inl p3), (4, .inl p4), (5, .inl p5)]) dX2_copy_94 rfl rfl ?_
                  have hL96 : ∀ (n15 : Nat) (x13 : Int) (μ14 : Mem), Sim cX2_copy 9 RX2 (4) (some .int) wI 96 [(0, .inr (.inr 60)), (1, .inl p1), (2, .inl p2), (3, .inl p3), (4, .inl p4), (5, .inl p5), (6, .inl x11), (7, .inl x13)] [] μ14 (fX2_copy_L96 p5 p1 p2 p3 p4 x11 n15 x13 μ14) := by
                    intro n15
                    induction n15 with
                    | zero =>
                      intro x13 μ14
                      exact S_none rfl
                    | succ n15 ih =>
                      intro x13 μ14
                      rw [fX2_copy_L96]
                      refine S_iload dX2_copy_96 rfl ?_
                      refine S_iload dX2_copy_98 rfl ?_
                      refine S_ic_ge (tgt := 157) dX2_copy_100 (by decide) (fun h21 => ?_) (fun h21 => ?_)
                      · refine S_iconst dX2_copy_157 rfl ?_
                        exact S_iret dX2_copy_158 rfl rfl
                      · refine S_iload dX2_copy_103 rfl ?_
                        refine S_jn (fun (K17 : Int → Option (Int × Mem)) => ∀ (x16 : Int), Sim cX2_copy 9 RX2 (4) (some .int) wI 120 [(0, .inr (.inr 60)), (1, .inl p1), (2, .inl p2), (3, .inl p3), (4, .inl p4), (5, .inl p5), (6, .inl x11), (7, .inl x13)] [.inl x16] μ14 (K17 x16)) ?_ (fun K17 hK17 => ?_)
                        · intro x16
                          refine S_istore (lv' := [(8, .inl x16), (0, .inr (.inr 60)), (1, .inl p1), (2, .inl p2), (3, .inl p3), (4, .inl p4), (5, .inl p5), (6, .inl x11), (7, .inl x13)]) dX2_copy_120 rfl rfl ?_
                          refine S_aload_n dX2_copy_122 rfl ?_
                          refine S_getR (c1 := 64) dX2_copy_123 rfl fl_X2_19 rfl rfl rfl ?_
                          refine S_bipush dX2_copy_126 rfl (by decide) ?_
                          refine S_iload_n dX2_copy_128 rfl ?_
                          refine S_imul dX2_copy_129 ?_
                          refine S_iload dX2_copy_130 rfl ?_
                          refine S_iadd dX2_copy_132 ?_
                          refine S_iload dX2_copy_133 rfl ?_
                          refine S_iadd dX2_copy_135 ?_
                          refine S_aload_n dX2_copy_136 rfl ?_
                          refine S_getR (c1 := 64) dX2_copy_137 rfl fl_X2_19 rfl rfl rfl ?_
                          refine S_bipush dX2_copy_140 rfl (by decide) ?_
                          refine S_iload_n dX2_copy_142 rfl ?_
                          refine S_imul dX2_copy_143 ?_
                          refine S_iload_n dX2_copy_144 rfl ?_
                          refine S_iadd dX2_copy_145 ?_
                          refine S_iload dX2_copy_146 rfl ?_
                          refine S_iadd dX2_copy_148 ?_
                          refine S_iald (N := 240) dX2_copy_149 rfl (by decide) rfl ?_
                          refine S_iast (N := 240) dX2_copy_150 rfl (by decide) rfl (fun μ18 => ?_)
                          refine S_iinc (lv' := fun x19 => [(7, .inl x19), (8, .inl x16), (0, .inr (.inr 60)), (1, .inl p1), (2, .inl p2), (3, .inl p3), (4, .inl p4), (5, .inl p5), (6, .inl x11)]) dX2_copy_151 rfl rfl rfl (fun _ => rfl) (fun x19 => ?_)
                          refine S_goto (tgt := 96) dX2_copy_154 (by decide) ?_
                          exact S_sub [2, 3, 4, 5, 6, 7, 8, 0] rfl (ih x19 μ18)
                        refine S_if_eq (tgt := 118) dX2_copy_105 (by decide) (fun h20 => ?_) (fun h20 => ?_)
                        · refine S_iload dX2_copy_118 rfl ?_
                          exact S_sub [0, 1, 2, 3, 4, 5, 6, 7] rfl (hK17 x13)
                        · refine S_iload dX2_copy_108 rfl ?_
                          refine S_iconst dX2_copy_110 rfl ?_
                          refine S_isub dX2_copy_111 ?_
                          refine S_iload dX2_copy_112 rfl ?_
                          refine S_isub dX2_copy_114 ?_
                          refine S_goto (tgt := 120) dX2_copy_115 (by decide) ?_
                          exact S_sub [0, 1, 2, 3, 4, 5, 6, 7] rfl (hK17 (w32 ((w32 (p5 - 1)) - x13)))
                  exact S_sub [2, 3, 4, 5, 6, 7, 1, 0] rfl (hL96 fuel 0 μ)
                refine S_ic_ge (tgt := 90) dX2_copy_83 (by decide) (fun h22 => ?_) (fun h22 => ?_)
                · refine S_iconst dX2_copy_90 rfl ?_
                  exact S_sub [0, 1, 2, 3, 4, 5] rfl (hK12 0)
                · refine S_iconst dX2_copy_86 rfl ?_
                  refine S_goto (tgt := 91) dX2_copy_87 (by decide) ?_
                  exact S_sub [0, 1, 2, 3, 4, 5] rfl (hK12 1)
              · exact S_sub [0] rfl (hK7)
          · exact S_sub [0] rfl (hK3)
      · refine S_aload_n dX2_copy_21 rfl ?_
        refine S_iconst dX2_copy_22 rfl ?_
        refine S_callV_M2 dX2_copy_23 [.inl 5] (K_X2_find 5 μ) l_X2_69 yo_X2_find rfl rfl rfl rfl rfl (fun x27 μ28 => ?_)
        exact S_iret dX2_copy_26 rfl rfl
    · refine S_iconst dX2_copy_14 rfl ?_
      exact S_iret dX2_copy_15 rfl rfl
