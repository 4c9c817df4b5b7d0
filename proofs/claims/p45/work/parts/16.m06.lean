theorem dX1_lower_0 : decode cX1_lower 0 = .ok (.aload_n 0, 1) := by decide +kernel
theorem dX1_lower_1 : decode cX1_lower 1 = .ok (.getfield 59, 3) := by decide +kernel
theorem dX1_lower_4 : decode cX1_lower 4 = .ok (.lreturn, 1) := by decide +kernel
theorem dX1_bitOf_0 : decode cX1_bitOf 0 = .ok (.iload_n 0, 1) := by decide +kernel
theorem dX1_bitOf_1 : decode cX1_bitOf 1 = .ok (.ifCond .lt 9, 3) := by decide +kernel
theorem dX1_bitOf_4 : decode cX1_bitOf 4 = .ok (.iconst 1, 1) := by decide +kernel
theorem dX1_bitOf_5 : decode cX1_bitOf 5 = .ok (.iload_n 0, 1) := by decide +kernel
theorem dX1_bitOf_6 : decode cX1_bitOf 6 = .ok (.ishl, 1) := by decide +kernel
theorem dX1_bitOf_7 : decode cX1_bitOf 7 = .ok (.goto 4, 3) := by decide +kernel
theorem dX1_bitOf_10 : decode cX1_bitOf 10 = .ok (.iconst 0, 1) := by decide +kernel
theorem dX1_bitOf_11 : decode cX1_bitOf 11 = .ok (.ireturn, 1) := by decide +kernel
theorem dX1_howManyThere_0 : decode cX1_howManyThere 0 = .ok (.iconst 0, 1) := by decide +kernel
theorem dX1_howManyThere_1 : decode cX1_howManyThere 1 = .ok (.istore_n 1, 1) := by decide +kernel
theorem dX1_howManyThere_2 : decode cX1_howManyThere 2 = .ok (.aload_n 0, 1) := by decide +kernel
theorem dX1_howManyThere_3 : decode cX1_howManyThere 3 = .ok (.astore_n 2, 1) := by decide +kernel
theorem dX1_howManyThere_4 : decode cX1_howManyThere 4 = .ok (.aload_n 2, 1) := by decide +kernel
theorem dX1_howManyThere_5 : decode cX1_howManyThere 5 = .ok (.arraylength, 1) := by decide +kernel
theorem dX1_howManyThere_6 : decode cX1_howManyThere 6 = .ok (.istore_n 3, 1) := by decide +kernel
theorem dX1_howManyThere_7 : decode cX1_howManyThere 7 = .ok (.iconst 0, 1) := by decide +kernel
theorem dX1_howManyThere_8 : decode cX1_howManyThere 8 = .ok (.istore 4, 2) := by decide +kernel
theorem dX1_howManyThere_10 : decode cX1_howManyThere 10 = .ok (.iload 4, 2) := by decide +kernel
theorem dX1_howManyThere_12 : decode cX1_howManyThere 12 = .ok (.iload_n 3, 1) := by decide +kernel
theorem dX1_howManyThere_13 : decode cX1_howManyThere 13 = .ok (.if_icmp .ge 23, 3) := by decide +kernel
theorem dX1_howManyThere_16 : decode cX1_howManyThere 16 = .ok (.aload_n 2, 1) := by decide +kernel
theorem dX1_howManyThere_17 : decode cX1_howManyThere 17 = .ok (.iload 4, 2) := by decide +kernel
theorem dX1_howManyThere_19 : decode cX1_howManyThere 19 = .ok (.iaload, 1) := by decide +kernel
theorem dX1_howManyThere_20 : decode cX1_howManyThere 20 = .ok (.istore 5, 2) := by decide +kernel
theorem dX1_howManyThere_22 : decode cX1_howManyThere 22 = .ok (.iload 5, 2) := by decide +kernel
theorem dX1_howManyThere_24 : decode cX1_howManyThere 24 = .ok (.ifCond .lt 6, 3) := by decide +kernel
theorem dX1_howManyThere_27 : decode cX1_howManyThere 27 = .ok (.iinc 1 1, 3) := by decide +kernel
theorem dX1_howManyThere_30 : decode cX1_howManyThere 30 = .ok (.iinc 4 1, 3) := by decide +kernel
theorem dX1_howManyThere_33 : decode cX1_howManyThere 33 = .ok (.goto (-23), 3) := by decide +kernel
theorem dX1_howManyThere_36 : decode cX1_howManyThere 36 = .ok (.iload_n 1, 1) := by decide +kernel
theorem dX1_howManyThere_37 : decode cX1_howManyThere 37 = .ok (.ireturn, 1) := by decide +kernel
theorem dX1_count_0 : decode cX1_count 0 = .ok (.iload_n 1, 1) := by decide +kernel
theorem dX1_count_1 : decode cX1_count 1 = .ok (.tableswitch 173 0 11 #[63, 71, 79, 84, 92, 104, 123, 131, 140, 149, 157, 165], 63) := by decide +kernel
theorem dX1_count_64 : decode cX1_count 64 = .ok (.aload_n 0, 1) := by decide +kernel
theorem dX1_count_65 : decode cX1_count 65 = .ok (.getfield 33, 3) := by decide +kernel
theorem dX1_count_68 : decode cX1_count 68 = .ok (.getfield 122, 3) := by decide +kernel
theorem dX1_count_71 : decode cX1_count 71 = .ok (.ireturn, 1) := by decide +kernel
theorem dX1_count_72 : decode cX1_count 72 = .ok (.aload_n 0, 1) := by decide +kernel
theorem dX1_count_73 : decode cX1_count 73 = .ok (.getfield 33, 3) := by decide +kernel
theorem dX1_count_76 : decode cX1_count 76 = .ok (.getfield 234, 3) := by decide +kernel
theorem dX1_count_79 : decode cX1_count 79 = .ok (.ireturn, 1) := by decide +kernel
theorem dX1_count_80 : decode cX1_count 80 = .ok (.aload_n 0, 1) := by decide +kernel
theorem dX1_count_81 : decode cX1_count 81 = .ok (.getfield 42, 3) := by decide +kernel
theorem dX1_count_84 : decode cX1_count 84 = .ok (.ireturn, 1) := by decide +kernel
theorem dX1_count_85 : decode cX1_count 85 = .ok (.aload_n 0, 1) := by decide +kernel
theorem dX1_count_86 : decode cX1_count 86 = .ok (.getfield 33, 3) := by decide +kernel
theorem dX1_count_89 : decode cX1_count 89 = .ok (.getfield 178, 3) := by decide +kernel
theorem dX1_count_92 : decode cX1_count 92 = .ok (.ireturn, 1) := by decide +kernel
theorem dX1_count_93 : decode cX1_count 93 = .ok (.aload_n 0, 1) := by decide +kernel
theorem dX1_count_94 : decode cX1_count 94 = .ok (.getfield 33, 3) := by decide +kernel
theorem dX1_count_97 : decode cX1_count 97 = .ok (.iconst 0, 1) := by decide +kernel
theorem dX1_count_98 : decode cX1_count 98 = .ok (.invokevirtual 145, 3) := by decide +kernel
theorem dX1_count_101 : decode cX1_count 101 = .ok (.invokestatic 237, 3) := by decide +kernel
theorem dX1_count_104 : decode cX1_count 104 = .ok (.ireturn, 1) := by decide +kernel
theorem dX1_count_105 : decode cX1_count 105 = .ok (.aload_n 0, 1) := by decide +kernel
theorem dX1_count_106 : decode cX1_count 106 = .ok (.getfield 33, 3) := by decide +kernel
theorem dX1_count_109 : decode cX1_count 109 = .ok (.iconst 1, 1) := by decide +kernel
theorem dX1_count_110 : decode cX1_count 110 = .ok (.aload_n 0, 1) := by decide +kernel
theorem dX1_count_111 : decode cX1_count 111 = .ok (.getfield 33, 3) := by decide +kernel
theorem dX1_count_114 : decode cX1_count 114 = .ok (.getfield 122, 3) := by decide +kernel
theorem dX1_count_117 : decode cX1_count 117 = .ok (.ishl, 1) := by decide +kernel
theorem dX1_count_118 : decode cX1_count 118 = .ok (.iconst 1, 1) := by decide +kernel
theorem dX1_count_119 : decode cX1_count 119 = .ok (.isub, 1) := by decide +kernel
theorem dX1_count_120 : decode cX1_count 120 = .ok (.invokevirtual 206, 3) := by decide +kernel
theorem dX1_count_123 : decode cX1_count 123 = .ok (.ireturn, 1) := by decide +kernel
theorem dX1_count_124 : decode cX1_count 124 = .ok (.aload_n 0, 1) := by decide +kernel
theorem dX1_count_125 : decode cX1_count 125 = .ok (.getfield 33, 3) := by decide +kernel
theorem dX1_count_128 : decode cX1_count 128 = .ok (.invokevirtual 240, 3) := by decide +kernel
theorem dX1_count_131 : decode cX1_count 131 = .ok (.ireturn, 1) := by decide +kernel
theorem dX1_count_132 : decode cX1_count 132 = .ok (.aload_n 0, 1) := by decide +kernel
theorem dX1_count_133 : decode cX1_count 133 = .ok (.getfield 33, 3) := by decide +kernel
theorem dX1_count_136 : decode cX1_count 136 = .ok (.iconst 2, 1) := by decide +kernel
theorem dX1_count_137 : decode cX1_count 137 = .ok (.invokevirtual 243, 3) := by decide +kernel
theorem dX1_count_140 : decode cX1_count 140 = .ok (.ireturn, 1) := by decide +kernel
theorem dX1_count_141 : decode cX1_count 141 = .ok (.aload_n 0, 1) := by decide +kernel
theorem dX1_count_142 : decode cX1_count 142 = .ok (.getfield 33, 3) := by decide +kernel
theorem dX1_count_145 : decode cX1_count 145 = .ok (.iconst 3, 1) := by decide +kernel
theorem dX1_count_146 : decode cX1_count 146 = .ok (.invokevirtual 243, 3) := by decide +kernel
theorem dX1_count_149 : decode cX1_count 149 = .ok (.ireturn, 1) := by decide +kernel
theorem dX1_count_150 : decode cX1_count 150 = .ok (.aload_n 0, 1) := by decide +kernel
theorem dX1_count_151 : decode cX1_count 151 = .ok (.getfield 14, 3) := by decide +kernel
theorem dX1_count_154 : decode cX1_count 154 = .ok (.invokestatic 246, 3) := by decide +kernel
theorem dX1_count_157 : decode cX1_count 157 = .ok (.ireturn, 1) := by decide +kernel
theorem dX1_count_158 : decode cX1_count 158 = .ok (.aload_n 0, 1) := by decide +kernel
theorem dX1_count_159 : decode cX1_count 159 = .ok (.getfield 23, 3) := by decide +kernel
theorem dX1_count_162 : decode cX1_count 162 = .ok (.invokestatic 246, 3) := by decide +kernel
theorem dX1_count_165 : decode cX1_count 165 = .ok (.ireturn, 1) := by decide +kernel
theorem dX1_count_166 : decode cX1_count 166 = .ok (.aload_n 0, 1) := by decide +kernel
theorem dX1_count_167 : decode cX1_count 167 = .ok (.getfield 49, 3) := by decide +kernel
theorem dX1_count_170 : decode cX1_count 170 = .ok (.invokestatic 246, 3) := by decide +kernel
theorem dX1_count_173 : decode cX1_count 173 = .ok (.ireturn, 1) := by decide +kernel
theorem dX1_count_174 : decode cX1_count 174 = .ok (.iconst (-1), 1) := by decide +kernel
theorem dX1_count_175 : decode cX1_count 175 = .ok (.ireturn, 1) := by decide +kernel
theorem dX1_finding_0 : decode cX1_finding 0 = .ok (.aload_n 0, 1) := by decide +kernel
theorem dX1_finding_1 : decode cX1_finding 1 = .ok (.getfield 62, 3) := by decide +kernel
theorem dX1_finding_4 : decode cX1_finding 4 = .ok (.ireturn, 1) := by decide +kernel
theorem dX1_digest_0 : decode cX1_digest 0 = .ok (.ldc2_w 250, 3) := by decide +kernel
theorem dX1_digest_3 : decode cX1_digest 3 = .ok (.lstore_n 1, 1) := by decide +kernel
theorem dX1_digest_4 : decode cX1_digest 4 = .ok (.iconst 0, 1) := by decide +kernel
theorem dX1_digest_5 : decode cX1_digest 5 = .ok (.istore_n 3, 1) := by decide +kernel
theorem dX1_digest_6 : decode cX1_digest 6 = .ok (.iload_n 3, 1) := by decide +kernel
theorem dX1_digest_7 : decode cX1_digest 7 = .ok (.bipush 12, 2) := by decide +kernel
theorem dX1_digest_9 : decode cX1_digest 9 = .ok (.if_icmp .ge 22, 3) := by decide +kernel
theorem dX1_digest_12 : decode cX1_digest 12 = .ok (.ldc2_w 252, 3) := by decide +kernel
theorem dX1_digest_15 : decode cX1_digest 15 = .ok (.lload_n 1, 1) := by decide +kernel
theorem dX1_digest_16 : decode cX1_digest 16 = .ok (.lmul, 1) := by decide +kernel
theorem dX1_digest_17 : decode cX1_digest 17 = .ok (.aload_n 0, 1) := by decide +kernel
theorem dX1_digest_18 : decode cX1_digest 18 = .ok (.iload_n 3, 1) := by decide +kernel
theorem dX1_digest_19 : decode cX1_digest 19 = .ok (.invokevirtual 254, 3) := by decide +kernel
theorem dX1_digest_22 : decode cX1_digest 22 = .ok (.i2l, 1) := by decide +kernel
theorem dX1_digest_23 : decode cX1_digest 23 = .ok (.ladd, 1) := by decide +kernel
theorem dX1_digest_24 : decode cX1_digest 24 = .ok (.lstore_n 1, 1) := by decide +kernel
theorem dX1_digest_25 : decode cX1_digest 25 = .ok (.iinc 3 1, 3) := by decide +kernel
theorem dX1_digest_28 : decode cX1_digest 28 = .ok (.goto (-22), 3) := by decide +kernel
theorem dX1_digest_31 : decode cX1_digest 31 = .ok (.iconst 0, 1) := by decide +kernel
theorem dX1_digest_32 : decode cX1_digest 32 = .ok (.istore_n 3, 1) := by decide +kernel
theorem dX1_digest_33 : decode cX1_digest 33 = .ok (.iload_n 3, 1) := by decide +kernel
theorem dX1_digest_34 : decode cX1_digest 34 = .ok (.aload_n 0, 1) := by decide +kernel
theorem dX1_digest_35 : decode cX1_digest 35 = .ok (.getfield 33, 3) := by decide +kernel
theorem dX1_digest_38 : decode cX1_digest 38 = .ok (.getfield 122, 3) := by decide +kernel
theorem dX1_digest_41 : decode cX1_digest 41 = .ok (.if_icmp .ge 43, 3) := by decide +kernel
theorem dX1_digest_44 : decode cX1_digest 44 = .ok (.iconst 0, 1) := by decide +kernel
theorem dX1_digest_45 : decode cX1_digest 45 = .ok (.istore 4, 2) := by decide +kernel
theorem dX1_digest_47 : decode cX1_digest 47 = .ok (.iload 4, 2) := by decide +kernel
theorem dX1_digest_49 : decode cX1_digest 49 = .ok (.bipush 6, 2) := by decide +kernel
theorem dX1_digest_51 : decode cX1_digest 51 = .ok (.if_icmp .ge 27, 3) := by decide +kernel
theorem dX1_digest_54 : decode cX1_digest 54 = .ok (.ldc2_w 252, 3) := by decide +kernel
theorem dX1_digest_57 : decode cX1_digest 57 = .ok (.lload_n 1, 1) := by decide +kernel
theorem dX1_digest_58 : decode cX1_digest 58 = .ok (.lmul, 1) := by decide +kernel
theorem dX1_digest_59 : decode cX1_digest 59 = .ok (.aload_n 0, 1) := by decide +kernel
theorem dX1_digest_60 : decode cX1_digest 60 = .ok (.getfield 33, 3) := by decide +kernel
theorem dX1_digest_63 : decode cX1_digest 63 = .ok (.iload_n 3, 1) := by decide +kernel
theorem dX1_digest_64 : decode cX1_digest 64 = .ok (.iload 4, 2) := by decide +kernel
theorem dX1_digest_66 : decode cX1_digest 66 = .ok (.invokevirtual 132, 3) := by decide +kernel
theorem dX1_digest_69 : decode cX1_digest 69 = .ok (.i2l, 1) := by decide +kernel
theorem dX1_digest_70 : decode cX1_digest 70 = .ok (.ladd, 1) := by decide +kernel
theorem dX1_digest_71 : decode cX1_digest 71 = .ok (.lstore_n 1, 1) := by decide +kernel
theorem dX1_digest_72 : decode cX1_digest 72 = .ok (.iinc 4 1, 3) := by decide +kernel
theorem dX1_digest_75 : decode cX1_digest 75 = .ok (.goto (-28), 3) := by decide +kernel
theorem dX1_digest_78 : decode cX1_digest 78 = .ok (.iinc 3 1, 3) := by decide +kernel
theorem dX1_digest_81 : decode cX1_digest 81 = .ok (.goto (-48), 3) := by decide +kernel
theorem dX1_digest_84 : decode cX1_digest 84 = .ok (.iconst 0, 1) := by decide +kernel
theorem dX1_digest_85 : decode cX1_digest 85 = .ok (.istore_n 3, 1) := by decide +kernel
theorem dX1_digest_86 : decode cX1_digest 86 = .ok (.iload_n 3, 1) := by decide +kernel
theorem dX1_digest_87 : decode cX1_digest 87 = .ok (.iconst 3, 1) := by decide +kernel
theorem dX1_digest_88 : decode cX1_digest 88 = .ok (.if_icmp .ge 23, 3) := by decide +kernel
theorem dX1_digest_91 : decode cX1_digest 91 = .ok (.ldc2_w 252, 3) := by decide +kernel
theorem dX1_digest_94 : decode cX1_digest 94 = .ok (.lload_n 1, 1) := by decide +kernel
theorem dX1_digest_95 : decode cX1_digest 95 = .ok (.lmul, 1) := by decide +kernel
theorem dX1_digest_96 : decode cX1_digest 96 = .ok (.aload_n 0, 1) := by decide +kernel
theorem dX1_digest_97 : decode cX1_digest 97 = .ok (.getfield 49, 3) := by decide +kernel
theorem dX1_digest_100 : decode cX1_digest 100 = .ok (.iload_n 3, 1) := by decide +kernel
theorem dX1_digest_101 : decode cX1_digest 101 = .ok (.iaload, 1) := by decide +kernel
theorem dX1_digest_102 : decode cX1_digest 102 = .ok (.i2l, 1) := by decide +kernel
theorem dX1_digest_103 : decode cX1_digest 103 = .ok (.ladd, 1) := by decide +kernel
theorem dX1_digest_104 : decode cX1_digest 104 = .ok (.lstore_n 1, 1) := by decide +kernel
theorem dX1_digest_105 : decode cX1_digest 105 = .ok (.iinc 3 1, 3) := by decide +kernel
theorem dX1_digest_108 : decode cX1_digest 108 = .ok (.goto (-22), 3) := by decide +kernel
theorem dX1_digest_111 : decode cX1_digest 111 = .ok (.iconst 0, 1) := by decide +kernel
theorem dX1_digest_112 : decode cX1_digest 112 = .ok (.istore_n 3, 1) := by decide +kernel
theorem dX1_digest_113 : decode cX1_digest 113 = .ok (.iload_n 3, 1) := by decide +kernel
theorem dX1_digest_114 : decode cX1_digest 114 = .ok (.bipush 6, 2) := by decide +kernel
theorem dX1_digest_116 : decode cX1_digest 116 = .ok (.if_icmp .ge 60, 3) := by decide +kernel
theorem dX1_digest_119 : decode cX1_digest 119 = .ok (.ldc2_w 252, 3) := by decide +kernel
theorem dX1_digest_122 : decode cX1_digest 122 = .ok (.lload_n 1, 1) := by decide +kernel
theorem dX1_digest_123 : decode cX1_digest 123 = .ok (.lmul, 1) := by decide +kernel
theorem dX1_digest_124 : decode cX1_digest 124 = .ok (.aload_n 0, 1) := by decide +kernel
theorem dX1_digest_125 : decode cX1_digest 125 = .ok (.getfield 14, 3) := by decide +kernel
theorem dX1_digest_128 : decode cX1_digest 128 = .ok (.iload_n 3, 1) := by decide +kernel
theorem dX1_digest_129 : decode cX1_digest 129 = .ok (.iaload, 1) := by decide +kernel
theorem dX1_digest_130 : decode cX1_digest 130 = .ok (.i2l, 1) := by decide +kernel
theorem dX1_digest_131 : decode cX1_digest 131 = .ok (.ladd, 1) := by decide +kernel
theorem dX1_digest_132 : decode cX1_digest 132 = .ok (.lstore_n 1, 1) := by decide +kernel
theorem dX1_digest_133 : decode cX1_digest 133 = .ok (.iconst 0, 1) := by decide +kernel
theorem dX1_digest_134 : decode cX1_digest 134 = .ok (.istore 4, 2) := by decide +kernel
theorem dX1_digest_136 : decode cX1_digest 136 = .ok (.iload 4, 2) := by decide +kernel
theorem dX1_digest_138 : decode cX1_digest 138 = .ok (.aload_n 0, 1) := by decide +kernel
theorem dX1_digest_139 : decode cX1_digest 139 = .ok (.getfield 14, 3) := by decide +kernel
theorem dX1_digest_142 : decode cX1_digest 142 = .ok (.iload_n 3, 1) := by decide +kernel
theorem dX1_digest_143 : decode cX1_digest 143 = .ok (.iaload, 1) := by decide +kernel
theorem dX1_digest_144 : decode cX1_digest 144 = .ok (.if_icmp .ge 26, 3) := by decide +kernel
theorem dX1_digest_147 : decode cX1_digest 147 = .ok (.ldc2_w 252, 3) := by decide +kernel
theorem dX1_digest_150 : decode cX1_digest 150 = .ok (.lload_n 1, 1) := by decide +kernel
theorem dX1_digest_151 : decode cX1_digest 151 = .ok (.lmul, 1) := by decide +kernel
theorem dX1_digest_152 : decode cX1_digest 152 = .ok (.aload_n 0, 1) := by decide +kernel
theorem dX1_digest_153 : decode cX1_digest 153 = .ok (.getfield 11, 3) := by decide +kernel
theorem dX1_digest_156 : decode cX1_digest 156 = .ok (.iload_n 3, 1) := by decide +kernel
theorem dX1_digest_157 : decode cX1_digest 157 = .ok (.aaload, 1) := by decide +kernel
theorem dX1_digest_158 : decode cX1_digest 158 = .ok (.iload 4, 2) := by decide +kernel
theorem dX1_digest_160 : decode cX1_digest 160 = .ok (.iaload, 1) := by decide +kernel
theorem dX1_digest_161 : decode cX1_digest 161 = .ok (.i2l, 1) := by decide +kernel
theorem dX1_digest_162 : decode cX1_digest 162 = .ok (.ladd, 1) := by decide +kernel
theorem dX1_digest_163 : decode cX1_digest 163 = .ok (.lstore_n 1, 1) := by decide +kernel
theorem dX1_digest_164 : decode cX1_digest 164 = .ok (.iinc 4 1, 3) := by decide +kernel
theorem dX1_digest_167 : decode cX1_digest 167 = .ok (.goto (-31), 3) := by decide +kernel
theorem dX1_digest_170 : decode cX1_digest 170 = .ok (.iinc 3 1, 3) := by decide +kernel
theorem dX1_digest_173 : decode cX1_digest 173 = .ok (.goto (-60), 3) := by decide +kernel
theorem dX1_digest_176 : decode cX1_digest 176 = .ok (.iconst 0, 1) := by decide +kernel
theorem dX1_digest_177 : decode cX1_digest 177 = .ok (.istore_n 3, 1) := by decide +kernel
theorem dX1_digest_178 : decode cX1_digest 178 = .ok (.iload_n 3, 1) := by decide +kernel
theorem dX1_digest_179 : decode cX1_digest 179 = .ok (.iconst 4, 1) := by decide +kernel
theorem dX1_digest_180 : decode cX1_digest 180 = .ok (.if_icmp .ge 60, 3) := by decide +kernel
theorem dX1_digest_183 : decode cX1_digest 183 = .ok (.ldc2_w 252, 3) := by decide +kernel
theorem dX1_digest_186 : decode cX1_digest 186 = .ok (.lload_n 1, 1) := by decide +kernel
theorem dX1_digest_187 : decode cX1_digest 187 = .ok (.lmul, 1) := by decide +kernel
theorem dX1_digest_188 : decode cX1_digest 188 = .ok (.aload_n 0, 1) := by decide +kernel
theorem dX1_digest_189 : decode cX1_digest 189 = .ok (.getfield 23, 3) := by decide +kernel
theorem dX1_digest_192 : decode cX1_digest 192 = .ok (.iload_n 3, 1) := by decide +kernel
theorem dX1_digest_193 : decode cX1_digest 193 = .ok (.iaload, 1) := by decide +kernel
theorem dX1_digest_194 : decode cX1_digest 194 = .ok (.i2l, 1) := by decide +kernel
theorem dX1_digest_195 : decode cX1_digest 195 = .ok (.ladd, 1) := by decide +kernel
theorem dX1_digest_196 : decode cX1_digest 196 = .ok (.lstore_n 1, 1) := by decide +kernel
theorem dX1_digest_197 : decode cX1_digest 197 = .ok (.iconst 0, 1) := by decide +kernel
theorem dX1_digest_198 : decode cX1_digest 198 = .ok (.istore 4, 2) := by decide +kernel
theorem dX1_digest_200 : decode cX1_digest 200 = .ok (.iload 4, 2) := by decide +kernel
theorem dX1_digest_202 : decode cX1_digest 202 = .ok (.aload_n 0, 1) := by decide +kernel
theorem dX1_digest_203 : decode cX1_digest 203 = .ok (.getfield 23, 3) := by decide +kernel
theorem dX1_digest_206 : decode cX1_digest 206 = .ok (.iload_n 3, 1) := by decide +kernel
theorem dX1_digest_207 : decode cX1_digest 207 = .ok (.iaload, 1) := by decide +kernel
theorem dX1_digest_208 : decode cX1_digest 208 = .ok (.if_icmp .ge 26, 3) := by decide +kernel
theorem dX1_digest_211 : decode cX1_digest 211 = .ok (.ldc2_w 252, 3) := by decide +kernel
theorem dX1_digest_214 : decode cX1_digest 214 = .ok (.lload_n 1, 1) := by decide +kernel
theorem dX1_digest_215 : decode cX1_digest 215 = .ok (.lmul, 1) := by decide +kernel
theorem dX1_digest_216 : decode cX1_digest 216 = .ok (.aload_n 0, 1) := by decide +kernel
theorem dX1_digest_217 : decode cX1_digest 217 = .ok (.getfield 20, 3) := by decide +kernel
theorem dX1_digest_220 : decode cX1_digest 220 = .ok (.iload_n 3, 1) := by decide +kernel
theorem dX1_digest_221 : decode cX1_digest 221 = .ok (.aaload, 1) := by decide +kernel
theorem dX1_digest_222 : decode cX1_digest 222 = .ok (.iload 4, 2) := by decide +kernel
theorem dX1_digest_224 : decode cX1_digest 224 = .ok (.baload, 1) := by decide +kernel
theorem dX1_digest_225 : decode cX1_digest 225 = .ok (.i2l, 1) := by decide +kernel
theorem dX1_digest_226 : decode cX1_digest 226 = .ok (.ladd, 1) := by decide +kernel
theorem dX1_digest_227 : decode cX1_digest 227 = .ok (.lstore_n 1, 1) := by decide +kernel
theorem dX1_digest_228 : decode cX1_digest 228 = .ok (.iinc 4 1, 3) := by decide +kernel
theorem dX1_digest_231 : decode cX1_digest 231 = .ok (.goto (-31), 3) := by decide +kernel
theorem dX1_digest_234 : decode cX1_digest 234 = .ok (.iinc 3 1, 3) := by decide +kernel
theorem dX1_digest_237 : decode cX1_digest 237 = .ok (.goto (-59), 3) := by decide +kernel
theorem dX1_digest_240 : decode cX1_digest 240 = .ok (.lload_n 1, 1) := by decide +kernel
theorem dX1_digest_241 : decode cX1_digest 241 = .ok (.lreturn, 1) := by decide +kernel
theorem dL_cell_0 : decode cL_cell 0 = .ok (.iload_n 1, 1) := by decide +kernel
theorem dL_cell_1 : decode cL_cell 1 = .ok (.aload_n 0, 1) := by decide +kernel
theorem dL_cell_2 : decode cL_cell 2 = .ok (.arraylength, 1) := by decide +kernel
theorem dL_cell_3 : decode cL_cell 3 = .ok (.if_icmp .ge 9, 3) := by decide +kernel
theorem dL_cell_6 : decode cL_cell 6 = .ok (.aload_n 0, 1) := by decide +kernel
theorem dL_cell_7 : decode cL_cell 7 = .ok (.iload_n 1, 1) := by decide +kernel
theorem dL_cell_8 : decode cL_cell 8 = .ok (.iaload, 1) := by decide +kernel
theorem dL_cell_9 : decode cL_cell 9 = .ok (.goto 10, 3) := by decide +kernel
theorem dL_cell_12 : decode cL_cell 12 = .ok (.ldc 7, 2) := by decide +kernel
theorem dL_cell_14 : decode cL_cell 14 = .ok (.iload_n 1, 1) := by decide +kernel
theorem dL_cell_15 : decode cL_cell 15 = .ok (.bipush 7, 2) := by decide +kernel
theorem dL_cell_17 : decode cL_cell 17 = .ok (.iadd, 1) := by decide +kernel
theorem dL_cell_18 : decode cL_cell 18 = .ok (.imul, 1) := by decide +kernel
theorem dL_cell_19 : decode cL_cell 19 = .ok (.ireturn, 1) := by decide +kernel
theorem dL_low_0 : decode cL_low 0 = .ok (.iload_n 0, 1) := by decide +kernel
theorem dL_low_1 : decode cL_low 1 = .ok (.ldc 8, 2) := by decide +kernel
theorem dL_low_3 : decode cL_low 3 = .ok (.iand, 1) := by decide +kernel
theorem dL_low_4 : decode cL_low 4 = .ok (.iload_n 1, 1) := by decide +kernel
theorem dL_low_5 : decode cL_low 5 = .ok (.irem, 1) := by decide +kernel
theorem dL_low_6 : decode cL_low 6 = .ok (.ireturn, 1) := by decide +kernel
theorem dL_letter_0 : decode cL_letter 0 = .ok (.iload_n 0, 1) := by decide +kernel
theorem dL_letter_1 : decode cL_letter 1 = .ok (.ifCond .ne 8, 3) := by decide +kernel
theorem dL_letter_4 : decode cL_letter 4 = .ok (.bipush 112, 2) := by decide +kernel
theorem dL_letter_6 : decode cL_letter 6 = .ok (.goto 45, 3) := by decide +kernel
theorem dL_letter_9 : decode cL_letter 9 = .ok (.iload_n 0, 1) := by decide +kernel
theorem dL_letter_10 : decode cL_letter 10 = .ok (.iconst 1, 1) := by decide +kernel
theorem dL_letter_11 : decode cL_letter 11 = .ok (.if_icmp .ne 8, 3) := by decide +kernel
theorem dL_letter_14 : decode cL_letter 14 = .ok (.bipush 100, 2) := by decide +kernel
theorem dL_letter_16 : decode cL_letter 16 = .ok (.goto 35, 3) := by decide +kernel
theorem dL_letter_19 : decode cL_letter 19 = .ok (.iload_n 0, 1) := by decide +kernel
theorem dL_letter_20 : decode cL_letter 20 = .ok (.iconst 2, 1) := by decide +kernel
theorem dL_letter_21 : decode cL_letter 21 = .ok (.if_icmp .ne 8, 3) := by decide +kernel
theorem dL_letter_24 : decode cL_letter 24 = .ok (.bipush 101, 2) := by decide +kernel
theorem dL_letter_26 : decode cL_letter 26 = .ok (.goto 25, 3) := by decide +kernel
theorem dL_letter_29 : decode cL_letter 29 = .ok (.iload_n 0, 1) := by decide +kernel
theorem dL_letter_30 : decode cL_letter 30 = .ok (.iconst 3, 1) := by decide +kernel
theorem dL_letter_31 : decode cL_letter 31 = .ok (.if_icmp .ne 8, 3) := by decide +kernel
theorem dL_letter_34 : decode cL_letter 34 = .ok (.bipush 98, 2) := by decide +kernel
theorem dL_letter_36 : decode cL_letter 36 = .ok (.goto 15, 3) := by decide +kernel
theorem dL_letter_39 : decode cL_letter 39 = .ok (.iload_n 0, 1) := by decide +kernel
theorem dL_letter_40 : decode cL_letter 40 = .ok (.iconst 4, 1) := by decide +kernel
theorem dL_letter_41 : decode cL_letter 41 = .ok (.if_icmp .ne 8, 3) := by decide +kernel
theorem dL_letter_44 : decode cL_letter 44 = .ok (.bipush 116, 2) := by decide +kernel
theorem dL_letter_46 : decode cL_letter 46 = .ok (.goto 5, 3) := by decide +kernel
theorem dL_letter_49 : decode cL_letter 49 = .ok (.bipush 113, 2) := by decide +kernel
theorem dL_letter_51 : decode cL_letter 51 = .ok (.ireturn, 1) := by decide +kernel
theorem fl_X1_234 : FLk RX1 234 0 6 := Or.inr ⟨"DareFord", in_ns (i := 72) (by decide +kernel) rfl⟩
theorem mt_X1_bitOf : Cond.static yX1_bitOf ∈ gd_tbl ∧ Cond.initialized yX1_bitOf.cls ∈ gd_tbl ∧ Cond.code yX1_bitOf cX1_bitOf 1 (some .int) ∈ gd_tbl := ⟨in_gd (i := 480) (by decide +kernel) rfl, in_gd (i := 36) (by decide +kernel) rfl, in_gd (i := 481) (by decide +kernel) rfl⟩
theorem yo_X1_bitOf : yOk yX1_bitOf 1 := ⟨by decide, by decide, by decide +kernel⟩
theorem l_X1_237 : mlS RX1 237 yX1_bitOf cX1_bitOf 1 (some .int) := ⟨in_gd (i := 479) (by decide +kernel) rfl, mt_X1_bitOf⟩
theorem mt_X0_allCrossings : (Cond.instanceMethod yX0_allCrossings ∈ gd_tbl ∧ Cond.selects yX0_allCrossings.cls yX0_allCrossings yX0_allCrossings ∈ gd_tbl) ∧ Cond.initialized yX0_allCrossings.cls ∈ gd_tbl ∧ Cond.code yX0_allCrossings cX0_allCrossings 3 (some .int) ∈ gd_tbl := ⟨⟨in_gd (i := 484) (by decide +kernel) rfl, in_gd (i := 32) (by decide +kernel) rfl⟩, in_gd (i := 37) (by decide +kernel) rfl, in_gd (i := 485) (by decide +kernel) rfl⟩
theorem yo_X0_allCrossings : yOk yX0_allCrossings 0 := ⟨by decide, by decide, by decide +kernel⟩
theorem l_X1_240 : mlW RX1 240 yX0_allCrossings cX0_allCrossings 3 (some .int) "DareFord" := ⟨in_ns (i := 482) (by decide +kernel) rfl, mt_X0_allCrossings⟩
theorem mt_X0_howManyOf : (Cond.instanceMethod yX0_howManyOf ∈ gd_tbl ∧ Cond.selects yX0_howManyOf.cls yX0_howManyOf yX0_howManyOf ∈ gd_tbl) ∧ Cond.initialized yX0_howManyOf.cls ∈ gd_tbl ∧ Cond.code yX0_howManyOf cX0_howManyOf 4 (some .int) ∈ gd_tbl := ⟨⟨in_gd (i := 488) (by decide +kernel) rfl, in_gd (i := 33) (by decide +kernel) rfl⟩, in_gd (i := 37) (by decide +kernel) rfl, in_gd (i := 489) (by decide +kernel) rfl⟩
theorem yo_X0_howManyOf : yOk yX0_howManyOf 1 := ⟨by decide, by decide, by decide +kernel⟩
theorem l_X1_243 : mlW RX1 243 yX0_howManyOf cX0_howManyOf 4 (some .int) "DareFord" := ⟨in_ns (i := 486) (by decide +kernel) rfl, mt_X0_howManyOf⟩
theorem mt_X1_howManyThere : Cond.static yX1_howManyThere ∈ gd_tbl ∧ Cond.initialized yX1_howManyThere.cls ∈ gd_tbl ∧ Cond.code yX1_howManyThere cX1_howManyThere 6 (some .int) ∈ gd_tbl := ⟨in_gd (i := 492) (by decide +kernel) rfl, in_gd (i := 36) (by decide +kernel) rfl, in_gd (i := 493) (by decide +kernel) rfl⟩
theorem yo_X1_howManyThere : yOk yX1_howManyThere 1 := ⟨by decide, by decide, by decide +kernel⟩
theorem l_X1_246 : mlS RX1 246 yX1_howManyThere cX1_howManyThere 6 (some .int) := ⟨in_gd (i := 491) (by decide +kernel) rfl, mt_X1_howManyThere⟩
theorem k_X1_250 : Cond.constantLong RX1 250 (Int64.ofInt 17) ∈ gd_tbl := in_gd (i := 502) (by decide +kernel) rfl
theorem k_X1_252 : Cond.constantLong RX1 252 (Int64.ofInt 31) ∈ gd_tbl := in_gd (i := 503) (by decide +kernel) rfl
theorem mt_X1_count : (Cond.instanceMethod yX1_count ∈ gd_tbl ∧ Cond.selects yX1_count.cls yX1_count yX1_count ∈ gd_tbl) ∧ Cond.initialized yX1_count.cls ∈ gd_tbl ∧ Cond.code yX1_count cX1_count 2 (some .int) ∈ gd_tbl := ⟨⟨in_gd (i := 476) (by decide +kernel) rfl, in_gd (i := 477) (by decide +kernel) rfl⟩, in_gd (i := 36) (by decide +kernel) rfl, in_gd (i := 478) (by decide +kernel) rfl⟩
theorem yo_X1_count : yOk yX1_count 1 := ⟨by decide, by decide, by decide +kernel⟩
theorem l_X1_254 : mlV RX1 254 yX1_count cX1_count 2 (some .int) := ⟨in_gd (i := 504) (by decide +kernel) rfl, mt_X1_count⟩
theorem k_L_7 : Cond.constant RL 7 (Int32.ofInt 40503) ∈ gd_tbl := in_gd (i := 512) (by decide +kernel) rfl
theorem k_L_8 : Cond.constant RL 8 (Int32.ofInt 2147483647) ∈ gd_tbl := in_gd (i := 516) (by decide +kernel) rfl
def fX1_lower (μ : Mem) : Option Int :=
  some (μ 0 13)
theorem K_X1_lower {σ : Scr}    (μ : Mem) : Con σ yX1_lower cX1_lower 1 (some .long) 2 [.inr (.inr 0)] μ (fX1_lower  μ) (rL μ) := by
  refine con_of (own := RX1) (by decide) rfl (Nat.le_of_ble_eq_true rfl) ?_
  show Sim σ cX1_lower 1 RX1 (2) (some .long) (rL μ) 0 [(0, .inr (.inr 0))] [] μ (fX1_lower  μ)
  unfold fX1_lower
  refine S_aload_n dX1_lower_0 rfl ?_
  refine S_getL dX1_lower_1 rfl fl_X1_59 rfl rfl ?_
  exact S_lret dX1_lower_4 rfl rfl
def fX1_bitOf (p1 : Int) (μ : Mem) : Option Int :=
  if p1 < 0 then
    some 0
  else
    some (bshl 1 p1)
theorem K_X1_bitOf {σ : Scr}  (p1 : Int)  (μ : Mem) : Con σ yX1_bitOf cX1_bitOf 1 (some .int) 2 [.inl p1] μ (fX1_bitOf p1 μ) (rI μ) := by
  refine con_of (own := RX1) (by decide) rfl (Nat.le_of_ble_eq_true rfl) ?_
  show Sim σ cX1_bitOf 1 RX1 (2) (some .int) (rI μ) 0 [(0, .inl p1)] [] μ (fX1_bitOf p1 μ)
  unfold fX1_bitOf
  refine S_iload_n dX1_bitOf_0 rfl ?_
  refine S_if_lt (tgt := 10) dX1_bitOf_1 (by decide) (fun h1 => ?_) (fun h1 => ?_)
  · refine S_iconst dX1_bitOf_10 rfl ?_
    exact S_iret dX1_bitOf_11 rfl rfl
  · refine S_iconst dX1_bitOf_4 rfl ?_
    refine S_iload_n dX1_bitOf_5 rfl ?_
    refine S_ishl dX1_bitOf_6 ?_
    refine S_goto (tgt := 11) dX1_bitOf_7 (by decide) ?_
    exact S_iret dX1_bitOf_11 rfl rfl
def fX1_howManyThere_L10 (x1 : Int) (n1 : Nat) (μ : Mem) (p1 : Nat) : Nat → Int → Int → Option Int
  | 0, _, _ => none
  | n4 + 1, x2, x3 =>
    if x1 ≤ x3 then
      some x2
    else
      grd (0 ≤ x3 ∧ x3 < (Nat.cast n1 : Int)) <|
      mlet ((μ p1 (x3).toNat)) fun x5 =>
      mlet (fun (x6 : Int) =>
        mlet (w32 (x3 + 1)) fun x8 =>
        fX1_howManyThere_L10 x1 n1 μ p1 n4 x6 x8
        ) fun (K7 : Int → Option Int) =>
      if x5 < 0 then
        K7 x2
      else
        mlet (w32 (x2 + 1)) fun x9 =>
        K7 x9
def fX1_howManyThere (p1 : Nat) (n1 : Nat) (μ : Mem) : Option Int :=
  mlet ((Nat.cast n1 : Int)) fun x1 =>
  fX1_howManyThere_L10 x1 n1 μ p1 fuel 0 0
theorem K_X1_howManyThere {σ : Scr} {p1 : Nat} {n1 : Nat} (hp1 : kd p1 = .inl (0, n1)) (hc1 : p1 < 64) (hn1 : n1 ≤ 4000)   (μ : Mem) : Con σ yX1_howManyThere cX1_howManyThere 6 (some .int) 2 [.inr (.inr p1)] μ (fX1_howManyThere p1 n1 μ) (rI μ) := by
  refine con_of (own := RX1) (by decide) rfl (Nat.le_of_ble_eq_true rfl) ?_
  show Sim σ cX1_howManyThere 6 RX1 (2) (some .int) (rI μ) 0 [(0, .inr (.inr p1))] [] μ (fX1_howManyThere p1 n1 μ)
  unfold fX1_howManyThere
  refine S_iconst dX1_howManyThere_0 rfl ?_
  refine S_istore_n (lv' := [(1, .inl 0), (0, .inr (.inr p1))]) dX1_howManyThere_1 rfl rfl ?_
  refine S_aload_n dX1_howManyThere_2 rfl ?_
  refine S_astore_n (lv' := [(2, .inr (.inr p1)), (1, .inl 0), (0, .inr (.inr p1))]) dX1_howManyThere_3 rfl rfl ?_
  refine S_aload_n dX1_howManyThere_4 rfl ?_
  refine S_alenN dX1_howManyThere_5 hp1 hc1 (by decide) hn1 ?_
  refine S_let (fun x1 => ?_)
  refine S_istore_n (lv' := [(3, .inl x1), (2, .inr (.inr p1)), (1, .inl 0), (0, .inr (.inr p1))]) dX1_howManyThere_6 rfl rfl ?_
  refine S_iconst dX1_howManyThere_7 rfl ?_
  refine S_istore (lv' := [(4, .inl 0), (3, .inl x1), (2, .inr (.inr p1)), (1, .inl 0), (0, .inr (.inr p1))]) dX1_howManyThere_8 rfl rfl ?_
  have hL10 : ∀ (n4 : Nat) (x2 : Int) (x3 : Int), Sim σ cX1_howManyThere 6 RX1 (2) (some .int) (rI μ) 10 [(1, .inl x2), (2, .inr (.inr p1)), (3, .inl x1), (4, .inl x3)] [] μ (fX1_howManyThere_L10 x1 n1 μ p1 n4 x2 x3) := by
    intro n4
    induction n4 with
    | zero =>
      intro x2 x3
      exact S_none rfl
    | succ n4 ih =>
      intro x2 x3
      rw [fX1_howManyThere_L10]
      refine S_iload dX1_howManyThere_10 rfl ?_
      refine S_iload_n dX1_howManyThere_12 rfl ?_
      refine S_ic_ge (tgt := 36) dX1_howManyThere_13 (by decide) (fun h11 => ?_) (fun h11 => ?_)
      · refine S_iload_n dX1_howManyThere_36 rfl ?_
        exact S_iret dX1_howManyThere_37 rfl rfl
      · refine S_aload_n dX1_howManyThere_16 rfl ?_
        refine S_iload dX1_howManyThere_17 rfl ?_
        refine S_iald (N := (Nat.cast n1 : Int)) dX1_howManyThere_19 hp1 hc1 rfl ?_
        refine S_let (fun x5 => ?_)
        refine S_istore (lv' := [(5, .inl x5), (1, .inl x2), (2, .inr (.inr p1)), (3, .inl x1), (4, .inl x3)]) dX1_howManyThere_20 rfl rfl ?_
        refine S_iload dX1_howManyThere_22 rfl ?_
        refine S_jn (fun (K7 : Int → Option Int) => ∀ (x6 : Int), Sim σ cX1_howManyThere 6 RX1 (2) (some .int) (rI μ) 30 [(1, .inl x6), (2, .inr (.inr p1)), (3, .inl x1), (4, .inl x3)] [] μ (K7 x6)) ?_ (fun K7 hK7 => ?_)
        · intro x6
          refine S_iinc (lv' := fun x8 => [(4, .inl x8), (1, .inl x6), (2, .inr (.inr p1)), (3, .inl x1)]) dX1_howManyThere_30 rfl rfl rfl (fun _ => rfl) (fun x8 => ?_)
          refine S_goto (tgt := 10) dX1_howManyThere_33 (by decide) ?_
          exact S_sub [1, 2, 3, 0] rfl (ih x6 x8)
        refine S_if_lt (tgt := 30) dX1_howManyThere_24 (by decide) (fun h10 => ?_) (fun h10 => ?_)
        · exact S_sub [1, 2, 3, 4] rfl (hK7 x2)
        · refine S_iinc (lv' := fun x9 => [(1, .inl x9), (5, .inl x5), (2, .inr (.inr p1)), (3, .inl x1), (4, .inl x3)]) dX1_howManyThere_27 rfl rfl rfl (fun _ => rfl) (fun x9 => ?_)
          exact S_sub [0, 2, 3, 4] rfl (hK7 x9)
  exact S_sub [3, 2, 1, 0] rfl (hL10 fuel 0 0)
def fX1_count (p1 : Int) (μ : Mem) : Option Int :=
  if p1 = 0 then
    some (μ 20 4)
  else
    if p1 = 1 then
      some (μ 20 6)
    else
      if p1 = 2 then
        some (μ 0 8)
      else
        if p1 = 3 then
          some (μ 20 5)
        else
          if p1 = 4 then
            (fX0_holder 20 0 μ).bind fun x6 =>
            (fX1_bitOf x6 μ).bind fun x7 =>
            some x7
          else
            if p1 = 5 then
              (fX0_daringOf 20 (w32 ((bshl 1 (μ 20 4)) - 1)) μ).bind fun x9 =>
              some x9
            else
              if p1 = 6 then
                (fX0_allCrossings 20 μ).bind fun x11 =>
                some x11
              else
                if p1 = 7 then
                  (fX0_howManyOf 20 2 μ).bind fun x13 =>
                  some x13
                else
                  if p1 = 8 then
                    (fX0_howManyOf 20 3 μ).bind fun x15 =>
                    some x15
                  else
                    if p1 = 9 then
                      (fX1_howManyThere 8 6 μ).bind fun x17 =>
                      some x17
                    else
                      if p1 = 10 then
                        (fX1_howManyThere 14 4 μ).bind fun x19 =>
                        some x19
                      else
                        if p1 = 11 then
                          (fX1_howManyThere 35 3 μ).bind fun x21 =>
                          some x21
                        else
                          some (-1)
theorem K_X1_count {σ : Scr}  (p1 : Int)  (μ : Mem) : Con σ yX1_count cX1_count 2 (some .int) 6 [.inr (.inr 0), .inl p1] μ (fX1_count p1 μ) (rI μ) := by
  refine con_of (own := RX1) (by decide) rfl (Nat.le_of_ble_eq_true rfl) ?_
  show Sim σ cX1_count 2 RX1 (6) (some .int) (rI μ) 0 [(0, .inr (.inr 0)), (1, .inl p1)] [] μ (fX1_count p1 μ)
  unfold fX1_count
  refine S_iload_n dX1_count_0 rfl ?_
  refine S_if (fun h1 => ?_) (fun h1 => ?_)
  · refine S_tsIn (n := 0) (tgt := 64) dX1_count_1 h1 (by decide) (by decide) rfl (by decide) ?_
    refine S_aload_n dX1_count_64 rfl ?_
    refine S_getR (c1 := 20) dX1_count_65 rfl fl_X1_33 rfl rfl rfl ?_
    refine S_getI dX1_count_68 rfl fl_X1_122 rfl rfl ?_
    exact S_iret dX1_count_71 rfl rfl
  · refine S_if (fun h2 => ?_) (fun h2 => ?_)
    · refine S_tsIn (n := 1) (tgt := 72) dX1_count_1 h2 (by decide) (by decide) rfl (by decide) ?_
      refine S_aload_n dX1_count_72 rfl ?_
      refine S_getR (c1 := 20) dX1_count_73 rfl fl_X1_33 rfl rfl rfl ?_
      refine S_getI dX1_count_76 rfl fl_X1_234 rfl rfl ?_
      exact S_iret dX1_count_79 rfl rfl
    · refine S_if (fun h3 => ?_) (fun h3 => ?_)
      · refine S_tsIn (n := 2) (tgt := 80) dX1_count_1 h3 (by decide) (by decide) rfl (by decide) ?_
        refine S_aload_n dX1_count_80 rfl ?_
        refine S_getI dX1_count_81 rfl fl_X1_42 rfl rfl ?_
        exact S_iret dX1_count_84 rfl rfl
      · refine S_if (fun h4 => ?_) (fun h4 => ?_)
        · refine S_tsIn (n := 3) (tgt := 85) dX1_count_1 h4 (by decide) (by decide) rfl (by decide) ?_
          refine S_aload_n dX1_count_85 rfl ?_
          refine S_getR (c1 := 20) dX1_count_86 rfl fl_X1_33 rfl rfl rfl ?_
          refine S_getI dX1_count_89 rfl fl_X1_178 rfl rfl ?_
          exact S_iret dX1_count_92 rfl rfl
        · refine S_if (fun h5 => ?_) (fun h5 => ?_)
          · refine S_tsIn (n := 4) (tgt := 93) dX1_count_1 h5 (by decide) (by decide) rfl (by decide) ?_
            refine S_aload_n dX1_count_93 rfl ?_
            refine S_getR (c1 := 20) dX1_count_94 rfl fl_X1_33 rfl rfl rfl ?_
            refine S_iconst dX1_count_97 rfl ?_
            refine S_callW_I dX1_count_98 [.inl 0] (K_X0_holder (by unfold isBk; decide) 0 μ) l_X1_145 yo_X0_holder rfl rfl rfl rfl rfl (fun x6 => ?_)
            refine S_callS_I dX1_count_101 [.inl x6] (K_X1_bitOf x6 μ) l_X1_237 yo_X1_bitOf rfl rfl rfl (fun x7 => ?_)
            exact S_iret dX1_count_104 rfl rfl
          · refine S_if (fun h8 => ?_) (fun h8 => ?_)
            · refine S_tsIn (n := 5) (tgt := 105) dX1_count_1 h8 (by decide) (by decide) rfl (by decide) ?_
              refine S_aload_n dX1_count_105 rfl ?_
              refine S_getR (c1 := 20) dX1_count_106 rfl fl_X1_33 rfl rfl rfl ?_
              refine S_iconst dX1_count_109 rfl ?_
              refine S_aload_n dX1_count_110 rfl ?_
              refine S_getR (c1 := 20) dX1_count_111 rfl fl_X1_33 rfl rfl rfl ?_
              refine S_getI dX1_count_114 rfl fl_X1_122 rfl rfl ?_
              refine S_ishl dX1_count_117 ?_
              refine S_iconst dX1_count_118 rfl ?_
              refine S_isub dX1_count_119 ?_
              refine S_callW_I dX1_count_120 [.inl (w32 ((bshl 1 (μ 20 4)) - 1))] (K_X0_daringOf (by unfold isBk; decide) (w32 ((bshl 1 (μ 20 4)) - 1)) μ) l_X1_206 yo_X0_daringOf rfl rfl rfl rfl rfl (fun x9 => ?_)
              exact S_iret dX1_count_123 rfl rfl
            · refine S_if (fun h10 => ?_) (fun h10 => ?_)
              · refine S_tsIn (n := 6) (tgt := 124) dX1_count_1 h10 (by decide) (by decide) rfl (by decide) ?_
                refine S_aload_n dX1_count_124 rfl ?_
                refine S_getR (c1 := 20) dX1_count_125 rfl fl_X1_33 rfl rfl rfl ?_
                refine S_callW_I dX1_count_128 [] (K_X0_allCrossings (by unfold isBk; decide) μ) l_X1_240 yo_X0_allCrossings rfl rfl rfl rfl rfl (fun x11 => ?_)
                exact S_iret dX1_count_131 rfl rfl
              · refine S_if (fun h12 => ?_) (fun h12 => ?_)
                · refine S_tsIn (n := 7) (tgt := 132) dX1_count_1 h12 (by decide) (by decide) rfl (by decide) ?_
                  refine S_aload_n dX1_count_132 rfl ?_
                  refine S_getR (c1 := 20) dX1_count_133 rfl fl_X1_33 rfl rfl rfl ?_
                  refine S_iconst dX1_count_136 rfl ?_
                  refine S_callW_I dX1_count_137 [.inl 2] (K_X0_howManyOf (by unfold isBk; decide) 2 μ) l_X1_243 yo_X0_howManyOf rfl rfl rfl rfl rfl (fun x13 => ?_)
                  exact S_iret dX1_count_140 rfl rfl
                · refine S_if (fun h14 => ?_) (fun h14 => ?_)
                  · refine S_tsIn (n := 8) (tgt := 141) dX1_count_1 h14 (by decide) (by decide) rfl (by decide) ?_
                    refine S_aload_n dX1_count_141 rfl ?_
                    refine S_getR (c1 := 20) dX1_count_142 rfl fl_X1_33 rfl rfl rfl ?_
                    refine S_iconst dX1_count_145 rfl ?_
                    refine S_callW_I dX1_count_146 [.inl 3] (K_X0_howManyOf (by unfold isBk; decide) 3 μ) l_X1_243 yo_X0_howManyOf rfl rfl rfl rfl rfl (fun x15 => ?_)
                    exact S_iret dX1_count_149 rfl rfl
                  · refine S_if (fun h16 => ?_) (fun h16 => ?_)
                    · refine S_tsIn (n := 9) (tgt := 150) dX1_count_1 h16 (by decide) (by decide) rfl (by decide) ?_
                      refine S_aload_n dX1_count_150 rfl ?_
                      refine S_getR (c1 := 8) dX1_count_151 rfl fl_X1_14 rfl rfl rfl ?_
                      refine S_callS_I dX1_count_154 [.inr (.inr 8)] (K_X1_howManyThere rfl (by decide) (by decide) μ) l_X1_246 yo_X1_howManyThere rfl rfl rfl (fun x17 => ?_)
                      exact S_iret dX1_count_157 rfl rfl
                    · refine S_if (fun h18 => ?_) (fun h18 => ?_)
                      · refine S_tsIn (n := 10) (tgt := 158) dX1_count_1 h18 (by decide) (by decide) rfl (by decide) ?_
                        refine S_aload_n dX1_count_158 rfl ?_
                        refine S_getR (c1 := 14) dX1_count_159 rfl fl_X1_23 rfl rfl rfl ?_
                        refine S_callS_I dX1_count_162 [.inr (.inr 14)] (K_X1_howManyThere rfl (by decide) (by decide) μ) l_X1_246 yo_X1_howManyThere rfl rfl rfl (fun x19 => ?_)
                        exact S_iret dX1_count_165 rfl rfl
                      · refine S_if (fun h20 => ?_) (fun h20 => ?_)
                        · refine S_tsIn (n := 11) (tgt := 166) dX1_count_1 h20 (by decide) (by decide) rfl (by decide) ?_
                          refine S_aload_n dX1_count_166 rfl ?_
                          refine S_getR (c1 := 35) dX1_count_167 rfl fl_X1_49 rfl rfl rfl ?_
                          refine S_callS_I dX1_count_170 [.inr (.inr 35)] (K_X1_howManyThere rfl (by decide) (by decide) μ) l_X1_246 yo_X1_howManyThere rfl rfl rfl (fun x21 => ?_)
                          exact S_iret dX1_count_173 rfl rfl
                        · refine S_tsD (tgt := 174) [0, 1, 2, 3, 4, 5, 6, 7, 8, 9, 10, 11] dX1_count_1 (by decide) (by decide) (by intro v9 h9 e9; simp only [List.mem_cons, List.not_mem_nil, or_false] at h9; omega) ?_
                          refine S_iconst dX1_count_174 rfl ?_
                          exact S_iret dX1_count_175 rfl rfl
def fX1_finding (μ : Mem) : Option Int :=
  some (μ 0 14)
theorem K_X1_finding {σ : Scr}    (μ : Mem) : Con σ yX1_finding cX1_finding 1 (some .int) 2 [.inr (.inr 0)] μ (fX1_finding  μ) (rI μ) := by
  refine con_of (own := RX1) (by decide) rfl (Nat.le_of_ble_eq_true rfl) ?_
  show Sim σ cX1_finding 1 RX1 (2) (some .int) (rI μ) 0 [(0, .inr (.inr 0))] [] μ (fX1_finding  μ)
  unfold fX1_finding
  refine S_aload_n dX1_finding_0 rfl ?_
  refine S_getI dX1_finding_1 rfl fl_X1_62 rfl rfl ?_
  exact S_iret dX1_finding_4 rfl rfl
def fX1_digest_L200 (x10 : Int) (μ : Mem) (K14 : Int → Option Int) : Nat → Int → Int → Option Int
  | 0, _, _ => none
  | n18 + 1, x16, x17 =>
    grd (0 ≤ x10 ∧ x10 < 4) <|
    if (μ 14 (x10).toNat) ≤ x17 then
      K14 x16
    else
      grd (0 ≤ x10 ∧ x10 < 4) <|
      mlet (10 + (x10).toNat) fun c19 =>
      grd (0 ≤ x17 ∧ x17 < 60) <|
      mlet ((w64 ((w64 (31 * x16)) + (μ c19 (x17).toNat)))) fun x20 =>
      mlet (w32 (x17 + 1)) fun x21 =>
      fX1_digest_L200 x10 μ K14 n18 x20 x21
def fX1_digest_L178 (μ : Mem) : Nat → Int → Int → Option Int
  | 0, _, _ => none
  | n11 + 1, x9, x10 =>
    if 4 ≤ x10 then
      some x9
    else
      grd (0 ≤ x10 ∧ x10 < 4) <|
      mlet ((w64 ((w64 (31 * x9)) + (μ 14 (x10).toNat)))) fun x12 =>
      mlet (fun (x13 : Int) =>
        mlet (w32 (x10 + 1)) fun x15 =>
        fX1_digest_L178 μ n11 x13 x15
        ) fun (K14 : Int → Option Int) =>
      fX1_digest_L200 x10 μ K14 fuel x12 0
def fX1_digest_L136 (x25 : Int) (μ : Mem) (K29 : Int → Option Int) : Nat → Int → Int → Option Int
  | 0, _, _ => none
  | n33 + 1, x31, x32 =>
    grd (0 ≤ x25 ∧ x25 < 6) <|
    if (μ 8 (x25).toNat) ≤ x32 then
      K29 x31
    else
      grd (0 ≤ x25 ∧ x25 < 6) <|
      mlet (2 + (x25).toNat) fun c34 =>
      grd (0 ≤ x32 ∧ x32 < 40) <|
      mlet ((w64 ((w64 (31 * x31)) + (μ c34 (x32).toNat)))) fun x35 =>
      mlet (w32 (x32 + 1)) fun x36 =>
      fX1_digest_L136 x25 μ K29 n33 x35 x36
def fX1_digest_L113 (K8 : Int → Option Int) (μ : Mem) : Nat → Int → Int → Option Int
  | 0, _, _ => none
  | n26 + 1, x24, x25 =>
    if 6 ≤ x25 then
      K8 x24
    else
      grd (0 ≤ x25 ∧ x25 < 6) <|
      mlet ((w64 ((w64 (31 * x24)) + (μ 8 (x25).toNat)))) fun x27 =>
      mlet (fun (x28 : Int) =>
        mlet (w32 (x25 + 1)) fun x30 =>
        fX1_digest_L113 K8 μ n26 x28 x30
        ) fun (K29 : Int → Option Int) =>
      fX1_digest_L136 x25 μ K29 fuel x27 0
def fX1_digest_L86 (K6 : Int → Option Int) (μ : Mem) : Nat → Int → Int → Option Int
  | 0, _, _ => none
  | n41 + 1, x39, x40 =>
    if 3 ≤ x40 then
      K6 x39
    else
      grd (0 ≤ x40 ∧ x40 < 3) <|
      mlet ((w64 ((w64 (31 * x39)) + (μ 35 (x40).toNat)))) fun x42 =>
      mlet (w32 (x40 + 1)) fun x43 =>
      fX1_digest_L86 K6 μ n41 x42 x43
def fX1_digest_L47 (K49 : Int → Option Int) (x46 : Int) (μ : Mem) : Nat → Int → Int → Option Int
  | 0, _, _ => none
  | n53 + 1, x51, x52 =>
    if 6 ≤ x52 then
      K49 x51
    else
      (fX0_told 20 x46 x52 μ).bind fun x54 =>
      mlet ((w64 ((w64 (31 * x51)) + x54))) fun x55 =>
      mlet (w32 (x52 + 1)) fun x56 =>
      fX1_digest_L47 K49 x46 μ n53 x55 x56
def fX1_digest_L33 (μ : Mem) (K4 : Int → Option Int) : Nat → Int → Int → Option Int
  | 0, _, _ => none
  | n47 + 1, x45, x46 =>
    if (μ 20 4) ≤ x46 then
      K4 x45
    else
      mlet (fun (x48 : Int) =>
        mlet (w32 (x46 + 1)) fun x50 =>
        fX1_digest_L33 μ K4 n47 x48 x50
        ) fun (K49 : Int → Option Int) =>
      fX1_digest_L47 K49 x46 μ fuel x45 0
def fX1_digest_L6 (K2 : Int → Option Int) (μ : Mem) : Nat → Int → Int → Option Int
  | 0, _, _ => none
  | n61 + 1, x59, x60 =>
    if 12 ≤ x60 then
      K2 x59
    else
      (fX1_count x60 μ).bind fun x62 =>
      mlet ((w64 ((w64 (31 * x59)) + x62))) fun x63 =>
      mlet (w32 (x60 + 1)) fun x64 =>
      fX1_digest_L6 K2 μ n61 x63 x64
def fX1_digest (μ : Mem) : Option Int :=
  mlet (fun (x1 : Int) =>
    mlet (fun (x3 : Int) =>
      mlet (fun (x5 : Int) =>
        mlet (fun (x7 : Int) =>
          fX1_digest_L178 μ fuel x7 0
          ) fun (K8 : Int → Option Int) =>
        fX1_digest_L113 K8 μ fuel x5 0
        ) fun (K6 : Int → Option Int) =>
      fX1_digest_L86 K6 μ fuel x3 0
      ) fun (K4 : Int → Option Int) =>
    fX1_digest_L33 μ K4 fuel x1 0
    ) fun (K2 : Int → Option Int) =>
  fX1_digest_L6 K2 μ fuel 17 0
theorem K_X1_digest {σ : Scr}    (μ : Mem) : Con σ yX1_digest cX1_digest 5 (some .long) 7 [.inr (.inr 0)] μ (fX1_digest  μ) (rL μ) := by
  refine con_of (own := RX1) (by decide) rfl (Nat.le_of_ble_eq_true rfl) ?_
  show Sim σ cX1_digest 5 RX1 (7) (some .long) (rL μ) 0 [(0, .inr (.inr 0))] [] μ (fX1_digest  μ)
  unfold fX1_digest
  refine S_ldc2 dX1_digest_0 rfl k_X1_250 ?_
  refine S_lstore_n (lv' := [(1, .inr (.inl 17)), (0, .inr (.inr 0))]) dX1_digest_3 rfl rfl ?_
  refine S_iconst dX1_digest_4 rfl ?_
  refine S_istore_n (lv' := [(3, .inl 0), (1, .inr (.inl 17)), (0, .inr (.inr 0))]) dX1_digest_5 rfl rfl ?_
  refine S_jn (fun (K2 : Int → Option Int) => ∀ (x1 : Int), Sim σ cX1_digest 5 RX1 (7) (some .long) (rL μ) 31 [(0, .inr (.inr 0)), (1, .inr (.inl x1))] [] μ (K2 x1)) ?_ (fun K2 hK2 => ?_)
  · intro x1
    refine S_iconst dX1_digest_31 rfl ?_
    refine S_istore_n (lv' := [(3, .inl 0), (0, .inr (.inr 0)), (1, .inr (.inl x1))]) dX1_digest_32 rfl rfl ?_
    refine S_jn (fun (K4 : Int → Option Int) => ∀ (x3 : Int), Sim σ cX1_digest 5 RX1 (7) (some .long) (rL μ) 84 [(0, .inr (.inr 0)), (1, .inr (.inl x3))] [] μ (K4 x3)) ?_ (fun K4 hK4 => ?_)
    · intro x3
      refine S_iconst dX1_digest_84 rfl ?_
      refine S_istore_n (lv' := [(3, .inl 0), (0, .inr (.inr 0)), (1, .inr (.inl x3))]) dX1_digest_85 rfl rfl ?_
      refine S_jn (fun (K6 : Int → Option Int) => ∀ (x5 : Int), Sim σ cX1_digest 5 RX1 (7) (some .long) (rL μ) 111 [(0, .inr (.inr 0)), (1, .inr (.inl x5))] [] μ (K6 x5)) ?_ (fun K6 hK6 => ?_)
      · intro x5
        refine S_iconst dX1_digest_111 rfl ?_
        refine S_istore_n (lv' := [(3, .inl 0), (0, .inr (.inr 0)), (1, .inr (.inl x5))]) dX1_digest_112 rfl rfl ?_
        refine S_jn (fun (K8 : Int → Option Int) => ∀ (x7 : Int), Sim σ cX1_digest 5 RX1 (7) (some .long) (rL μ) 176 [(0, .inr (.inr 0)), (1, .inr (.inl x7))] [] μ (K8 x7)) ?_ (fun K8 hK8 => ?_)
        · intro x7
          refine S_iconst dX1_digest_176 rfl ?_
          refine S_istore_n (lv' := [(3, .inl 0), (0, .inr (.inr 0)), (1, .inr (.inl x7))]) dX1_digest_177 rfl rfl ?_
          have hL178 : ∀ (n11 : Nat) (x9 : Int) (x10 : Int), Sim σ cX1_digest 5 RX1 (7) (some .long) (rL μ) 178 [(0, .inr (.inr 0)), (1, .inr (.inl x9)), (3, .inl x10)] [] μ (fX1_digest_L178 μ n11 x9 x10) := by
            intro n11
            induction n11 with
            | zero =>
              intro x9 x10
              exact S_none rfl
            | succ n11 ih =>
              intro x9 x10
              rw [fX1_digest_L178]
              refine S_iload_n dX1_digest_178 rfl ?_
              refine S_iconst dX1_digest_179 rfl ?_
              refine S_ic_ge (tgt := 240) dX1_digest_180 (by decide) (fun h23 => ?_) (fun h23 => ?_)
              · refine S_lload_n dX1_digest_240 rfl ?_
                exact S_lret dX1_digest_241 rfl rfl
              · refine S_ldc2 dX1_digest_183 rfl k_X1_252 ?_
                refine S_lload_n dX1_digest_186 rfl ?_
                refine S_lmul dX1_digest_187 ?_
                refine S_aload_n dX1_digest_188 rfl ?_
                refine S_getR (c1 := 14) dX1_digest_189 rfl fl_X1_23 rfl rfl rfl ?_
                refine S_iload_n dX1_digest_192 rfl ?_
                refine S_iald (N := 4) dX1_digest_193 rfl (by decide) rfl ?_
                refine S_i2l dX1_digest_194 ?_
                refine S_ladd dX1_digest_195 ?_
                refine S_letL (fun x12 => ?_)
                refine S_lstore_n (lv' := [(1, .inr (.inl x12)), (0, .inr (.inr 0)), (3, .inl x10)]) dX1_digest_196 rfl rfl ?_
                refine S_iconst dX1_digest_197 rfl ?_
                refine S_istore (lv' := [(4, .inl 0), (1, .inr (.inl x12)), (0, .inr (.inr 0)), (3, .inl x10)]) dX1_digest_198 rfl rfl ?_
                refine S_jn (fun (K14 : Int → Option Int) => ∀ (x13 : Int), Sim σ cX1_digest 5 RX1 (7) (some .long) (rL μ) 234 [(0, .inr (.inr 0)), (1, .inr (.inl x13)), (3, .inl x10)] [] μ (K14 x13)) ?_ (fun K14 hK14 => ?_)
                · intro x13
                  refine S_iinc (lv' := fun x15 => [(3, .inl x15), (0, .inr (.inr 0)), (1, .inr (.inl x13))]) dX1_digest_234 rfl rfl rfl (fun _ => rfl) (fun x15 => ?_)
                  refine S_goto (tgt := 178) dX1_digest_237 (by decide) ?_
                  exact S_sub [1, 2, 0] rfl (ih x13 x15)
                have hL200 : ∀ (n18 : Nat) (x16 : Int) (x17 : Int), Sim σ cX1_digest 5 RX1 (7) (some .long) (rL μ) 200 [(0, .inr (.inr 0)), (1, .inr (.inl x16)), (3, .inl x10), (4, .inl x17)] [] μ (fX1_digest_L200 x10 μ K14 n18 x16 x17) := by
                  intro n18
                  induction n18 with
                  | zero =>
                    intro x16 x17
                    exact S_none rfl
                  | succ n18 ih =>
                    intro x16 x17
                    rw [fX1_digest_L200]
                    refine S_iload dX1_digest_200 rfl ?_
                    refine S_aload_n dX1_digest_202 rfl ?_
                    refine S_getR (c1 := 14) dX1_digest_203 rfl fl_X1_23 rfl rfl rfl ?_
                    refine S_iload_n dX1_digest_206 rfl ?_
                    refine S_iald (N := 4) dX1_digest_207 rfl (by decide) rfl ?_
                    refine S_ic_ge (tgt := 234) dX1_digest_208 (by decide) (fun h22 => ?_) (fun h22 => ?_)
                    · exact S_sub [0, 1, 2] rfl (hK14 x16)
                    · refine S_ldc2 dX1_digest_211 rfl k_X1_252 ?_
                      refine S_lload_n dX1_digest_214 rfl ?_
                      refine S_lmul dX1_digest_215 ?_
                      refine S_aload_n dX1_digest_216 rfl ?_
                      refine S_getR (c1 := 9) dX1_digest_217 rfl fl_X1_20 rfl rfl rfl ?_
                      refine S_iload_n dX1_digest_220 rfl ?_
                      refine S_aald (N := 4) (c1 := 10) (c2 := 14) dX1_digest_221 rfl (by decide) (by decide) rfl rfl rfl (fun c19 hc19 => ?_)
                      refine S_iload dX1_digest_222 rfl ?_
                      refine S_bald (N := 60) dX1_digest_224 (kd_text hc19) (fam_lt hc19 (by decide)) rfl ?_
                      refine S_i2l dX1_digest_225 ?_
                      refine S_ladd dX1_digest_226 ?_
                      refine S_letL (fun x20 => ?_)
                      refine S_lstore_n (lv' := [(1, .inr (.inl x20)), (0, .inr (.inr 0)), (3, .inl x10), (4, .inl x17)]) dX1_digest_227 rfl rfl ?_
                      refine S_iinc (lv' := fun x21 => [(4, .inl x21), (1, .inr (.inl x20)), (0, .inr (.inr 0)), (3, .inl x10)]) dX1_digest_228 rfl rfl rfl (fun _ => rfl) (fun x21 => ?_)
                      refine S_goto (tgt := 200) dX1_digest_231 (by decide) ?_
                      exact S_sub [2, 1, 3, 0] rfl (ih x20 x21)
                exact S_sub [2, 1, 3, 0] rfl (hL200 fuel x12 0)
          exact S_sub [1, 2, 0] rfl (hL178 fuel x7 0)
        have hL113 : ∀ (n26 : Nat) (x24 : Int) (x25 : Int), Sim σ cX1_digest 5 RX1 (7) (some .long) (rL μ) 113 [(0, .inr (.inr 0)), (1, .inr (.inl x24)), (3, .inl x25)] [] μ (fX1_digest_L113 K8 μ n26 x24 x25) := by
          intro n26
          induction n26 with
          | zero =>
            intro x24 x25
            exact S_none rfl
          | succ n26 ih =>
            intro x24 x25
            rw [fX1_digest_L113]
            refine S_iload_n dX1_digest_113 rfl ?_
            refine S_bipush dX1_digest_114 rfl (by decide) ?_
            refine S_ic_ge (tgt := 176) dX1_digest_116 (by decide) (fun h38 => ?_) (fun h38 => ?_)
            · exact S_sub [0, 1] rfl (hK8 x24)
            · refine S_ldc2 dX1_digest_119 rfl k_X1_252 ?_
              refine S_lload_n dX1_digest_122 rfl ?_
              refine S_lmul dX1_digest_123 ?_
              refine S_aload_n dX1_digest_124 rfl ?_
              refine S_getR (c1 := 8) dX1_digest_125 rfl fl_X1_14 rfl rfl rfl ?_
              refine S_iload_n dX1_digest_128 rfl ?_
              refine S_iald (N := 6) dX1_digest_129 rfl (by decide) rfl ?_
              refine S_i2l dX1_digest_130 ?_
              refine S_ladd dX1_digest_131 ?_
              refine S_letL (fun x27 => ?_)
              refine S_lstore_n (lv' := [(1, .inr (.inl x27)), (0, .inr (.inr 0)), (3, .inl x25)]) dX1_digest_132 rfl rfl ?_
              refine S_iconst dX1_digest_133 rfl ?_
              refine S_istore (lv' := [(4, .inl 0), (1, .inr (.inl x27)), (0, .inr (.inr 0)), (3, .inl x25)]) dX1_digest_134 rfl rfl ?_
              refine S_jn (fun (K29 : Int → Option Int) => ∀ (x28 : Int), Sim σ cX1_digest 5 RX1 (7) (some .long) (rL μ) 170 [(0, .inr (.inr 0)), (1, .inr (.inl x28)), (3, .inl x25)] [] μ (K29 x28)) ?_ (fun K29 hK29 => ?_)
              · intro x28
                refine S_iinc (lv' := fun x30 => [(3, .inl x30), (0, .inr (.inr 0)), (1, .inr (.inl x28))]) dX1_digest_170 rfl rfl rfl (fun _ => rfl) (fun x30 => ?_)
                refine S_goto (tgt := 113) dX1_digest_173 (by decide) ?_
                exact S_sub [1, 2, 0] rfl (ih x28 x30)
              have hL136 : ∀ (n33 : Nat) (x31 : Int) (x32 : Int), Sim σ cX1_digest 5 RX1 (7) (some .long) (rL μ) 136 [(0, .inr (.inr 0)), (1, .inr (.inl x31)), (3, .inl x25), (4, .inl x32)] [] μ (fX1_digest_L136 x25 μ K29 n33 x31 x32) := by
                intro n33
                induction n33 with
                | zero =>
                  intro x31 x32
                  exact S_none rfl
                | succ n33 ih =>
                  intro x31 x32
                  rw [fX1_digest_L136]
                  refine S_iload dX1_digest_136 rfl ?_
                  refine S_aload_n dX1_digest_138 rfl ?_
                  refine S_getR (c1 := 8) dX1_digest_139 rfl fl_X1_14 rfl rfl rfl ?_
                  refine S_iload_n dX1_digest_142 rfl ?_
                  refine S_iald (N := 6) dX1_digest_143 rfl (by decide) rfl ?_
                  refine S_ic_ge (tgt := 170) dX1_digest_144 (by decide) (fun h37 => ?_) (fun h37 => ?_)
                  · exact S_sub [0, 1, 2] rfl (hK29 x31)
                  · refine S_ldc2 dX1_digest_147 rfl k_X1_252 ?_
                    refine S_lload_n dX1_digest_150 rfl ?_
                    refine S_lmul dX1_digest_151 ?_
                    refine S_aload_n dX1_digest_152 rfl ?_
                    refine S_getR (c1 := 1) dX1_digest_153 rfl fl_X1_11 rfl rfl rfl ?_
                    refine S_iload_n dX1_digest_156 rfl ?_
                    refine S_aald (N := 6) (c1 := 2) (c2 := 8) dX1_digest_157 rfl (by decide) (by decide) rfl rfl rfl (fun c34 hc34 => ?_)
                    refine S_iload dX1_digest_158 rfl ?_
                    refine S_iald (N := 40) dX1_digest_160 (kd_row hc34) (fam_lt hc34 (by decide)) rfl ?_
                    refine S_i2l dX1_digest_161 ?_
                    refine S_ladd dX1_digest_162 ?_
                    refine S_letL (fun x35 => ?_)
                    refine S_lstore_n (lv' := [(1, .inr (.inl x35)), (0, .inr (.inr 0)), (3, .inl x25), (4, .inl x32)]) dX1_digest_163 rfl rfl ?_
                    refine S_iinc (lv' := fun x36 => [(4, .inl x36), (1, .inr (.inl x35)), (0, .inr (.inr 0)), (3, .inl x25)]) dX1_digest_164 rfl rfl rfl (fun _ => rfl) (fun x36 => ?_)
                    refine S_goto (tgt := 136) dX1_digest_167 (by decide) ?_
                    exact S_sub [2, 1, 3, 0] rfl (ih x35 x36)
              exact S_sub [2, 1, 3, 0] rfl (hL136 fuel x27 0)
        exact S_sub [1, 2, 0] rfl (hL113 fuel x5 0)
      have hL86 : ∀ (n41 : Nat) (x39 : Int) (x40 : Int), Sim σ cX1_digest 5 RX1 (7) (some .long) (rL μ) 86 [(0, .inr (.inr 0)), (1, .inr (.inl x39)), (3, .inl x40)] [] μ (fX1_digest_L86 K6 μ n41 x39 x40) := by
        intro n41
        induction n41 with
        | zero =>
          intro x39 x40
          exact S_none rfl
        | succ n41 ih =>
          intro x39 x40
          rw [fX1_digest_L86]
          refine S_iload_n dX1_digest_86 rfl ?_
          refine S_iconst dX1_digest_87 rfl ?_
          refine S_ic_ge (tgt := 111) dX1_digest_88 (by decide) (fun h44 => ?_) (fun h44 => ?_)
          · exact S_sub [0, 1] rfl (hK6 x39)
          · refine S_ldc2 dX1_digest_91 rfl k_X1_252 ?_
            refine S_lload_n dX1_digest_94 rfl ?_
            refine S_lmul dX1_digest_95 ?_
            refine S_aload_n dX1_digest_96 rfl ?_
            refine S_getR (c1 := 35) dX1_digest_97 rfl fl_X1_49 rfl rfl rfl ?_
            refine S_iload_n dX1_digest_100 rfl ?_
            refine S_iald (N := 3) dX1_digest_101 rfl (by decide) rfl ?_
            refine S_i2l dX1_digest_102 ?_
            refine S_ladd dX1_digest_103 ?_
            refine S_letL (fun x42 => ?_)
            refine S_lstore_n (lv' := [(1, .inr (.inl x42)), (0, .inr (.inr 0)), (3, .inl x40)]) dX1_digest_104 rfl rfl ?_
            refine S_iinc (lv' := fun x43 => [(3, .inl x43), (1, .inr (.inl x42)), (0, .inr (.inr 0))]) dX1_digest_105 rfl rfl rfl (fun _ => rfl) (fun x43 => ?_)
            refine S_goto (tgt := 86) dX1_digest_108 (by decide) ?_
            exact S_sub [2, 1, 0] rfl (ih x42 x43)
      exact S_sub [1, 2, 0] rfl (hL86 fuel x3 0)
    have hL33 : ∀ (n47 : Nat) (x45 : Int) (x46 : Int), Sim σ cX1_digest 5 RX1 (7) (some .long) (rL μ) 33 [(0, .inr (.inr 0)), (1, .inr (.inl x45)), (3, .inl x46)] [] μ (fX1_digest_L33 μ K4 n47 x45 x46) := by
      intro n47
      induction n47 with
      | zero =>
        intro x45 x46
        exact S_none rfl
      | succ n47 ih =>
        intro x45 x46
        rw [fX1_digest_L33]
        refine S_iload_n dX1_digest_33 rfl ?_
        refine S_aload_n dX1_digest_34 rfl ?_
        refine S_getR (c1 := 20) dX1_digest_35 rfl fl_X1_33 rfl rfl rfl ?_
        refine S_getI dX1_digest_38 rfl fl_X1_122 rfl rfl ?_
        refine S_ic_ge (tgt := 84) dX1_digest_41 (by decide) (fun h58 => ?_) (fun h58 => ?_)
        · exact S_sub [0, 1] rfl (hK4 x45)
        · refine S_iconst dX1_digest_44 rfl ?_
          refine S_istore (lv' := [(4, .inl 0), (0, .inr (.inr 0)), (1, .inr (.inl x45)), (3, .inl x46)]) dX1_digest_45 rfl rfl ?_
          refine S_jn (fun (K49 : Int → Option Int) => ∀ (x48 : Int), Sim σ cX1_digest 5 RX1 (7) (some .long) (rL μ) 78 [(0, .inr (.inr 0)), (1, .inr (.inl x48)), (3, .inl x46)] [] μ (K49 x48)) ?_ (fun K49 hK49 => ?_)
          · intro x48
            refine S_iinc (lv' := fun x50 => [(3, .inl x50), (0, .inr (.inr 0)), (1, .inr (.inl x48))]) dX1_digest_78 rfl rfl rfl (fun _ => rfl) (fun x50 => ?_)
            refine S_goto (tgt := 33) dX1_digest_81 (by decide) ?_
            exact S_sub [1, 2, 0] rfl (ih x48 x50)
          have hL47 : ∀ (n53 : Nat) (x51 : Int) (x52 : Int), Sim σ cX1_digest 5 RX1 (7) (some .long) (rL μ) 47 [(0, .inr (.inr 0)), (1, .inr (.inl x51)), (3, .inl x46), (4, .inl x52)] [] μ (fX1_digest_L47 K49 x46 μ n53 x51 x52) := by
            intro n53
            induction n53 with
            | zero =>
              intro x51 x52
              exact S_none rfl
            | succ n53 ih =>
              intro x51 x52
              rw [fX1_digest_L47]
              refine S_iload dX1_digest_47 rfl ?_
              refine S_bipush dX1_digest_49 rfl (by decide) ?_
              refine S_ic_ge (tgt := 78) dX1_digest_51 (by decide) (fun h57 => ?_) (fun h57 => ?_)
              · exact S_sub [0, 1, 2] rfl (hK49 x51)
              · refine S_ldc2 dX1_digest_54 rfl k_X1_252 ?_
                refine S_lload_n dX1_digest_57 rfl ?_
                refine S_lmul dX1_digest_58 ?_
                refine S_aload_n dX1_digest_59 rfl ?_
                refine S_getR (c1 := 20) dX1_digest_60 rfl fl_X1_33 rfl rfl rfl ?_
                refine S_iload_n dX1_digest_63 rfl ?_
                refine S_iload dX1_digest_64 rfl ?_
                refine S_callW_I dX1_digest_66 [.inl x46, .inl x52] (K_X0_told (by unfold isBk; decide) x46 x52 μ) l_X1_132 yo_X0_told rfl rfl rfl rfl rfl (fun x54 => ?_)
                refine S_i2l dX1_digest_69 ?_
                refine S_ladd dX1_digest_70 ?_
                refine S_letL (fun x55 => ?_)
                refine S_lstore_n (lv' := [(1, .inr (.inl x55)), (0, .inr (.inr 0)), (3, .inl x46), (4, .inl x52)]) dX1_digest_71 rfl rfl ?_
                refine S_iinc (lv' := fun x56 => [(4, .inl x56), (1, .inr (.inl x55)), (0, .inr (.inr 0)), (3, .inl x46)]) dX1_digest_72 rfl rfl rfl (fun _ => rfl) (fun x56 => ?_)
                refine S_goto (tgt := 47) dX1_digest_75 (by decide) ?_
                exact S_sub [2, 1, 3, 0] rfl (ih x55 x56)
          exact S_sub [1, 2, 3, 0] rfl (hL47 fuel x45 0)
    exact S_sub [1, 2, 0] rfl (hL33 fuel x1 0)
  have hL6 : ∀ (n61 : Nat) (x59 : Int) (x60 : Int), Sim σ cX1_digest 5 RX1 (7) (some .long) (rL μ) 6 [(0, .inr (.inr 0)), (1, .inr (.inl x59)), (3, .inl x60)] [] μ (fX1_digest_L6 K2 μ n61 x59 x60) := by
    intro n61
    induction n61 with
    | zero =>
      intro x59 x60
      exact S_none rfl
    | succ n61 ih =>
      intro x59 x60
      rw [fX1_digest_L6]
      refine S_iload_n dX1_digest_6 rfl ?_
      refine S_bipush dX1_digest_7 rfl (by decide) ?_
      refine S_ic_ge (tgt := 31) dX1_digest_9 (by decide) (fun h65 => ?_) (fun h65 => ?_)
      · exact S_sub [0, 1] rfl (hK2 x59)
      · refine S_ldc2 dX1_digest_12 rfl k_X1_252 ?_
        refine S_lload_n dX1_digest_15 rfl ?_
        refine S_lmul dX1_digest_16 ?_
        refine S_aload_n dX1_digest_17 rfl ?_
        refine S_iload_n dX1_digest_18 rfl ?_
        refine S_callV_I dX1_digest_19 [.inl x60] (K_X1_count x60 μ) l_X1_254 yo_X1_count rfl rfl rfl rfl rfl (fun x62 => ?_)
        refine S_i2l dX1_digest_22 ?_
        refine S_ladd dX1_digest_23 ?_
        refine S_letL (fun x63 => ?_)
        refine S_lstore_n (lv' := [(1, .inr (.inl x63)), (0, .inr (.inr 0)), (3, .inl x60)]) dX1_digest_24 rfl rfl ?_
        refine S_iinc (lv' := fun x64 => [(3, .inl x64), (1, .inr (.inl x63)), (0, .inr (.inr 0))]) dX1_digest_25 rfl rfl rfl (fun _ => rfl) (fun x64 => ?_)
        refine S_goto (tgt := 6) dX1_digest_28 (by decide) ?_
        exact S_sub [2, 1, 0] rfl (ih x63 x64)
  exact S_sub [2, 1, 0] rfl (hL6 fuel 17 0)
def fL_cell (σ : Scr) (p2 : Int) (μ : Mem) : Option Int :=
  if (Nat.cast σ.1 : Int) ≤ p2 then
    some (w32 (40503 * (w32 (p2 + 7))))
  else
    grd (0 ≤ p2 ∧ p2 < (Nat.cast σ.1 : Int)) <|
    some ((σ.2 (p2).toNat).toInt)
theorem K_L_cell {σ : Scr}  (p2 : Int)  (μ : Mem) : Con σ yL_cell cL_cell 2 (some .int) 2 [.inr (.inr 64), .inl p2] μ (fL_cell σ p2 μ) (rI μ) := by
  refine con_of (own := RL) (by decide) rfl (Nat.le_of_ble_eq_true rfl) ?_
  show Sim σ cL_cell 2 RL (2) (some .int) (rI μ) 0 [(0, .inr (.inr 64)), (1, .inl p2)] [] μ (fL_cell σ p2 μ)
  unfold fL_cell
  refine S_iload_n dL_cell_0 rfl ?_
  refine S_aload_n dL_cell_1 rfl ?_
  refine S_slen dL_cell_2 (fun _ => ?_)
  refine S_ic_ge (tgt := 12) dL_cell_3 (by decide) (fun h1 => ?_) (fun h1 => ?_)
  · refine S_ldc dL_cell_12 rfl k_L_7 ?_
    refine S_iload_n dL_cell_14 rfl ?_
    refine S_bipush dL_cell_15 rfl (by decide) ?_
    refine S_iadd dL_cell_17 ?_
    refine S_imul dL_cell_18 ?_
    exact S_iret dL_cell_19 rfl rfl
  · refine S_aload_n dL_cell_6 rfl ?_
    refine S_iload_n dL_cell_7 rfl ?_
    refine S_sld (N := (Nat.cast σ.1 : Int)) dL_cell_8 rfl ?_
    refine S_goto (tgt := 19) dL_cell_9 (by decide) ?_
    exact S_iret dL_cell_19 rfl rfl
def fL_low (p1 : Int) (p2 : Int) (μ : Mem) : Option Int :=
  grd (¬ p2 = 0) <|
  some ((band p1 2147483647).tmod p2)
theorem K_L_low {σ : Scr}  (p1 : Int) (p2 : Int)  (μ : Mem) : Con σ yL_low cL_low 2 (some .int) 2 [.inl p1, .inl p2] μ (fL_low p1 p2 μ) (rI μ) := by
  refine con_of (own := RL) (by decide) rfl (Nat.le_of_ble_eq_true rfl) ?_
  show Sim σ cL_low 2 RL (2) (some .int) (rI μ) 0 [(0, .inl p1), (1, .inl p2)] [] μ (fL_low p1 p2 μ)
  unfold fL_low
  refine S_iload_n dL_low_0 rfl ?_
  refine S_ldc dL_low_1 rfl k_L_8 ?_
  refine S_iand dL_low_3 ?_
  refine S_iload_n dL_low_4 rfl ?_
  refine S_irem dL_low_5 ?_
  exact S_iret dL_low_6 rfl rfl
def fL_letter (p1 : Int) (μ : Mem) : Option Int :=
  if ¬ p1 = 0 then
    if ¬ p1 = 1 then
      if ¬ p1 = 2 then
        if ¬ p1 = 3 then
          if ¬ p1 = 4 then
            some 113
          else
            some 116
        else
          some 98
      else
        some 101
    else
      some 100
  else
    some 112
theorem K_L_letter {σ : Scr}  (p1 : Int)  (μ : Mem) : Con σ yL_letter cL_letter 1 (some .int) 2 [.inl p1] μ (fL_letter p1 μ) (rI μ) := by
  refine con_of (own := RL) (by decide) rfl (Nat.le_of_ble_eq_true rfl) ?_
  show Sim σ cL_letter 1 RL (2) (some .int) (rI μ) 0 [(0, .inl p1)] [] μ (fL_letter p1 μ)
  unfold fL_letter
  refine S_iload_n dL_letter_0 rfl ?_
  refine S_if_ne (tgt := 9) dL_letter_1 (by decide) (fun h5 => ?_) (fun h5 => ?_)
  · refine S_iload_n dL_letter_9 rfl ?_
    refine S_iconst dL_letter_10 rfl ?_
    refine S_ic_ne (tgt := 19) dL_letter_11 (by decide) (fun h4 => ?_) (fun h4 => ?_)
    · refine S_iload_n dL_letter_19 rfl ?_
      refine S_iconst dL_letter_20 rfl ?_
      refine S_ic_ne (tgt := 29) dL_letter_21 (by decide) (fun h3 => ?_) (fun h3 => ?_)
      · refine S_iload_n dL_letter_29 rfl ?_
        refine S_iconst dL_letter_30 rfl ?_
        refine S_ic_ne (tgt := 39) dL_letter_31 (by decide) (fun h2 => ?_) (fun h2 => ?_)
        · refine S_iload_n dL_letter_39 rfl ?_
          refine S_iconst dL_letter_40 rfl ?_
          refine S_ic_ne (tgt := 49) dL_letter_41 (by decide) (fun h1 => ?_) (fun h1 => ?_)
          · refine S_bipush dL_letter_49 rfl (by decide) ?_
            exact S_iret dL_letter_51 rfl rfl
          · refine S_bipush dL_letter_44 rfl (by decide) ?_
            refine S_goto (tgt := 51) dL_letter_46 (by decide) ?_
            exact S_iret dL_letter_51 rfl rfl
        · refine S_bipush dL_letter_34 rfl (by decide) ?_
          refine S_goto (tgt := 51) dL_letter_36 (by decide) ?_
          exact S_iret dL_letter_51 rfl rfl
      · refine S_bipush dL_letter_24 rfl (by decide) ?_
        refine S_goto (tgt := 51) dL_letter_26 (by decide) ?_
        exact S_iret dL_letter_51 rfl rfl
    · refine S_bipush dL_letter_14 rfl (by decide) ?_
      refine S_goto (tgt := 51) dL_letter_16 (by decide) ?_
      exact S_iret dL_letter_51 rfl rfl
  · refine S_bipush dL_letter_4 rfl (by decide) ?_
    refine S_goto (tgt := 51) dL_letter_6 (by decide) ?_
    exact S_iret dL_letter_51 rfl rfl
