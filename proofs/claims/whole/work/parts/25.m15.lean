theorem dX2_countOf_0 : decode cX2_countOf 0 = .ok (.aload_n 0, 1) := by decide +kernel
theorem dX2_countOf_1 : decode cX2_countOf 1 = .ok (.iconst 0, 1) := by decide +kernel
theorem dX2_countOf_2 : decode cX2_countOf 2 = .ok (.iconst 0, 1) := by decide +kernel
theorem dX2_countOf_3 : decode cX2_countOf 3 = .ok (.invokevirtual 156, 3) := by decide +kernel
theorem dX2_countOf_6 : decode cX2_countOf 6 = .ok (.istore_n 2, 1) := by decide +kernel
theorem dX2_countOf_7 : decode cX2_countOf 7 = .ok (.iload_n 1, 1) := by decide +kernel
theorem dX2_countOf_8 : decode cX2_countOf 8 = .ok (.tableswitch 122 0 8 #[52, 57, 64, 71, 78, 92, 105, 110, 116], 52) := by decide +kernel
theorem dX2_countOf_60 : decode cX2_countOf 60 = .ok (.aload_n 0, 1) := by decide +kernel
theorem dX2_countOf_61 : decode cX2_countOf 61 = .ok (.getfield 136, 3) := by decide +kernel
theorem dX2_countOf_64 : decode cX2_countOf 64 = .ok (.ireturn, 1) := by decide +kernel
theorem dX2_countOf_65 : decode cX2_countOf 65 = .ok (.aload_n 0, 1) := by decide +kernel
theorem dX2_countOf_66 : decode cX2_countOf 66 = .ok (.getfield 7, 3) := by decide +kernel
theorem dX2_countOf_69 : decode cX2_countOf 69 = .ok (.iconst 1, 1) := by decide +kernel
theorem dX2_countOf_70 : decode cX2_countOf 70 = .ok (.iaload, 1) := by decide +kernel
theorem dX2_countOf_71 : decode cX2_countOf 71 = .ok (.ireturn, 1) := by decide +kernel
theorem dX2_countOf_72 : decode cX2_countOf 72 = .ok (.aload_n 0, 1) := by decide +kernel
theorem dX2_countOf_73 : decode cX2_countOf 73 = .ok (.getfield 7, 3) := by decide +kernel
theorem dX2_countOf_76 : decode cX2_countOf 76 = .ok (.iconst 0, 1) := by decide +kernel
theorem dX2_countOf_77 : decode cX2_countOf 77 = .ok (.iaload, 1) := by decide +kernel
theorem dX2_countOf_78 : decode cX2_countOf 78 = .ok (.ireturn, 1) := by decide +kernel
theorem dX2_countOf_79 : decode cX2_countOf 79 = .ok (.aload_n 0, 1) := by decide +kernel
theorem dX2_countOf_80 : decode cX2_countOf 80 = .ok (.getfield 7, 3) := by decide +kernel
theorem dX2_countOf_83 : decode cX2_countOf 83 = .ok (.iconst 2, 1) := by decide +kernel
theorem dX2_countOf_84 : decode cX2_countOf 84 = .ok (.iaload, 1) := by decide +kernel
theorem dX2_countOf_85 : decode cX2_countOf 85 = .ok (.ireturn, 1) := by decide +kernel
theorem dX2_countOf_86 : decode cX2_countOf 86 = .ok (.iload_n 2, 1) := by decide +kernel
theorem dX2_countOf_87 : decode cX2_countOf 87 = .ok (.bipush (-9), 2) := by decide +kernel
theorem dX2_countOf_89 : decode cX2_countOf 89 = .ok (.if_icmp .ne 7, 3) := by decide +kernel
theorem dX2_countOf_92 : decode cX2_countOf 92 = .ok (.iconst 0, 1) := by decide +kernel
theorem dX2_countOf_93 : decode cX2_countOf 93 = .ok (.goto 6, 3) := by decide +kernel
theorem dX2_countOf_96 : decode cX2_countOf 96 = .ok (.iconst 1, 1) := by decide +kernel
theorem dX2_countOf_97 : decode cX2_countOf 97 = .ok (.iload_n 2, 1) := by decide +kernel
theorem dX2_countOf_98 : decode cX2_countOf 98 = .ok (.ishl, 1) := by decide +kernel
theorem dX2_countOf_99 : decode cX2_countOf 99 = .ok (.ireturn, 1) := by decide +kernel
theorem dX2_countOf_100 : decode cX2_countOf 100 = .ok (.aload_n 0, 1) := by decide +kernel
theorem dX2_countOf_101 : decode cX2_countOf 101 = .ok (.iconst 1, 1) := by decide +kernel
theorem dX2_countOf_102 : decode cX2_countOf 102 = .ok (.aload_n 0, 1) := by decide +kernel
theorem dX2_countOf_103 : decode cX2_countOf 103 = .ok (.getfield 136, 3) := by decide +kernel
theorem dX2_countOf_106 : decode cX2_countOf 106 = .ok (.ishl, 1) := by decide +kernel
theorem dX2_countOf_107 : decode cX2_countOf 107 = .ok (.iconst 1, 1) := by decide +kernel
theorem dX2_countOf_108 : decode cX2_countOf 108 = .ok (.isub, 1) := by decide +kernel
theorem dX2_countOf_109 : decode cX2_countOf 109 = .ok (.invokevirtual 236, 3) := by decide +kernel
theorem dX2_countOf_112 : decode cX2_countOf 112 = .ok (.ireturn, 1) := by decide +kernel
theorem dX2_countOf_113 : decode cX2_countOf 113 = .ok (.aload_n 0, 1) := by decide +kernel
theorem dX2_countOf_114 : decode cX2_countOf 114 = .ok (.invokevirtual 280, 3) := by decide +kernel
theorem dX2_countOf_117 : decode cX2_countOf 117 = .ok (.ireturn, 1) := by decide +kernel
theorem dX2_countOf_118 : decode cX2_countOf 118 = .ok (.aload_n 0, 1) := by decide +kernel
theorem dX2_countOf_119 : decode cX2_countOf 119 = .ok (.iconst 2, 1) := by decide +kernel
theorem dX2_countOf_120 : decode cX2_countOf 120 = .ok (.invokevirtual 283, 3) := by decide +kernel
theorem dX2_countOf_123 : decode cX2_countOf 123 = .ok (.ireturn, 1) := by decide +kernel
theorem dX2_countOf_124 : decode cX2_countOf 124 = .ok (.aload_n 0, 1) := by decide +kernel
theorem dX2_countOf_125 : decode cX2_countOf 125 = .ok (.iconst 3, 1) := by decide +kernel
theorem dX2_countOf_126 : decode cX2_countOf 126 = .ok (.invokevirtual 283, 3) := by decide +kernel
theorem dX2_countOf_129 : decode cX2_countOf 129 = .ok (.ireturn, 1) := by decide +kernel
theorem dX2_countOf_130 : decode cX2_countOf 130 = .ok (.aload_n 0, 1) := by decide +kernel
theorem dX2_countOf_131 : decode cX2_countOf 131 = .ok (.iload_n 1, 1) := by decide +kernel
theorem dX2_countOf_132 : decode cX2_countOf 132 = .ok (.invokevirtual 286, 3) := by decide +kernel
theorem dX2_countOf_135 : decode cX2_countOf 135 = .ok (.ireturn, 1) := by decide +kernel
theorem dX2_count_0 : decode cX2_count 0 = .ok (.iload_n 1, 1) := by decide +kernel
theorem dX2_count_1 : decode cX2_count 1 = .ok (.i2l, 1) := by decide +kernel
theorem dX2_count_2 : decode cX2_count 2 = .ok (.lconst 0, 1) := by decide +kernel
theorem dX2_count_3 : decode cX2_count 3 = .ok (.ldc2_w 289, 3) := by decide +kernel
theorem dX2_count_6 : decode cX2_count 6 = .ok (.invokestatic 59, 3) := by decide +kernel
theorem dX2_count_9 : decode cX2_count 9 = .ok (.ifCond .eq 11, 3) := by decide +kernel
theorem dX2_count_12 : decode cX2_count 12 = .ok (.aload_n 0, 1) := by decide +kernel
theorem dX2_count_13 : decode cX2_count 13 = .ok (.iload_n 1, 1) := by decide +kernel
theorem dX2_count_14 : decode cX2_count 14 = .ok (.invokevirtual 291, 3) := by decide +kernel
theorem dX2_count_17 : decode cX2_count 17 = .ok (.goto 4, 3) := by decide +kernel
theorem dX2_count_20 : decode cX2_count 20 = .ok (.iconst (-1), 1) := by decide +kernel
theorem dX2_count_21 : decode cX2_count 21 = .ok (.ireturn, 1) := by decide +kernel
theorem dX2_finding_0 : decode cX2_finding 0 = .ok (.aload_n 0, 1) := by decide +kernel
theorem dX2_finding_1 : decode cX2_finding 1 = .ok (.getfield 50, 3) := by decide +kernel
theorem dX2_finding_4 : decode cX2_finding 4 = .ok (.ireturn, 1) := by decide +kernel
theorem dX2_findings_0 : decode cX2_findings 0 = .ok (.iload_n 1, 1) := by decide +kernel
theorem dX2_findings_1 : decode cX2_findings 1 = .ok (.i2l, 1) := by decide +kernel
theorem dX2_findings_2 : decode cX2_findings 2 = .ok (.lconst 1, 1) := by decide +kernel
theorem dX2_findings_3 : decode cX2_findings 3 = .ok (.ldc2_w 57, 3) := by decide +kernel
theorem dX2_findings_6 : decode cX2_findings 6 = .ok (.invokestatic 59, 3) := by decide +kernel
theorem dX2_findings_9 : decode cX2_findings 9 = .ok (.ifCond .eq 12, 3) := by decide +kernel
theorem dX2_findings_12 : decode cX2_findings 12 = .ok (.aload_n 0, 1) := by decide +kernel
theorem dX2_findings_13 : decode cX2_findings 13 = .ok (.getfield 32, 3) := by decide +kernel
theorem dX2_findings_16 : decode cX2_findings 16 = .ok (.iload_n 1, 1) := by decide +kernel
theorem dX2_findings_17 : decode cX2_findings 17 = .ok (.iaload, 1) := by decide +kernel
theorem dX2_findings_18 : decode cX2_findings 18 = .ok (.goto 4, 3) := by decide +kernel
theorem dX2_findings_21 : decode cX2_findings 21 = .ok (.iconst (-1), 1) := by decide +kernel
theorem dX2_findings_22 : decode cX2_findings 22 = .ok (.ireturn, 1) := by decide +kernel
theorem dX2_digest_0 : decode cX2_digest 0 = .ok (.ldc2_w 294, 3) := by decide +kernel
theorem dX2_digest_3 : decode cX2_digest 3 = .ok (.lstore_n 1, 1) := by decide +kernel
theorem dX2_digest_4 : decode cX2_digest 4 = .ok (.iconst 0, 1) := by decide +kernel
theorem dX2_digest_5 : decode cX2_digest 5 = .ok (.istore_n 3, 1) := by decide +kernel
theorem dX2_digest_6 : decode cX2_digest 6 = .ok (.iload_n 3, 1) := by decide +kernel
theorem dX2_digest_7 : decode cX2_digest 7 = .ok (.bipush 12, 2) := by decide +kernel
theorem dX2_digest_9 : decode cX2_digest 9 = .ok (.if_icmp .ge 22, 3) := by decide +kernel
theorem dX2_digest_12 : decode cX2_digest 12 = .ok (.ldc2_w 296, 3) := by decide +kernel
theorem dX2_digest_15 : decode cX2_digest 15 = .ok (.lload_n 1, 1) := by decide +kernel
theorem dX2_digest_16 : decode cX2_digest 16 = .ok (.lmul, 1) := by decide +kernel
theorem dX2_digest_17 : decode cX2_digest 17 = .ok (.aload_n 0, 1) := by decide +kernel
theorem dX2_digest_18 : decode cX2_digest 18 = .ok (.iload_n 3, 1) := by decide +kernel
theorem dX2_digest_19 : decode cX2_digest 19 = .ok (.invokevirtual 291, 3) := by decide +kernel
theorem dX2_digest_22 : decode cX2_digest 22 = .ok (.i2l, 1) := by decide +kernel
theorem dX2_digest_23 : decode cX2_digest 23 = .ok (.ladd, 1) := by decide +kernel
theorem dX2_digest_24 : decode cX2_digest 24 = .ok (.lstore_n 1, 1) := by decide +kernel
theorem dX2_digest_25 : decode cX2_digest 25 = .ok (.iinc 3 1, 3) := by decide +kernel
theorem dX2_digest_28 : decode cX2_digest 28 = .ok (.goto (-22), 3) := by decide +kernel
theorem dX2_digest_31 : decode cX2_digest 31 = .ok (.iconst 0, 1) := by decide +kernel
theorem dX2_digest_32 : decode cX2_digest 32 = .ok (.istore_n 3, 1) := by decide +kernel
theorem dX2_digest_33 : decode cX2_digest 33 = .ok (.iload_n 3, 1) := by decide +kernel
theorem dX2_digest_34 : decode cX2_digest 34 = .ok (.bipush 6, 2) := by decide +kernel
theorem dX2_digest_36 : decode cX2_digest 36 = .ok (.aload_n 0, 1) := by decide +kernel
theorem dX2_digest_37 : decode cX2_digest 37 = .ok (.getfield 136, 3) := by decide +kernel
theorem dX2_digest_40 : decode cX2_digest 40 = .ok (.imul, 1) := by decide +kernel
theorem dX2_digest_41 : decode cX2_digest 41 = .ok (.if_icmp .ge 29, 3) := by decide +kernel
theorem dX2_digest_44 : decode cX2_digest 44 = .ok (.ldc2_w 296, 3) := by decide +kernel
theorem dX2_digest_47 : decode cX2_digest 47 = .ok (.lload_n 1, 1) := by decide +kernel
theorem dX2_digest_48 : decode cX2_digest 48 = .ok (.lmul, 1) := by decide +kernel
theorem dX2_digest_49 : decode cX2_digest 49 = .ok (.aload_n 0, 1) := by decide +kernel
theorem dX2_digest_50 : decode cX2_digest 50 = .ok (.iload_n 3, 1) := by decide +kernel
theorem dX2_digest_51 : decode cX2_digest 51 = .ok (.bipush 6, 2) := by decide +kernel
theorem dX2_digest_53 : decode cX2_digest 53 = .ok (.idiv, 1) := by decide +kernel
theorem dX2_digest_54 : decode cX2_digest 54 = .ok (.iload_n 3, 1) := by decide +kernel
theorem dX2_digest_55 : decode cX2_digest 55 = .ok (.bipush 6, 2) := by decide +kernel
theorem dX2_digest_57 : decode cX2_digest 57 = .ok (.irem, 1) := by decide +kernel
theorem dX2_digest_58 : decode cX2_digest 58 = .ok (.invokevirtual 165, 3) := by decide +kernel
theorem dX2_digest_61 : decode cX2_digest 61 = .ok (.i2l, 1) := by decide +kernel
theorem dX2_digest_62 : decode cX2_digest 62 = .ok (.ladd, 1) := by decide +kernel
theorem dX2_digest_63 : decode cX2_digest 63 = .ok (.lstore_n 1, 1) := by decide +kernel
theorem dX2_digest_64 : decode cX2_digest 64 = .ok (.iinc 3 1, 3) := by decide +kernel
theorem dX2_digest_67 : decode cX2_digest 67 = .ok (.goto (-34), 3) := by decide +kernel
theorem dX2_digest_70 : decode cX2_digest 70 = .ok (.iconst 1, 1) := by decide +kernel
theorem dX2_digest_71 : decode cX2_digest 71 = .ok (.istore_n 3, 1) := by decide +kernel
theorem dX2_digest_72 : decode cX2_digest 72 = .ok (.iload_n 3, 1) := by decide +kernel
theorem dX2_digest_73 : decode cX2_digest 73 = .ok (.iconst 4, 1) := by decide +kernel
theorem dX2_digest_74 : decode cX2_digest 74 = .ok (.if_icmp .ge 29, 3) := by decide +kernel
theorem dX2_digest_77 : decode cX2_digest 77 = .ok (.ldc2_w 296, 3) := by decide +kernel
theorem dX2_digest_80 : decode cX2_digest 80 = .ok (.lload_n 1, 1) := by decide +kernel
theorem dX2_digest_81 : decode cX2_digest 81 = .ok (.lmul, 1) := by decide +kernel
theorem dX2_digest_82 : decode cX2_digest 82 = .ok (.aload_n 0, 1) := by decide +kernel
theorem dX2_digest_83 : decode cX2_digest 83 = .ok (.getfield 7, 3) := by decide +kernel
theorem dX2_digest_86 : decode cX2_digest 86 = .ok (.sipush 821, 3) := by decide +kernel
theorem dX2_digest_89 : decode cX2_digest 89 = .ok (.iload_n 3, 1) := by decide +kernel
theorem dX2_digest_90 : decode cX2_digest 90 = .ok (.imul, 1) := by decide +kernel
theorem dX2_digest_91 : decode cX2_digest 91 = .ok (.iconst 0, 1) := by decide +kernel
theorem dX2_digest_92 : decode cX2_digest 92 = .ok (.iadd, 1) := by decide +kernel
theorem dX2_digest_93 : decode cX2_digest 93 = .ok (.iaload, 1) := by decide +kernel
theorem dX2_digest_94 : decode cX2_digest 94 = .ok (.i2l, 1) := by decide +kernel
theorem dX2_digest_95 : decode cX2_digest 95 = .ok (.ladd, 1) := by decide +kernel
theorem dX2_digest_96 : decode cX2_digest 96 = .ok (.lstore_n 1, 1) := by decide +kernel
theorem dX2_digest_97 : decode cX2_digest 97 = .ok (.iinc 3 1, 3) := by decide +kernel
theorem dX2_digest_100 : decode cX2_digest 100 = .ok (.goto (-28), 3) := by decide +kernel
theorem dX2_digest_103 : decode cX2_digest 103 = .ok (.iconst 0, 1) := by decide +kernel
theorem dX2_digest_104 : decode cX2_digest 104 = .ok (.istore_n 3, 1) := by decide +kernel
theorem dX2_digest_105 : decode cX2_digest 105 = .ok (.iload_n 3, 1) := by decide +kernel
theorem dX2_digest_106 : decode cX2_digest 106 = .ok (.bipush 6, 2) := by decide +kernel
theorem dX2_digest_108 : decode cX2_digest 108 = .ok (.if_icmp .ge 63, 3) := by decide +kernel
theorem dX2_digest_111 : decode cX2_digest 111 = .ok (.ldc2_w 296, 3) := by decide +kernel
theorem dX2_digest_114 : decode cX2_digest 114 = .ok (.lload_n 1, 1) := by decide +kernel
theorem dX2_digest_115 : decode cX2_digest 115 = .ok (.lmul, 1) := by decide +kernel
theorem dX2_digest_116 : decode cX2_digest 116 = .ok (.aload_n 0, 1) := by decide +kernel
theorem dX2_digest_117 : decode cX2_digest 117 = .ok (.getfield 16, 3) := by decide +kernel
theorem dX2_digest_120 : decode cX2_digest 120 = .ok (.iload_n 3, 1) := by decide +kernel
theorem dX2_digest_121 : decode cX2_digest 121 = .ok (.iaload, 1) := by decide +kernel
theorem dX2_digest_122 : decode cX2_digest 122 = .ok (.i2l, 1) := by decide +kernel
theorem dX2_digest_123 : decode cX2_digest 123 = .ok (.ladd, 1) := by decide +kernel
theorem dX2_digest_124 : decode cX2_digest 124 = .ok (.lstore_n 1, 1) := by decide +kernel
theorem dX2_digest_125 : decode cX2_digest 125 = .ok (.iconst 0, 1) := by decide +kernel
theorem dX2_digest_126 : decode cX2_digest 126 = .ok (.istore 4, 2) := by decide +kernel
theorem dX2_digest_128 : decode cX2_digest 128 = .ok (.iload 4, 2) := by decide +kernel
theorem dX2_digest_130 : decode cX2_digest 130 = .ok (.aload_n 0, 1) := by decide +kernel
theorem dX2_digest_131 : decode cX2_digest 131 = .ok (.getfield 16, 3) := by decide +kernel
theorem dX2_digest_134 : decode cX2_digest 134 = .ok (.iload_n 3, 1) := by decide +kernel
theorem dX2_digest_135 : decode cX2_digest 135 = .ok (.iaload, 1) := by decide +kernel
theorem dX2_digest_136 : decode cX2_digest 136 = .ok (.if_icmp .ge 29, 3) := by decide +kernel
theorem dX2_digest_139 : decode cX2_digest 139 = .ok (.ldc2_w 296, 3) := by decide +kernel
theorem dX2_digest_142 : decode cX2_digest 142 = .ok (.lload_n 1, 1) := by decide +kernel
theorem dX2_digest_143 : decode cX2_digest 143 = .ok (.lmul, 1) := by decide +kernel
theorem dX2_digest_144 : decode cX2_digest 144 = .ok (.aload_n 0, 1) := by decide +kernel
theorem dX2_digest_145 : decode cX2_digest 145 = .ok (.getfield 19, 3) := by decide +kernel
theorem dX2_digest_148 : decode cX2_digest 148 = .ok (.bipush 40, 2) := by decide +kernel
theorem dX2_digest_150 : decode cX2_digest 150 = .ok (.iload_n 3, 1) := by decide +kernel
theorem dX2_digest_151 : decode cX2_digest 151 = .ok (.imul, 1) := by decide +kernel
theorem dX2_digest_152 : decode cX2_digest 152 = .ok (.iload 4, 2) := by decide +kernel
theorem dX2_digest_154 : decode cX2_digest 154 = .ok (.iadd, 1) := by decide +kernel
theorem dX2_digest_155 : decode cX2_digest 155 = .ok (.iaload, 1) := by decide +kernel
theorem dX2_digest_156 : decode cX2_digest 156 = .ok (.i2l, 1) := by decide +kernel
theorem dX2_digest_157 : decode cX2_digest 157 = .ok (.ladd, 1) := by decide +kernel
theorem dX2_digest_158 : decode cX2_digest 158 = .ok (.lstore_n 1, 1) := by decide +kernel
theorem dX2_digest_159 : decode cX2_digest 159 = .ok (.iinc 4 1, 3) := by decide +kernel
theorem dX2_digest_162 : decode cX2_digest 162 = .ok (.goto (-34), 3) := by decide +kernel
theorem dX2_digest_165 : decode cX2_digest 165 = .ok (.iinc 3 1, 3) := by decide +kernel
theorem dX2_digest_168 : decode cX2_digest 168 = .ok (.goto (-63), 3) := by decide +kernel
theorem dX2_digest_171 : decode cX2_digest 171 = .ok (.iconst 0, 1) := by decide +kernel
theorem dX2_digest_172 : decode cX2_digest 172 = .ok (.istore_n 3, 1) := by decide +kernel
theorem dX2_digest_173 : decode cX2_digest 173 = .ok (.iload_n 3, 1) := by decide +kernel
theorem dX2_digest_174 : decode cX2_digest 174 = .ok (.iconst 4, 1) := by decide +kernel
theorem dX2_digest_175 : decode cX2_digest 175 = .ok (.if_icmp .ge 63, 3) := by decide +kernel
theorem dX2_digest_178 : decode cX2_digest 178 = .ok (.ldc2_w 296, 3) := by decide +kernel
theorem dX2_digest_181 : decode cX2_digest 181 = .ok (.lload_n 1, 1) := by decide +kernel
theorem dX2_digest_182 : decode cX2_digest 182 = .ok (.lmul, 1) := by decide +kernel
theorem dX2_digest_183 : decode cX2_digest 183 = .ok (.aload_n 0, 1) := by decide +kernel
theorem dX2_digest_184 : decode cX2_digest 184 = .ok (.getfield 22, 3) := by decide +kernel
theorem dX2_digest_187 : decode cX2_digest 187 = .ok (.iload_n 3, 1) := by decide +kernel
theorem dX2_digest_188 : decode cX2_digest 188 = .ok (.iaload, 1) := by decide +kernel
theorem dX2_digest_189 : decode cX2_digest 189 = .ok (.i2l, 1) := by decide +kernel
theorem dX2_digest_190 : decode cX2_digest 190 = .ok (.ladd, 1) := by decide +kernel
theorem dX2_digest_191 : decode cX2_digest 191 = .ok (.lstore_n 1, 1) := by decide +kernel
theorem dX2_digest_192 : decode cX2_digest 192 = .ok (.iconst 0, 1) := by decide +kernel
theorem dX2_digest_193 : decode cX2_digest 193 = .ok (.istore 4, 2) := by decide +kernel
theorem dX2_digest_195 : decode cX2_digest 195 = .ok (.iload 4, 2) := by decide +kernel
theorem dX2_digest_197 : decode cX2_digest 197 = .ok (.aload_n 0, 1) := by decide +kernel
theorem dX2_digest_198 : decode cX2_digest 198 = .ok (.getfield 22, 3) := by decide +kernel
theorem dX2_digest_201 : decode cX2_digest 201 = .ok (.iload_n 3, 1) := by decide +kernel
theorem dX2_digest_202 : decode cX2_digest 202 = .ok (.iaload, 1) := by decide +kernel
theorem dX2_digest_203 : decode cX2_digest 203 = .ok (.if_icmp .ge 29, 3) := by decide +kernel
theorem dX2_digest_206 : decode cX2_digest 206 = .ok (.ldc2_w 296, 3) := by decide +kernel
theorem dX2_digest_209 : decode cX2_digest 209 = .ok (.lload_n 1, 1) := by decide +kernel
theorem dX2_digest_210 : decode cX2_digest 210 = .ok (.lmul, 1) := by decide +kernel
theorem dX2_digest_211 : decode cX2_digest 211 = .ok (.aload_n 0, 1) := by decide +kernel
theorem dX2_digest_212 : decode cX2_digest 212 = .ok (.getfield 25, 3) := by decide +kernel
theorem dX2_digest_215 : decode cX2_digest 215 = .ok (.bipush 60, 2) := by decide +kernel
theorem dX2_digest_217 : decode cX2_digest 217 = .ok (.iload_n 3, 1) := by decide +kernel
theorem dX2_digest_218 : decode cX2_digest 218 = .ok (.imul, 1) := by decide +kernel
theorem dX2_digest_219 : decode cX2_digest 219 = .ok (.iload 4, 2) := by decide +kernel
theorem dX2_digest_221 : decode cX2_digest 221 = .ok (.iadd, 1) := by decide +kernel
theorem dX2_digest_222 : decode cX2_digest 222 = .ok (.iaload, 1) := by decide +kernel
theorem dX2_digest_223 : decode cX2_digest 223 = .ok (.i2l, 1) := by decide +kernel
theorem dX2_digest_224 : decode cX2_digest 224 = .ok (.ladd, 1) := by decide +kernel
theorem dX2_digest_225 : decode cX2_digest 225 = .ok (.lstore_n 1, 1) := by decide +kernel
theorem dX2_digest_226 : decode cX2_digest 226 = .ok (.iinc 4 1, 3) := by decide +kernel
theorem dX2_digest_229 : decode cX2_digest 229 = .ok (.goto (-34), 3) := by decide +kernel
theorem dX2_digest_232 : decode cX2_digest 232 = .ok (.iinc 3 1, 3) := by decide +kernel
theorem dX2_digest_235 : decode cX2_digest 235 = .ok (.goto (-62), 3) := by decide +kernel
theorem dX2_digest_238 : decode cX2_digest 238 = .ok (.lload_n 1, 1) := by decide +kernel
theorem dX2_digest_239 : decode cX2_digest 239 = .ok (.lreturn, 1) := by decide +kernel
theorem mt_X2_crossedByAll : (Cond.instanceMethod yX2_crossedByAll ∈ gd_tbl ∧ Cond.selects yX2_crossedByAll.cls yX2_crossedByAll yX2_crossedByAll ∈ gd_tbl) ∧ Cond.initialized yX2_crossedByAll.cls ∈ gd_tbl ∧ Cond.code yX2_crossedByAll cX2_crossedByAll 3 (some .int) ∈ gd_tbl := ⟨⟨in_gd (i := 1054) (by decide +kernel) rfl, in_gd (i := 80) (by decide +kernel) rfl⟩, in_gd (i := 87) (by decide +kernel) rfl, in_gd (i := 1055) (by decide +kernel) rfl⟩
theorem yo_X2_crossedByAll : yOk yX2_crossedByAll 0 := ⟨by decide, by decide, by decide +kernel⟩
theorem l_X2_280 : mlV RX2 280 yX2_crossedByAll cX2_crossedByAll 3 (some .int) := ⟨in_gd (i := 1052) (by decide +kernel) rfl, mt_X2_crossedByAll⟩
theorem mt_X2_those : (Cond.instanceMethod yX2_those ∈ gd_tbl ∧ Cond.selects yX2_those.cls yX2_those yX2_those ∈ gd_tbl) ∧ Cond.initialized yX2_those.cls ∈ gd_tbl ∧ Cond.code yX2_those cX2_those 4 (some .int) ∈ gd_tbl := ⟨⟨in_gd (i := 1058) (by decide +kernel) rfl, in_gd (i := 81) (by decide +kernel) rfl⟩, in_gd (i := 87) (by decide +kernel) rfl, in_gd (i := 1059) (by decide +kernel) rfl⟩
theorem yo_X2_those : yOk yX2_those 1 := ⟨by decide, by decide, by decide +kernel⟩
theorem l_X2_283 : mlV RX2 283 yX2_those cX2_those 4 (some .int) := ⟨in_gd (i := 1056) (by decide +kernel) rfl, mt_X2_those⟩
theorem mt_X2_thereOf : (Cond.instanceMethod yX2_thereOf ∈ gd_tbl ∧ Cond.selects yX2_thereOf.cls yX2_thereOf yX2_thereOf ∈ gd_tbl) ∧ Cond.initialized yX2_thereOf.cls ∈ gd_tbl ∧ Cond.code yX2_thereOf cX2_thereOf 4 (some .int) ∈ gd_tbl := ⟨⟨in_gd (i := 1062) (by decide +kernel) rfl, in_gd (i := 82) (by decide +kernel) rfl⟩, in_gd (i := 87) (by decide +kernel) rfl, in_gd (i := 1063) (by decide +kernel) rfl⟩
theorem yo_X2_thereOf : yOk yX2_thereOf 1 := ⟨by decide, by decide, by decide +kernel⟩
theorem l_X2_286 : mlV RX2 286 yX2_thereOf cX2_thereOf 4 (some .int) := ⟨in_gd (i := 1060) (by decide +kernel) rfl, mt_X2_thereOf⟩
theorem k_X2_289 : Cond.constantLong RX2 289 (Int64.ofInt 11) ∈ gd_tbl := in_gd (i := 1047) (by decide +kernel) rfl
theorem mt_X2_countOf : (Cond.instanceMethod yX2_countOf ∈ gd_tbl ∧ Cond.selects yX2_countOf.cls yX2_countOf yX2_countOf ∈ gd_tbl) ∧ Cond.initialized yX2_countOf.cls ∈ gd_tbl ∧ Cond.code yX2_countOf cX2_countOf 3 (some .int) ∈ gd_tbl := ⟨⟨in_gd (i := 1050) (by decide +kernel) rfl, in_gd (i := 79) (by decide +kernel) rfl⟩, in_gd (i := 87) (by decide +kernel) rfl, in_gd (i := 1051) (by decide +kernel) rfl⟩
theorem yo_X2_countOf : yOk yX2_countOf 1 := ⟨by decide, by decide, by decide +kernel⟩
theorem l_X2_291 : mlV RX2 291 yX2_countOf cX2_countOf 3 (some .int) := ⟨in_gd (i := 1048) (by decide +kernel) rfl, mt_X2_countOf⟩
theorem k_X2_294 : Cond.constantLong RX2 294 (Int64.ofInt 17) ∈ gd_tbl := in_gd (i := 1076) (by decide +kernel) rfl
theorem k_X2_296 : Cond.constantLong RX2 296 (Int64.ofInt 31) ∈ gd_tbl := in_gd (i := 1077) (by decide +kernel) rfl
def fX2_countOf (p1 : Int) (μ : Mem) : Option Int :=
  (fX2_boldest 0 0 μ).bind fun x1 =>
  if p1 = 0 then
    some (μ 60 1)
  else
    if p1 = 1 then
      some (μ 61 1)
    else
      if p1 = 2 then
        some (μ 61 0)
      else
        if p1 = 3 then
          some (μ 61 2)
        else
          if p1 = 4 then
            if ¬ x1 = (-9) then
              some (bshl 1 x1)
            else
              some 0
          else
            if p1 = 5 then
              (fX2_daringOf (w32 ((bshl 1 (μ 60 1)) - 1)) μ).bind fun x9 =>
              some x9
            else
              if p1 = 6 then
                (fX2_crossedByAll μ).bind fun x11 =>
                some x11
              else
                if p1 = 7 then
                  (fX2_those 2 μ).bind fun x13 =>
                  some x13
                else
                  if p1 = 8 then
                    (fX2_those 3 μ).bind fun x15 =>
                    some x15
                  else
                    (fX2_thereOf p1 μ).bind fun x16 =>
                    some x16
theorem K_X2_countOf  (p1 : Int)  (μ : Mem) : Con yX2_countOf cX2_countOf 3 (some .int) 6 [.inr (.inr 60), .inl p1] μ (fX2_countOf p1 μ) (rI μ) := by
  refine con_of (own := RX2) (by decide) rfl (Nat.le_of_ble_eq_true rfl) ?_
  show Sim cX2_countOf 3 RX2 (6) (some .int) (rI μ) 0 [(0, .inr (.inr 60)), (1, .inl p1)] [] μ (fX2_countOf p1 μ)
  unfold fX2_countOf
  refine S_aload_n dX2_countOf_0 rfl ?_
  refine S_iconst dX2_countOf_1 rfl ?_
  refine S_iconst dX2_countOf_2 rfl ?_
  refine S_callV_I dX2_countOf_3 [.inl 0, .inl 0] (K_X2_boldest 0 0 μ) l_X2_156 yo_X2_boldest rfl rfl rfl rfl rfl (fun x1 => ?_)
  refine S_istore_n (lv' := [(2, .inl x1), (0, .inr (.inr 60)), (1, .inl p1)]) dX2_countOf_6 rfl rfl ?_
  refine S_iload_n dX2_countOf_7 rfl ?_
  refine S_if (fun h2 => ?_) (fun h2 => ?_)
  · refine S_tsIn (n := 0) (tgt := 60) dX2_countOf_8 h2 (by decide) (by decide) rfl (by decide) ?_
    refine S_aload_n dX2_countOf_60 rfl ?_
    refine S_getI dX2_countOf_61 rfl fl_X2_136 rfl rfl ?_
    exact S_iret dX2_countOf_64 rfl rfl
  · refine S_if (fun h3 => ?_) (fun h3 => ?_)
    · refine S_tsIn (n := 1) (tgt := 65) dX2_countOf_8 h3 (by decide) (by decide) rfl (by decide) ?_
      refine S_aload_n dX2_countOf_65 rfl ?_
      refine S_getR (c1 := 61) dX2_countOf_66 rfl fl_X2_7 rfl rfl rfl ?_
      refine S_iconst dX2_countOf_69 rfl ?_
      refine S_ialdK (k := 1) dX2_countOf_70 rfl (by decide) (by decide) ?_
      exact S_iret dX2_countOf_71 rfl rfl
    · refine S_if (fun h4 => ?_) (fun h4 => ?_)
      · refine S_tsIn (n := 2) (tgt := 72) dX2_countOf_8 h4 (by decide) (by decide) rfl (by decide) ?_
        refine S_aload_n dX2_countOf_72 rfl ?_
        refine S_getR (c1 := 61) dX2_countOf_73 rfl fl_X2_7 rfl rfl rfl ?_
        refine S_iconst dX2_countOf_76 rfl ?_
        refine S_ialdK (k := 0) dX2_countOf_77 rfl (by decide) (by decide) ?_
        exact S_iret dX2_countOf_78 rfl rfl
      · refine S_if (fun h5 => ?_) (fun h5 => ?_)
        · refine S_tsIn (n := 3) (tgt := 79) dX2_countOf_8 h5 (by decide) (by decide) rfl (by decide) ?_
          refine S_aload_n dX2_countOf_79 rfl ?_
          refine S_getR (c1 := 61) dX2_countOf_80 rfl fl_X2_7 rfl rfl rfl ?_
          refine S_iconst dX2_countOf_83 rfl ?_
          refine S_ialdK (k := 2) dX2_countOf_84 rfl (by decide) (by decide) ?_
          exact S_iret dX2_countOf_85 rfl rfl
        · refine S_if (fun h6 => ?_) (fun h6 => ?_)
          · refine S_tsIn (n := 4) (tgt := 86) dX2_countOf_8 h6 (by decide) (by decide) rfl (by decide) ?_
            refine S_iload_n dX2_countOf_86 rfl ?_
            refine S_bipush dX2_countOf_87 rfl (by decide) ?_
            refine S_ic_ne (tgt := 96) dX2_countOf_89 (by decide) (fun h7 => ?_) (fun h7 => ?_)
            · refine S_iconst dX2_countOf_96 rfl ?_
              refine S_iload_n dX2_countOf_97 rfl ?_
              refine S_ishl dX2_countOf_98 ?_
              exact S_iret dX2_countOf_99 rfl rfl
            · refine S_iconst dX2_countOf_92 rfl ?_
              refine S_goto (tgt := 99) dX2_countOf_93 (by decide) ?_
              exact S_iret dX2_countOf_99 rfl rfl
          · refine S_if (fun h8 => ?_) (fun h8 => ?_)
            · refine S_tsIn (n := 5) (tgt := 100) dX2_countOf_8 h8 (by decide) (by decide) rfl (by decide) ?_
              refine S_aload_n dX2_countOf_100 rfl ?_
              refine S_iconst dX2_countOf_101 rfl ?_
              refine S_aload_n dX2_countOf_102 rfl ?_
              refine S_getI dX2_countOf_103 rfl fl_X2_136 rfl rfl ?_
              refine S_ishl dX2_countOf_106 ?_
              refine S_iconst dX2_countOf_107 rfl ?_
              refine S_isub dX2_countOf_108 ?_
              refine S_callV_I dX2_countOf_109 [.inl (w32 ((bshl 1 (μ 60 1)) - 1))] (K_X2_daringOf (w32 ((bshl 1 (μ 60 1)) - 1)) μ) l_X2_236 yo_X2_daringOf rfl rfl rfl rfl rfl (fun x9 => ?_)
              exact S_iret dX2_countOf_112 rfl rfl
            · refine S_if (fun h10 => ?_) (fun h10 => ?_)
              · refine S_tsIn (n := 6) (tgt := 113) dX2_countOf_8 h10 (by decide) (by decide) rfl (by decide) ?_
                refine S_aload_n dX2_countOf_113 rfl ?_
                refine S_callV_I dX2_countOf_114 [] (K_X2_crossedByAll μ) l_X2_280 yo_X2_crossedByAll rfl rfl rfl rfl rfl (fun x11 => ?_)
                exact S_iret dX2_countOf_117 rfl rfl
              · refine S_if (fun h12 => ?_) (fun h12 => ?_)
                · refine S_tsIn (n := 7) (tgt := 118) dX2_countOf_8 h12 (by decide) (by decide) rfl (by decide) ?_
                  refine S_aload_n dX2_countOf_118 rfl ?_
                  refine S_iconst dX2_countOf_119 rfl ?_
                  refine S_callV_I dX2_countOf_120 [.inl 2] (K_X2_those 2 μ) l_X2_283 yo_X2_those rfl rfl rfl rfl rfl (fun x13 => ?_)
                  exact S_iret dX2_countOf_123 rfl rfl
                · refine S_if (fun h14 => ?_) (fun h14 => ?_)
                  · refine S_tsIn (n := 8) (tgt := 124) dX2_countOf_8 h14 (by decide) (by decide) rfl (by decide) ?_
                    refine S_aload_n dX2_countOf_124 rfl ?_
                    refine S_iconst dX2_countOf_125 rfl ?_
                    refine S_callV_I dX2_countOf_126 [.inl 3] (K_X2_those 3 μ) l_X2_283 yo_X2_those rfl rfl rfl rfl rfl (fun x15 => ?_)
                    exact S_iret dX2_countOf_129 rfl rfl
                  · refine S_tsD (tgt := 130) [0, 1, 2, 3, 4, 5, 6, 7, 8] dX2_countOf_8 (by decide) (by decide) (by intro v9 h9 e9; simp only [List.mem_cons, List.not_mem_nil, or_false] at h9; omega) ?_
                    refine S_aload_n dX2_countOf_130 rfl ?_
                    refine S_iload_n dX2_countOf_131 rfl ?_
                    refine S_callV_I dX2_countOf_132 [.inl p1] (K_X2_thereOf p1 μ) l_X2_286 yo_X2_thereOf rfl rfl rfl rfl rfl (fun x16 => ?_)
                    exact S_iret dX2_countOf_135 rfl rfl
def fX2_count (p1 : Int) (μ : Mem) : Option Int :=
  (fX2_in p1 0 11 μ).bind fun x1 =>
  if x1 = 0 then
    some (-1)
  else
    (fX2_countOf p1 μ).bind fun x2 =>
    some x2
theorem K_X2_count  (p1 : Int)  (μ : Mem) : Con yX2_count cX2_count 2 (some .int) 7 [.inr (.inr 60), .inl p1] μ (fX2_count p1 μ) (rI μ) := by
  refine con_of (own := RX2) (by decide) rfl (Nat.le_of_ble_eq_true rfl) ?_
  show Sim cX2_count 2 RX2 (7) (some .int) (rI μ) 0 [(0, .inr (.inr 60)), (1, .inl p1)] [] μ (fX2_count p1 μ)
  unfold fX2_count
  refine S_iload_n dX2_count_0 rfl ?_
  refine S_i2l dX2_count_1 ?_
  refine S_lconst (n := 0) dX2_count_2 (by decide) rfl ?_
  refine S_ldc2 dX2_count_3 rfl k_X2_289 ?_
  refine S_callS_I dX2_count_6 [.inr (.inl p1), .inr (.inl 0), .inr (.inl 11)] (K_X2_in p1 0 11 μ) l_X2_59 yo_X2_in rfl rfl rfl (fun x1 => ?_)
  refine S_if_eq (tgt := 20) dX2_count_9 (by decide) (fun h3 => ?_) (fun h3 => ?_)
  · refine S_iconst dX2_count_20 rfl ?_
    exact S_iret dX2_count_21 rfl rfl
  · refine S_aload_n dX2_count_12 rfl ?_
    refine S_iload_n dX2_count_13 rfl ?_
    refine S_callV_I dX2_count_14 [.inl p1] (K_X2_countOf p1 μ) l_X2_291 yo_X2_countOf rfl rfl rfl rfl rfl (fun x2 => ?_)
    refine S_goto (tgt := 21) dX2_count_17 (by decide) ?_
    exact S_iret dX2_count_21 rfl rfl
def fX2_finding (μ : Mem) : Option Int :=
  some (μ 60 10)
theorem K_X2_finding    (μ : Mem) : Con yX2_finding cX2_finding 1 (some .int) 2 [.inr (.inr 60)] μ (fX2_finding  μ) (rI μ) := by
  refine con_of (own := RX2) (by decide) rfl (Nat.le_of_ble_eq_true rfl) ?_
  show Sim cX2_finding 1 RX2 (2) (some .int) (rI μ) 0 [(0, .inr (.inr 60))] [] μ (fX2_finding  μ)
  unfold fX2_finding
  refine S_aload_n dX2_finding_0 rfl ?_
  refine S_getI dX2_finding_1 rfl fl_X2_50 rfl rfl ?_
  exact S_iret dX2_finding_4 rfl rfl
def fX2_findings (p1 : Int) (μ : Mem) : Option Int :=
  (fX2_in p1 1 5 μ).bind fun x1 =>
  if x1 = 0 then
    some (-1)
  else
    grd (0 ≤ p1 ∧ p1 < 6) <|
    some (μ 67 (p1).toNat)
theorem K_X2_findings  (p1 : Int)  (μ : Mem) : Con yX2_findings cX2_findings 2 (some .int) 3 [.inr (.inr 60), .inl p1] μ (fX2_findings p1 μ) (rI μ) := by
  refine con_of (own := RX2) (by decide) rfl (Nat.le_of_ble_eq_true rfl) ?_
  show Sim cX2_findings 2 RX2 (3) (some .int) (rI μ) 0 [(0, .inr (.inr 60)), (1, .inl p1)] [] μ (fX2_findings p1 μ)
  unfold fX2_findings
  refine S_iload_n dX2_findings_0 rfl ?_
  refine S_i2l dX2_findings_1 ?_
  refine S_lconst (n := 1) dX2_findings_2 (by decide) rfl ?_
  refine S_ldc2 dX2_findings_3 rfl k_X2_57 ?_
  refine S_callS_I dX2_findings_6 [.inr (.inl p1), .inr (.inl 1), .inr (.inl 5)] (K_X2_in p1 1 5 μ) l_X2_59 yo_X2_in rfl rfl rfl (fun x1 => ?_)
  refine S_if_eq (tgt := 21) dX2_findings_9 (by decide) (fun h2 => ?_) (fun h2 => ?_)
  · refine S_iconst dX2_findings_21 rfl ?_
    exact S_iret dX2_findings_22 rfl rfl
  · refine S_aload_n dX2_findings_12 rfl ?_
    refine S_getR (c1 := 67) dX2_findings_13 rfl fl_X2_32 rfl rfl rfl ?_
    refine S_iload_n dX2_findings_16 rfl ?_
    refine S_iald (N := 6) dX2_findings_17 rfl (by decide) rfl ?_
    refine S_goto (tgt := 22) dX2_findings_18 (by decide) ?_
    exact S_iret dX2_findings_22 rfl rfl
def fX2_digest_L195 (x10 : Int) (μ : Mem) (K14 : Int → Option Int) : Nat → Int → Int → Option Int
  | 0, _, _ => none
  | n18 + 1, x16, x17 =>
    grd (0 ≤ x10 ∧ x10 < 4) <|
    if (μ 65 (x10).toNat) ≤ x17 then
      K14 x16
    else
      grd (0 ≤ (w32 ((w32 (60 * x10)) + x17)) ∧ (w32 ((w32 (60 * x10)) + x17)) < 240) <|
      mlet ((w64 ((w64 (31 * x16)) + (μ 66 ((w32 ((w32 (60 * x10)) + x17))).toNat)))) fun x19 =>
      mlet (w32 (x17 + 1)) fun x20 =>
      fX2_digest_L195 x10 μ K14 n18 x19 x20
def fX2_digest_L173 (μ : Mem) : Nat → Int → Int → Option Int
  | 0, _, _ => none
  | n11 + 1, x9, x10 =>
    if 4 ≤ x10 then
      some x9
    else
      grd (0 ≤ x10 ∧ x10 < 4) <|
      mlet ((w64 ((w64 (31 * x9)) + (μ 65 (x10).toNat)))) fun x12 =>
      mlet (fun (x13 : Int) =>
        mlet (w32 (x10 + 1)) fun x15 =>
        fX2_digest_L173 μ n11 x13 x15
        ) fun (K14 : Int → Option Int) =>
      fX2_digest_L195 x10 μ K14 fuel x12 0
def fX2_digest_L128 (x24 : Int) (μ : Mem) (K28 : Int → Option Int) : Nat → Int → Int → Option Int
  | 0, _, _ => none
  | n32 + 1, x30, x31 =>
    grd (0 ≤ x24 ∧ x24 < 6) <|
    if (μ 63 (x24).toNat) ≤ x31 then
      K28 x30
    else
      grd (0 ≤ (w32 ((w32 (40 * x24)) + x31)) ∧ (w32 ((w32 (40 * x24)) + x31)) < 240) <|
      mlet ((w64 ((w64 (31 * x30)) + (μ 64 ((w32 ((w32 (40 * x24)) + x31))).toNat)))) fun x33 =>
      mlet (w32 (x31 + 1)) fun x34 =>
      fX2_digest_L128 x24 μ K28 n32 x33 x34
def fX2_digest_L105 (K8 : Int → Option Int) (μ : Mem) : Nat → Int → Int → Option Int
  | 0, _, _ => none
  | n25 + 1, x23, x24 =>
    if 6 ≤ x24 then
      K8 x23
    else
      grd (0 ≤ x24 ∧ x24 < 6) <|
      mlet ((w64 ((w64 (31 * x23)) + (μ 63 (x24).toNat)))) fun x26 =>
      mlet (fun (x27 : Int) =>
        mlet (w32 (x24 + 1)) fun x29 =>
        fX2_digest_L105 K8 μ n25 x27 x29
        ) fun (K28 : Int → Option Int) =>
      fX2_digest_L128 x24 μ K28 fuel x26 0
def fX2_digest_L72 (K6 : Int → Option Int) (μ : Mem) : Nat → Int → Int → Option Int
  | 0, _, _ => none
  | n39 + 1, x37, x38 =>
    if 4 ≤ x38 then
      K6 x37
    else
      grd (0 ≤ (w32 ((w32 (821 * x38)) + 0)) ∧ (w32 ((w32 (821 * x38)) + 0)) < 3305) <|
      mlet ((w64 ((w64 (31 * x37)) + (μ 61 ((w32 ((w32 (821 * x38)) + 0))).toNat)))) fun x40 =>
      mlet (w32 (x38 + 1)) fun x41 =>
      fX2_digest_L72 K6 μ n39 x40 x41
def fX2_digest_L33 (μ : Mem) (K4 : Int → Option Int) : Nat → Int → Int → Option Int
  | 0, _, _ => none
  | n45 + 1, x43, x44 =>
    if (w32 (6 * (μ 60 1))) ≤ x44 then
      K4 x43
    else
      (fX2_toldOf (w32 (x44.tdiv 6)) (x44.tmod 6) μ).bind fun x46 =>
      mlet ((w64 ((w64 (31 * x43)) + x46))) fun x47 =>
      mlet (w32 (x44 + 1)) fun x48 =>
      fX2_digest_L33 μ K4 n45 x47 x48
def fX2_digest_L6 (K2 : Int → Option Int) (μ : Mem) : Nat → Int → Int → Option Int
  | 0, _, _ => none
  | n52 + 1, x50, x51 =>
    if 12 ≤ x51 then
      K2 x50
    else
      (fX2_countOf x51 μ).bind fun x53 =>
      mlet ((w64 ((w64 (31 * x50)) + x53))) fun x54 =>
      mlet (w32 (x51 + 1)) fun x55 =>
      fX2_digest_L6 K2 μ n52 x54 x55
def fX2_digest (μ : Mem) : Option Int :=
  mlet (fun (x1 : Int) =>
    mlet (fun (x3 : Int) =>
      mlet (fun (x5 : Int) =>
        mlet (fun (x7 : Int) =>
          fX2_digest_L173 μ fuel x7 0
          ) fun (K8 : Int → Option Int) =>
        fX2_digest_L105 K8 μ fuel x5 0
        ) fun (K6 : Int → Option Int) =>
      fX2_digest_L72 K6 μ fuel x3 1
      ) fun (K4 : Int → Option Int) =>
    fX2_digest_L33 μ K4 fuel x1 0
    ) fun (K2 : Int → Option Int) =>
  fX2_digest_L6 K2 μ fuel 17 0
theorem K_X2_digest    (μ : Mem) : Con yX2_digest cX2_digest 5 (some .long) 7 [.inr (.inr 60)] μ (fX2_digest  μ) (rL μ) := by
  refine con_of (own := RX2) (by decide) rfl (Nat.le_of_ble_eq_true rfl) ?_
  show Sim cX2_digest 5 RX2 (7) (some .long) (rL μ) 0 [(0, .inr (.inr 60))] [] μ (fX2_digest  μ)
  unfold fX2_digest
  refine S_ldc2 dX2_digest_0 rfl k_X2_294 ?_
  refine S_lstore_n (lv' := [(1, .inr (.inl 17)), (0, .inr (.inr 60))]) dX2_digest_3 rfl rfl ?_
  refine S_iconst dX2_digest_4 rfl ?_
  refine S_istore_n (lv' := [(3, .inl 0), (1, .inr (.inl 17)), (0, .inr (.inr 60))]) dX2_digest_5 rfl rfl ?_
  refine S_jn (fun (K2 : Int → Option Int) => ∀ (x1 : Int), Sim cX2_digest 5 RX2 (7) (some .long) (rL μ) 31 [(0, .inr (.inr 60)), (1, .inr (.inl x1))] [] μ (K2 x1)) ?_ (fun K2 hK2 => ?_)
  · intro x1
    refine S_iconst dX2_digest_31 rfl ?_
    refine S_istore_n (lv' := [(3, .inl 0), (0, .inr (.inr 60)), (1, .inr (.inl x1))]) dX2_digest_32 rfl rfl ?_
    refine S_jn (fun (K4 : Int → Option Int) => ∀ (x3 : Int), Sim cX2_digest 5 RX2 (7) (some .long) (rL μ) 70 [(0, .inr (.inr 60)), (1, .inr (.inl x3))] [] μ (K4 x3)) ?_ (fun K4 hK4 => ?_)
    · intro x3
      refine S_iconst dX2_digest_70 rfl ?_
      refine S_istore_n (lv' := [(3, .inl 1), (0, .inr (.inr 60)), (1, .inr (.inl x3))]) dX2_digest_71 rfl rfl ?_
      refine S_jn (fun (K6 : Int → Option Int) => ∀ (x5 : Int), Sim cX2_digest 5 RX2 (7) (some .long) (rL μ) 103 [(0, .inr (.inr 60)), (1, .inr (.inl x5))] [] μ (K6 x5)) ?_ (fun K6 hK6 => ?_)
      · intro x5
        refine S_iconst dX2_digest_103 rfl ?_
        refine S_istore_n (lv' := [(3, .inl 0), (0, .inr (.inr 60)), (1, .inr (.inl x5))]) dX2_digest_104 rfl rfl ?_
        refine S_jn (fun (K8 : Int → Option Int) => ∀ (x7 : Int), Sim cX2_digest 5 RX2 (7) (some .long) (rL μ) 171 [(0, .inr (.inr 60)), (1, .inr (.inl x7))] [] μ (K8 x7)) ?_ (fun K8 hK8 => ?_)
        · intro x7
          refine S_iconst dX2_digest_171 rfl ?_
          refine S_istore_n (lv' := [(3, .inl 0), (0, .inr (.inr 60)), (1, .inr (.inl x7))]) dX2_digest_172 rfl rfl ?_
          have hL173 : ∀ (n11 : Nat) (x9 : Int) (x10 : Int), Sim cX2_digest 5 RX2 (7) (some .long) (rL μ) 173 [(0, .inr (.inr 60)), (1, .inr (.inl x9)), (3, .inl x10)] [] μ (fX2_digest_L173 μ n11 x9 x10) := by
            intro n11
            induction n11 with
            | zero =>
              intro x9 x10
              exact S_none rfl
            | succ n11 ih =>
              intro x9 x10
              rw [fX2_digest_L173]
              refine S_iload_n dX2_digest_173 rfl ?_
              refine S_iconst dX2_digest_174 rfl ?_
              refine S_ic_ge (tgt := 238) dX2_digest_175 (by decide) (fun h22 => ?_) (fun h22 => ?_)
              · refine S_lload_n dX2_digest_238 rfl ?_
                exact S_lret dX2_digest_239 rfl rfl
              · refine S_ldc2 dX2_digest_178 rfl k_X2_296 ?_
                refine S_lload_n dX2_digest_181 rfl ?_
                refine S_lmul dX2_digest_182 ?_
                refine S_aload_n dX2_digest_183 rfl ?_
                refine S_getR (c1 := 65) dX2_digest_184 rfl fl_X2_22 rfl rfl rfl ?_
                refine S_iload_n dX2_digest_187 rfl ?_
                refine S_iald (N := 4) dX2_digest_188 rfl (by decide) rfl ?_
                refine S_i2l dX2_digest_189 ?_
                refine S_ladd dX2_digest_190 ?_
                refine S_letL (fun x12 => ?_)
                refine S_lstore_n (lv' := [(1, .inr (.inl x12)), (0, .inr (.inr 60)), (3, .inl x10)]) dX2_digest_191 rfl rfl ?_
                refine S_iconst dX2_digest_192 rfl ?_
                refine S_istore (lv' := [(4, .inl 0), (1, .inr (.inl x12)), (0, .inr (.inr 60)), (3, .inl x10)]) dX2_digest_193 rfl rfl ?_
                refine S_jn (fun (K14 : Int → Option Int) => ∀ (x13 : Int), Sim cX2_digest 5 RX2 (7) (some .long) (rL μ) 232 [(0, .inr (.inr 60)), (1, .inr (.inl x13)), (3, .inl x10)] [] μ (K14 x13)) ?_ (fun K14 hK14 => ?_)
                · intro x13
                  refine S_iinc (lv' := fun x15 => [(3, .inl x15), (0, .inr (.inr 60)), (1, .inr (.inl x13))]) dX2_digest_232 rfl rfl rfl (fun _ => rfl) (fun x15 => ?_)
                  refine S_goto (tgt := 173) dX2_digest_235 (by decide) ?_
                  exact S_sub [1, 2, 0] rfl (ih x13 x15)
                have hL195 : ∀ (n18 : Nat) (x16 : Int) (x17 : Int), Sim cX2_digest 5 RX2 (7) (some .long) (rL μ) 195 [(0, .inr (.inr 60)), (1, .inr (.inl x16)), (3, .inl x10), (4, .inl x17)] [] μ (fX2_digest_L195 x10 μ K14 n18 x16 x17) := by
                  intro n18
                  induction n18 with
                  | zero =>
                    intro x16 x17
                    exact S_none rfl
                  | succ n18 ih =>
                    intro x16 x17
                    rw [fX2_digest_L195]
                    refine S_iload dX2_digest_195 rfl ?_
                    refine S_aload_n dX2_digest_197 rfl ?_
                    refine S_getR (c1 := 65) dX2_digest_198 rfl fl_X2_22 rfl rfl rfl ?_
                    refine S_iload_n dX2_digest_201 rfl ?_
                    refine S_iald (N := 4) dX2_digest_202 rfl (by decide) rfl ?_
                    refine S_ic_ge (tgt := 232) dX2_digest_203 (by decide) (fun h21 => ?_) (fun h21 => ?_)
                    · exact S_sub [0, 1, 2] rfl (hK14 x16)
                    · refine S_ldc2 dX2_digest_206 rfl k_X2_296 ?_
                      refine S_lload_n dX2_digest_209 rfl ?_
                      refine S_lmul dX2_digest_210 ?_
                      refine S_aload_n dX2_digest_211 rfl ?_
                      refine S_getR (c1 := 66) dX2_digest_212 rfl fl_X2_25 rfl rfl rfl ?_
                      refine S_bipush dX2_digest_215 rfl (by decide) ?_
                      refine S_iload_n dX2_digest_217 rfl ?_
                      refine S_imul dX2_digest_218 ?_
                      refine S_iload dX2_digest_219 rfl ?_
                      refine S_iadd dX2_digest_221 ?_
                      refine S_iald (N := 240) dX2_digest_222 rfl (by decide) rfl ?_
                      refine S_i2l dX2_digest_223 ?_
                      refine S_ladd dX2_digest_224 ?_
                      refine S_letL (fun x19 => ?_)
                      refine S_lstore_n (lv' := [(1, .inr (.inl x19)), (0, .inr (.inr 60)), (3, .inl x10), (4, .inl x17)]) dX2_digest_225 rfl rfl ?_
                      refine S_iinc (lv' := fun x20 => [(4, .inl x20), (1, .inr (.inl x19)), (0, .inr (.inr 60)), (3, .inl x10)]) dX2_digest_226 rfl rfl rfl (fun _ => rfl) (fun x20 => ?_)
                      refine S_goto (tgt := 195) dX2_digest_229 (by decide) ?_
                      exact S_sub [2, 1, 3, 0] rfl (ih x19 x20)
                exact S_sub [2, 1, 3, 0] rfl (hL195 fuel x12 0)
          exact S_sub [1, 2, 0] rfl (hL173 fuel x7 0)
        have hL105 : ∀ (n25 : Nat) (x23 : Int) (x24 : Int), Sim cX2_digest 5 RX2 (7) (some .long) (rL μ) 105 [(0, .inr (.inr 60)), (1, .inr (.inl x23)), (3, .inl x24)] [] μ (fX2_digest_L105 K8 μ n25 x23 x24) := by
          intro n25
          induction n25 with
          | zero =>
            intro x23 x24
            exact S_none rfl
          | succ n25 ih =>
            intro x23 x24
            rw [fX2_digest_L105]
            refine S_iload_n dX2_digest_105 rfl ?_
            refine S_bipush dX2_digest_106 rfl (by decide) ?_
            refine S_ic_ge (tgt := 171) dX2_digest_108 (by decide) (fun h36 => ?_) (fun h36 => ?_)
            · exact S_sub [0, 1] rfl (hK8 x23)
            · refine S_ldc2 dX2_digest_111 rfl k_X2_296 ?_
              refine S_lload_n dX2_digest_114 rfl ?_
              refine S_lmul dX2_digest_115 ?_
              refine S_aload_n dX2_digest_116 rfl ?_
              refine S_getR (c1 := 63) dX2_digest_117 rfl fl_X2_16 rfl rfl rfl ?_
              refine S_iload_n dX2_digest_120 rfl ?_
              refine S_iald (N := 6) dX2_digest_121 rfl (by decide) rfl ?_
              refine S_i2l dX2_digest_122 ?_
              refine S_ladd dX2_digest_123 ?_
              refine S_letL (fun x26 => ?_)
              refine S_lstore_n (lv' := [(1, .inr (.inl x26)), (0, .inr (.inr 60)), (3, .inl x24)]) dX2_digest_124 rfl rfl ?_
              refine S_iconst dX2_digest_125 rfl ?_
              refine S_istore (lv' := [(4, .inl 0), (1, .inr (.inl x26)), (0, .inr (.inr 60)), (3, .inl x24)]) dX2_digest_126 rfl rfl ?_
              refine S_jn (fun (K28 : Int → Option Int) => ∀ (x27 : Int), Sim cX2_digest 5 RX2 (7) (some .long) (rL μ) 165 [(0, .inr (.inr 60)), (1, .inr (.inl x27)), (3, .inl x24)] [] μ (K28 x27)) ?_ (fun K28 hK28 => ?_)
              · intro x27
                refine S_iinc (lv' := fun x29 => [(3, .inl x29), (0, .inr (.inr 60)), (1, .inr (.inl x27))]) dX2_digest_165 rfl rfl rfl (fun _ => rfl) (fun x29 => ?_)
                refine S_goto (tgt := 105) dX2_digest_168 (by decide) ?_
                exact S_sub [1, 2, 0] rfl (ih x27 x29)
              have hL128 : ∀ (n32 : Nat) (x30 : Int) (x31 : Int), Sim cX2_digest 5 RX2 (7) (some .long) (rL μ) 128 [(0, .inr (.inr 60)), (1, .inr (.inl x30)), (3, .inl x24), (4, .inl x31)] [] μ (fX2_digest_L128 x24 μ K28 n32 x30 x31) := by
                intro n32
                induction n32 with
                | zero =>
                  intro x30 x31
                  exact S_none rfl
                | succ n32 ih =>
                  intro x30 x31
                  rw [fX2_digest_L128]
                  refine S_iload dX2_digest_128 rfl ?_
                  refine S_aload_n dX2_digest_130 rfl ?_
                  refine S_getR (c1 := 63) dX2_digest_131 rfl fl_X2_16 rfl rfl rfl ?_
                  refine S_iload_n dX2_digest_134 rfl ?_
                  refine S_iald (N := 6) dX2_digest_135 rfl (by decide) rfl ?_
                  refine S_ic_ge (tgt := 165) dX2_digest_136 (by decide) (fun h35 => ?_) (fun h35 => ?_)
                  · exact S_sub [0, 1, 2] rfl (hK28 x30)
                  · refine S_ldc2 dX2_digest_139 rfl k_X2_296 ?_
                    refine S_lload_n dX2_digest_142 rfl ?_
                    refine S_lmul dX2_digest_143 ?_
                    refine S_aload_n dX2_digest_144 rfl ?_
                    refine S_getR (c1 := 64) dX2_digest_145 rfl fl_X2_19 rfl rfl rfl ?_
                    refine S_bipush dX2_digest_148 rfl (by decide) ?_
                    refine S_iload_n dX2_digest_150 rfl ?_
                    refine S_imul dX2_digest_151 ?_
                    refine S_iload dX2_digest_152 rfl ?_
                    refine S_iadd dX2_digest_154 ?_
                    refine S_iald (N := 240) dX2_digest_155 rfl (by decide) rfl ?_
                    refine S_i2l dX2_digest_156 ?_
                    refine S_ladd dX2_digest_157 ?_
                    refine S_letL (fun x33 => ?_)
                    refine S_lstore_n (lv' := [(1, .inr (.inl x33)), (0, .inr (.inr 60)), (3, .inl x24), (4, .inl x31)]) dX2_digest_158 rfl rfl ?_
                    refine S_iinc (lv' := fun x34 => [(4, .inl x34), (1, .inr (.inl x33)), (0, .inr (.inr 60)), (3, .inl x24)]) dX2_digest_159 rfl rfl rfl (fun _ => rfl) (fun x34 => ?_)
                    refine S_goto (tgt := 128) dX2_digest_162 (by decide) ?_
                    exact S_sub [2, 1, 3, 0] rfl (ih x33 x34)
              exact S_sub [2, 1, 3, 0] rfl (hL128 fuel x26 0)
        exact S_sub [1, 2, 0] rfl (hL105 fuel x5 0)
      have hL72 : ∀ (n39 : Nat) (x37 : Int) (x38 : Int), Sim cX2_digest 5 RX2 (7) (some .long) (rL μ) 72 [(0, .inr (.inr 60)), (1, .inr (.inl x37)), (3, .inl x38)] [] μ (fX2_digest_L72 K6 μ n39 x37 x38) := by
        intro n39
        induction n39 with
        | zero =>
          intro x37 x38
          exact S_none rfl
        | succ n39 ih =>
          intro x37 x38
          rw [fX2_digest_L72]
          refine S_iload_n dX2_digest_72 rfl ?_
          refine S_iconst dX2_digest_73 rfl ?_
          refine S_ic_ge (tgt := 103) dX2_digest_74 (by decide) (fun h42 => ?_) (fun h42 => ?_)
          · exact S_sub [0, 1] rfl (hK6 x37)
          · refine S_ldc2 dX2_digest_77 rfl k_X2_296 ?_
            refine S_lload_n dX2_digest_80 rfl ?_
            refine S_lmul dX2_digest_81 ?_
            refine S_aload_n dX2_digest_82 rfl ?_
            refine S_getR (c1 := 61) dX2_digest_83 rfl fl_X2_7 rfl rfl rfl ?_
            refine S_sipush dX2_digest_86 rfl (by decide) ?_
            refine S_iload_n dX2_digest_89 rfl ?_
            refine S_imul dX2_digest_90 ?_
            refine S_iconst dX2_digest_91 rfl ?_
            refine S_iadd dX2_digest_92 ?_
            refine S_iald (N := 3305) dX2_digest_93 rfl (by decide) rfl ?_
            refine S_i2l dX2_digest_94 ?_
            refine S_ladd dX2_digest_95 ?_
            refine S_letL (fun x40 => ?_)
            refine S_lstore_n (lv' := [(1, .inr (.inl x40)), (0, .inr (.inr 60)), (3, .inl x38)]) dX2_digest_96 rfl rfl ?_
            refine S_iinc (lv' := fun x41 => [(3, .inl x41), (1, .inr (.inl x40)), (0, .inr (.inr 60))]) dX2_digest_97 rfl rfl rfl (fun _ => rfl) (fun x41 => ?_)
            refine S_goto (tgt := 72) dX2_digest_100 (by decide) ?_
            exact S_sub [2, 1, 0] rfl (ih x40 x41)
      exact S_sub [1, 2, 0] rfl (hL72 fuel x3 1)
    have hL33 : ∀ (n45 : Nat) (x43 : Int) (x44 : Int), Sim cX2_digest 5 RX2 (7) (some .long) (rL μ) 33 [(0, .inr (.inr 60)), (1, .inr (.inl x43)), (3, .inl x44)] [] μ (fX2_digest_L33 μ K4 n45 x43 x44) := by
      intro n45
      induction n45 with
      | zero =>
        intro x43 x44
        exact S_none rfl
      | succ n45 ih =>
        intro x43 x44
        rw [fX2_digest_L33]
        refine S_iload_n dX2_digest_33 rfl ?_
        refine S_bipush dX2_digest_34 rfl (by decide) ?_
        refine S_aload_n dX2_digest_36 rfl ?_
        refine S_getI dX2_digest_37 rfl fl_X2_136 rfl rfl ?_
        refine S_imul dX2_digest_40 ?_
        refine S_ic_ge (tgt := 70) dX2_digest_41 (by decide) (fun h49 => ?_) (fun h49 => ?_)
        · exact S_sub [0, 1] rfl (hK4 x43)
        · refine S_ldc2 dX2_digest_44 rfl k_X2_296 ?_
          refine S_lload_n dX2_digest_47 rfl ?_
          refine S_lmul dX2_digest_48 ?_
          refine S_aload_n dX2_digest_49 rfl ?_
          refine S_iload_n dX2_digest_50 rfl ?_
          refine S_bipush dX2_digest_51 rfl (by decide) ?_
          refine S_idivK dX2_digest_53 (by decide) ?_
          refine S_iload_n dX2_digest_54 rfl ?_
          refine S_bipush dX2_digest_55 rfl (by decide) ?_
          refine S_iremK dX2_digest_57 (by decide) ?_
          refine S_callV_I dX2_digest_58 [.inl (w32 (x44.tdiv 6)), .inl (x44.tmod 6)] (K_X2_toldOf (w32 (x44.tdiv 6)) (x44.tmod 6) μ) l_X2_165 yo_X2_toldOf rfl rfl rfl rfl rfl (fun x46 => ?_)
          refine S_i2l dX2_digest_61 ?_
          refine S_ladd dX2_digest_62 ?_
          refine S_letL (fun x47 => ?_)
          refine S_lstore_n (lv' := [(1, .inr (.inl x47)), (0, .inr (.inr 60)), (3, .inl x44)]) dX2_digest_63 rfl rfl ?_
          refine S_iinc (lv' := fun x48 => [(3, .inl x48), (1, .inr (.inl x47)), (0, .inr (.inr 60))]) dX2_digest_64 rfl rfl rfl (fun _ => rfl) (fun x48 => ?_)
          refine S_goto (tgt := 33) dX2_digest_67 (by decide) ?_
          exact S_sub [2, 1, 0] rfl (ih x47 x48)
    exact S_sub [1, 2, 0] rfl (hL33 fuel x1 0)
  have hL6 : ∀ (n52 : Nat) (x50 : Int) (x51 : Int), Sim cX2_digest 5 RX2 (7) (some .long) (rL μ) 6 [(0, .inr (.inr 60)), (1, .inr (.inl x50)), (3, .inl x51)] [] μ (fX2_digest_L6 K2 μ n52 x50 x51) := by
    intro n52
    induction n52 with
    | zero =>
      intro x50 x51
      exact S_none rfl
    | succ n52 ih =>
      intro x50 x51
      rw [fX2_digest_L6]
      refine S_iload_n dX2_digest_6 rfl ?_
      refine S_bipush dX2_digest_7 rfl (by decide) ?_
      refine S_ic_ge (tgt := 31) dX2_digest_9 (by decide) (fun h56 => ?_) (fun h56 => ?_)
      · exact S_sub [0, 1] rfl (hK2 x50)
      · refine S_ldc2 dX2_digest_12 rfl k_X2_296 ?_
        refine S_lload_n dX2_digest_15 rfl ?_
        refine S_lmul dX2_digest_16 ?_
        refine S_aload_n dX2_digest_17 rfl ?_
        refine S_iload_n dX2_digest_18 rfl ?_
        refine S_callV_I dX2_digest_19 [.inl x51] (K_X2_countOf x51 μ) l_X2_291 yo_X2_countOf rfl rfl rfl rfl rfl (fun x53 => ?_)
        refine S_i2l dX2_digest_22 ?_
        refine S_ladd dX2_digest_23 ?_
        refine S_letL (fun x54 => ?_)
        refine S_lstore_n (lv' := [(1, .inr (.inl x54)), (0, .inr (.inr 60)), (3, .inl x51)]) dX2_digest_24 rfl rfl ?_
        refine S_iinc (lv' := fun x55 => [(3, .inl x55), (1, .inr (.inl x54)), (0, .inr (.inr 60))]) dX2_digest_25 rfl rfl rfl (fun _ => rfl) (fun x55 => ?_)
        refine S_goto (tgt := 6) dX2_digest_28 (by decide) ?_
        exact S_sub [2, 1, 0] rfl (ih x54 x55)
  exact S_sub [2, 1, 0] rfl (hL6 fuel 17 0)
