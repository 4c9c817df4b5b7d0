theorem dX2_river_0 : decode cX2_river 0 = .ok (.iload_n 1, 1) := by decide +kernel
theorem dX2_river_1 : decode cX2_river 1 = .ok (.invokestatic 88, 3) := by decide +kernel
theorem dX2_river_4 : decode cX2_river 4 = .ok (.ifCond .ne 5, 3) := by decide +kernel
theorem dX2_river_7 : decode cX2_river 7 = .ok (.iconst (-1), 1) := by decide +kernel
theorem dX2_river_8 : decode cX2_river 8 = .ok (.ireturn, 1) := by decide +kernel
theorem dX2_river_9 : decode cX2_river 9 = .ok (.aload_n 0, 1) := by decide +kernel
theorem dX2_river_10 : decode cX2_river 10 = .ok (.getfield 22, 3) := by decide +kernel
theorem dX2_river_13 : decode cX2_river 13 = .ok (.iload_n 1, 1) := by decide +kernel
theorem dX2_river_14 : decode cX2_river 14 = .ok (.iaload, 1) := by decide +kernel
theorem dX2_river_15 : decode cX2_river 15 = .ok (.ifCond .ge 9, 3) := by decide +kernel
theorem dX2_river_18 : decode cX2_river 18 = .ok (.aload_n 0, 1) := by decide +kernel
theorem dX2_river_19 : decode cX2_river 19 = .ok (.iconst 1, 1) := by decide +kernel
theorem dX2_river_20 : decode cX2_river 20 = .ok (.invokevirtual 69, 3) := by decide +kernel
theorem dX2_river_23 : decode cX2_river 23 = .ok (.ireturn, 1) := by decide +kernel
theorem dX2_river_24 : decode cX2_river 24 = .ok (.aload_n 0, 1) := by decide +kernel
theorem dX2_river_25 : decode cX2_river 25 = .ok (.iload_n 1, 1) := by decide +kernel
theorem dX2_river_26 : decode cX2_river 26 = .ok (.invokevirtual 133, 3) := by decide +kernel
theorem dX2_river_29 : decode cX2_river 29 = .ok (.bipush (-9), 2) := by decide +kernel
theorem dX2_river_31 : decode cX2_river 31 = .ok (.if_icmp .eq 6, 3) := by decide +kernel
theorem dX2_river_34 : decode cX2_river 34 = .ok (.bipush (-4), 2) := by decide +kernel
theorem dX2_river_36 : decode cX2_river 36 = .ok (.ireturn, 1) := by decide +kernel
theorem dX2_river_37 : decode cX2_river 37 = .ok (.iconst 0, 1) := by decide +kernel
theorem dX2_river_38 : decode cX2_river 38 = .ok (.istore_n 2, 1) := by decide +kernel
theorem dX2_river_39 : decode cX2_river 39 = .ok (.iload_n 2, 1) := by decide +kernel
theorem dX2_river_40 : decode cX2_river 40 = .ok (.sipush 821, 3) := by decide +kernel
theorem dX2_river_43 : decode cX2_river 43 = .ok (.if_icmp .ge 16, 3) := by decide +kernel
theorem dX2_river_46 : decode cX2_river 46 = .ok (.aload_n 0, 1) := by decide +kernel
theorem dX2_river_47 : decode cX2_river 47 = .ok (.getfield 7, 3) := by decide +kernel
theorem dX2_river_50 : decode cX2_river 50 = .ok (.iload_n 2, 1) := by decide +kernel
theorem dX2_river_51 : decode cX2_river 51 = .ok (.iconst 0, 1) := by decide +kernel
theorem dX2_river_52 : decode cX2_river 52 = .ok (.iastore, 1) := by decide +kernel
theorem dX2_river_53 : decode cX2_river 53 = .ok (.iinc 2 1, 3) := by decide +kernel
theorem dX2_river_56 : decode cX2_river 56 = .ok (.goto (-17), 3) := by decide +kernel
theorem dX2_river_59 : decode cX2_river 59 = .ok (.aload_n 0, 1) := by decide +kernel
theorem dX2_river_60 : decode cX2_river 60 = .ok (.getfield 7, 3) := by decide +kernel
theorem dX2_river_63 : decode cX2_river 63 = .ok (.iconst 2, 1) := by decide +kernel
theorem dX2_river_64 : decode cX2_river 64 = .ok (.aload_n 0, 1) := by decide +kernel
theorem dX2_river_65 : decode cX2_river 65 = .ok (.getfield 114, 3) := by decide +kernel
theorem dX2_river_68 : decode cX2_river 68 = .ok (.iastore, 1) := by decide +kernel
theorem dX2_river_69 : decode cX2_river 69 = .ok (.aload_n 0, 1) := by decide +kernel
theorem dX2_river_70 : decode cX2_river 70 = .ok (.aload_n 0, 1) := by decide +kernel
theorem dX2_river_71 : decode cX2_river 71 = .ok (.getfield 117, 3) := by decide +kernel
theorem dX2_river_74 : decode cX2_river 74 = .ok (.putfield 136, 3) := by decide +kernel
theorem dX2_river_77 : decode cX2_river 77 = .ok (.iconst 0, 1) := by decide +kernel
theorem dX2_river_78 : decode cX2_river 78 = .ok (.istore_n 2, 1) := by decide +kernel
theorem dX2_river_79 : decode cX2_river 79 = .ok (.iload_n 2, 1) := by decide +kernel
theorem dX2_river_80 : decode cX2_river 80 = .ok (.aload_n 0, 1) := by decide +kernel
theorem dX2_river_81 : decode cX2_river 81 = .ok (.getfield 136, 3) := by decide +kernel
theorem dX2_river_84 : decode cX2_river 84 = .ok (.if_icmp .ge 60, 3) := by decide +kernel
theorem dX2_river_87 : decode cX2_river 87 = .ok (.aload_n 0, 1) := by decide +kernel
theorem dX2_river_88 : decode cX2_river 88 = .ok (.getfield 13, 3) := by decide +kernel
theorem dX2_river_91 : decode cX2_river 91 = .ok (.iload_n 2, 1) := by decide +kernel
theorem dX2_river_92 : decode cX2_river 92 = .ok (.aload_n 0, 1) := by decide +kernel
theorem dX2_river_93 : decode cX2_river 93 = .ok (.getfield 35, 3) := by decide +kernel
theorem dX2_river_96 : decode cX2_river 96 = .ok (.iconst 3, 1) := by decide +kernel
theorem dX2_river_97 : decode cX2_river 97 = .ok (.iload_n 2, 1) := by decide +kernel
theorem dX2_river_98 : decode cX2_river 98 = .ok (.imul, 1) := by decide +kernel
theorem dX2_river_99 : decode cX2_river 99 = .ok (.iaload, 1) := by decide +kernel
theorem dX2_river_100 : decode cX2_river 100 = .ok (.iastore, 1) := by decide +kernel
theorem dX2_river_101 : decode cX2_river 101 = .ok (.aload_n 0, 1) := by decide +kernel
theorem dX2_river_102 : decode cX2_river 102 = .ok (.getfield 7, 3) := by decide +kernel
theorem dX2_river_105 : decode cX2_river 105 = .ok (.iconst 3, 1) := by decide +kernel
theorem dX2_river_106 : decode cX2_river 106 = .ok (.iload_n 2, 1) := by decide +kernel
theorem dX2_river_107 : decode cX2_river 107 = .ok (.iadd, 1) := by decide +kernel
theorem dX2_river_108 : decode cX2_river 108 = .ok (.aload_n 0, 1) := by decide +kernel
theorem dX2_river_109 : decode cX2_river 109 = .ok (.getfield 35, 3) := by decide +kernel
theorem dX2_river_112 : decode cX2_river 112 = .ok (.iconst 3, 1) := by decide +kernel
theorem dX2_river_113 : decode cX2_river 113 = .ok (.iload_n 2, 1) := by decide +kernel
theorem dX2_river_114 : decode cX2_river 114 = .ok (.imul, 1) := by decide +kernel
theorem dX2_river_115 : decode cX2_river 115 = .ok (.iconst 1, 1) := by decide +kernel
theorem dX2_river_116 : decode cX2_river 116 = .ok (.iadd, 1) := by decide +kernel
theorem dX2_river_117 : decode cX2_river 117 = .ok (.iaload, 1) := by decide +kernel
theorem dX2_river_118 : decode cX2_river 118 = .ok (.iastore, 1) := by decide +kernel
theorem dX2_river_119 : decode cX2_river 119 = .ok (.aload_n 0, 1) := by decide +kernel
theorem dX2_river_120 : decode cX2_river 120 = .ok (.getfield 7, 3) := by decide +kernel
theorem dX2_river_123 : decode cX2_river 123 = .ok (.bipush 9, 2) := by decide +kernel
theorem dX2_river_125 : decode cX2_river 125 = .ok (.iload_n 2, 1) := by decide +kernel
theorem dX2_river_126 : decode cX2_river 126 = .ok (.iadd, 1) := by decide +kernel
theorem dX2_river_127 : decode cX2_river 127 = .ok (.aload_n 0, 1) := by decide +kernel
theorem dX2_river_128 : decode cX2_river 128 = .ok (.getfield 35, 3) := by decide +kernel
theorem dX2_river_131 : decode cX2_river 131 = .ok (.iconst 3, 1) := by decide +kernel
theorem dX2_river_132 : decode cX2_river 132 = .ok (.iload_n 2, 1) := by decide +kernel
theorem dX2_river_133 : decode cX2_river 133 = .ok (.imul, 1) := by decide +kernel
theorem dX2_river_134 : decode cX2_river 134 = .ok (.iconst 2, 1) := by decide +kernel
theorem dX2_river_135 : decode cX2_river 135 = .ok (.iadd, 1) := by decide +kernel
theorem dX2_river_136 : decode cX2_river 136 = .ok (.iaload, 1) := by decide +kernel
theorem dX2_river_137 : decode cX2_river 137 = .ok (.iastore, 1) := by decide +kernel
theorem dX2_river_138 : decode cX2_river 138 = .ok (.iinc 2 1, 3) := by decide +kernel
theorem dX2_river_141 : decode cX2_river 141 = .ok (.goto (-62), 3) := by decide +kernel
theorem dX2_river_144 : decode cX2_river 144 = .ok (.iconst 1, 1) := by decide +kernel
theorem dX2_river_145 : decode cX2_river 145 = .ok (.istore_n 2, 1) := by decide +kernel
theorem dX2_river_146 : decode cX2_river 146 = .ok (.iload_n 2, 1) := by decide +kernel
theorem dX2_river_147 : decode cX2_river 147 = .ok (.iconst 4, 1) := by decide +kernel
theorem dX2_river_148 : decode cX2_river 148 = .ok (.if_icmp .ge 22, 3) := by decide +kernel
theorem dX2_river_151 : decode cX2_river 151 = .ok (.aload_n 0, 1) := by decide +kernel
theorem dX2_river_152 : decode cX2_river 152 = .ok (.getfield 7, 3) := by decide +kernel
theorem dX2_river_155 : decode cX2_river 155 = .ok (.sipush 821, 3) := by decide +kernel
theorem dX2_river_158 : decode cX2_river 158 = .ok (.iload_n 2, 1) := by decide +kernel
theorem dX2_river_159 : decode cX2_river 159 = .ok (.imul, 1) := by decide +kernel
theorem dX2_river_160 : decode cX2_river 160 = .ok (.iconst 0, 1) := by decide +kernel
theorem dX2_river_161 : decode cX2_river 161 = .ok (.iadd, 1) := by decide +kernel
theorem dX2_river_162 : decode cX2_river 162 = .ok (.iconst (-1), 1) := by decide +kernel
theorem dX2_river_163 : decode cX2_river 163 = .ok (.iastore, 1) := by decide +kernel
theorem dX2_river_164 : decode cX2_river 164 = .ok (.iinc 2 1, 3) := by decide +kernel
theorem dX2_river_167 : decode cX2_river 167 = .ok (.goto (-21), 3) := by decide +kernel
theorem dX2_river_170 : decode cX2_river 170 = .ok (.aload_n 0, 1) := by decide +kernel
theorem dX2_river_171 : decode cX2_river 171 = .ok (.getfield 136, 3) := by decide +kernel
theorem dX2_river_174 : decode cX2_river 174 = .ok (.ireturn, 1) := by decide +kernel
theorem dX2_isOne_0 : decode cX2_isOne 0 = .ok (.iload_n 1, 1) := by decide +kernel
theorem dX2_isOne_1 : decode cX2_isOne 1 = .ok (.i2l, 1) := by decide +kernel
theorem dX2_isOne_2 : decode cX2_isOne 2 = .ok (.lconst 0, 1) := by decide +kernel
theorem dX2_isOne_3 : decode cX2_isOne 3 = .ok (.aload_n 0, 1) := by decide +kernel
theorem dX2_isOne_4 : decode cX2_isOne 4 = .ok (.getfield 136, 3) := by decide +kernel
theorem dX2_isOne_7 : decode cX2_isOne 7 = .ok (.iconst 1, 1) := by decide +kernel
theorem dX2_isOne_8 : decode cX2_isOne 8 = .ok (.isub, 1) := by decide +kernel
theorem dX2_isOne_9 : decode cX2_isOne 9 = .ok (.i2l, 1) := by decide +kernel
theorem dX2_isOne_10 : decode cX2_isOne 10 = .ok (.invokestatic 59, 3) := by decide +kernel
theorem dX2_isOne_13 : decode cX2_isOne 13 = .ok (.ireturn, 1) := by decide +kernel
theorem dX2_apart_0 : decode cX2_apart 0 = .ok (.iload_n 0, 1) := by decide +kernel
theorem dX2_apart_1 : decode cX2_apart 1 = .ok (.iload_n 1, 1) := by decide +kernel
theorem dX2_apart_2 : decode cX2_apart 2 = .ok (.if_icmp .le 9, 3) := by decide +kernel
theorem dX2_apart_5 : decode cX2_apart 5 = .ok (.iload_n 0, 1) := by decide +kernel
theorem dX2_apart_6 : decode cX2_apart 6 = .ok (.iload_n 1, 1) := by decide +kernel
theorem dX2_apart_7 : decode cX2_apart 7 = .ok (.isub, 1) := by decide +kernel
theorem dX2_apart_8 : decode cX2_apart 8 = .ok (.goto 6, 3) := by decide +kernel
theorem dX2_apart_11 : decode cX2_apart 11 = .ok (.iload_n 1, 1) := by decide +kernel
theorem dX2_apart_12 : decode cX2_apart 12 = .ok (.iload_n 0, 1) := by decide +kernel
theorem dX2_apart_13 : decode cX2_apart 13 = .ok (.isub, 1) := by decide +kernel
theorem dX2_apart_14 : decode cX2_apart 14 = .ok (.ireturn, 1) := by decide +kernel
theorem dX2_daresBy_0 : decode cX2_daresBy 0 = .ok (.iload_n 1, 1) := by decide +kernel
theorem dX2_daresBy_1 : decode cX2_daresBy 1 = .ok (.iconst 5, 1) := by decide +kernel
theorem dX2_daresBy_2 : decode cX2_daresBy 2 = .ok (.if_icmp .ge 7, 3) := by decide +kernel
theorem dX2_daresBy_5 : decode cX2_daresBy 5 = .ok (.iconst 0, 1) := by decide +kernel
theorem dX2_daresBy_6 : decode cX2_daresBy 6 = .ok (.goto 4, 3) := by decide +kernel
theorem dX2_daresBy_9 : decode cX2_daresBy 9 = .ok (.iload_n 1, 1) := by decide +kernel
theorem dX2_daresBy_10 : decode cX2_daresBy 10 = .ok (.istore 4, 2) := by decide +kernel
theorem dX2_daresBy_12 : decode cX2_daresBy 12 = .ok (.iload_n 0, 1) := by decide +kernel
theorem dX2_daresBy_13 : decode cX2_daresBy 13 = .ok (.tableswitch 82 1 5 #[35, 49, 82, 52, 65], 35) := by decide +kernel
theorem dX2_daresBy_48 : decode cX2_daresBy 48 = .ok (.iload_n 2, 1) := by decide +kernel
theorem dX2_daresBy_49 : decode cX2_daresBy 49 = .ok (.iconst 2, 1) := by decide +kernel
theorem dX2_daresBy_50 : decode cX2_daresBy 50 = .ok (.irem, 1) := by decide +kernel
theorem dX2_daresBy_51 : decode cX2_daresBy 51 = .ok (.ifCond .ne 9, 3) := by decide +kernel
theorem dX2_daresBy_54 : decode cX2_daresBy 54 = .ok (.iconst 2, 1) := by decide +kernel
theorem dX2_daresBy_55 : decode cX2_daresBy 55 = .ok (.iload_n 1, 1) := by decide +kernel
theorem dX2_daresBy_56 : decode cX2_daresBy 56 = .ok (.imul, 1) := by decide +kernel
theorem dX2_daresBy_57 : decode cX2_daresBy 57 = .ok (.goto 4, 3) := by decide +kernel
theorem dX2_daresBy_60 : decode cX2_daresBy 60 = .ok (.iload_n 1, 1) := by decide +kernel
theorem dX2_daresBy_61 : decode cX2_daresBy 61 = .ok (.ireturn, 1) := by decide +kernel
theorem dX2_daresBy_62 : decode cX2_daresBy 62 = .ok (.iload 4, 2) := by decide +kernel
theorem dX2_daresBy_64 : decode cX2_daresBy 64 = .ok (.ireturn, 1) := by decide +kernel
theorem dX2_daresBy_65 : decode cX2_daresBy 65 = .ok (.iload_n 1, 1) := by decide +kernel
theorem dX2_daresBy_66 : decode cX2_daresBy 66 = .ok (.iload_n 3, 1) := by decide +kernel
theorem dX2_daresBy_67 : decode cX2_daresBy 67 = .ok (.iconst 3, 1) := by decide +kernel
theorem dX2_daresBy_68 : decode cX2_daresBy 68 = .ok (.if_icmp .ge 7, 3) := by decide +kernel
theorem dX2_daresBy_71 : decode cX2_daresBy 71 = .ok (.iload_n 3, 1) := by decide +kernel
theorem dX2_daresBy_72 : decode cX2_daresBy 72 = .ok (.goto 4, 3) := by decide +kernel
theorem dX2_daresBy_75 : decode cX2_daresBy 75 = .ok (.iconst 3, 1) := by decide +kernel
theorem dX2_daresBy_76 : decode cX2_daresBy 76 = .ok (.iadd, 1) := by decide +kernel
theorem dX2_daresBy_77 : decode cX2_daresBy 77 = .ok (.ireturn, 1) := by decide +kernel
theorem dX2_daresBy_78 : decode cX2_daresBy 78 = .ok (.iload 4, 2) := by decide +kernel
theorem dX2_daresBy_80 : decode cX2_daresBy 80 = .ok (.bipush 10, 2) := by decide +kernel
theorem dX2_daresBy_82 : decode cX2_daresBy 82 = .ok (.if_icmp .ge 11, 3) := by decide +kernel
theorem dX2_daresBy_85 : decode cX2_daresBy 85 = .ok (.bipush 10, 2) := by decide +kernel
theorem dX2_daresBy_87 : decode cX2_daresBy 87 = .ok (.iload 4, 2) := by decide +kernel
theorem dX2_daresBy_89 : decode cX2_daresBy 89 = .ok (.isub, 1) := by decide +kernel
theorem dX2_daresBy_90 : decode cX2_daresBy 90 = .ok (.goto 4, 3) := by decide +kernel
theorem dX2_daresBy_93 : decode cX2_daresBy 93 = .ok (.iconst 0, 1) := by decide +kernel
theorem dX2_daresBy_94 : decode cX2_daresBy 94 = .ok (.ireturn, 1) := by decide +kernel
theorem dX2_daresBy_95 : decode cX2_daresBy 95 = .ok (.iload_n 1, 1) := by decide +kernel
theorem dX2_daresBy_96 : decode cX2_daresBy 96 = .ok (.ireturn, 1) := by decide +kernel
theorem dX2_farOf_0 : decode cX2_farOf 0 = .ok (.aload_n 0, 1) := by decide +kernel
theorem dX2_farOf_1 : decode cX2_farOf 1 = .ok (.getfield 7, 3) := by decide +kernel
theorem dX2_farOf_4 : decode cX2_farOf 4 = .ok (.iload_n 1, 1) := by decide +kernel
theorem dX2_farOf_5 : decode cX2_farOf 5 = .ok (.iconst 3, 1) := by decide +kernel
theorem dX2_farOf_6 : decode cX2_farOf 6 = .ok (.iadd, 1) := by decide +kernel
theorem dX2_farOf_7 : decode cX2_farOf 7 = .ok (.iload_n 2, 1) := by decide +kernel
theorem dX2_farOf_8 : decode cX2_farOf 8 = .ok (.iadd, 1) := by decide +kernel
theorem dX2_farOf_9 : decode cX2_farOf 9 = .ok (.iaload, 1) := by decide +kernel
theorem dX2_farOf_10 : decode cX2_farOf 10 = .ok (.aload_n 0, 1) := by decide +kernel
theorem dX2_farOf_11 : decode cX2_farOf 11 = .ok (.getfield 7, 3) := by decide +kernel
theorem dX2_farOf_14 : decode cX2_farOf 14 = .ok (.iload_n 1, 1) := by decide +kernel
theorem dX2_farOf_15 : decode cX2_farOf 15 = .ok (.iconst 2, 1) := by decide +kernel
theorem dX2_farOf_16 : decode cX2_farOf 16 = .ok (.iadd, 1) := by decide +kernel
theorem dX2_farOf_17 : decode cX2_farOf 17 = .ok (.iaload, 1) := by decide +kernel
theorem dX2_farOf_18 : decode cX2_farOf 18 = .ok (.invokestatic 139, 3) := by decide +kernel
theorem dX2_farOf_21 : decode cX2_farOf 21 = .ok (.ireturn, 1) := by decide +kernel
theorem dX2_daresIn_0 : decode cX2_daresIn 0 = .ok (.aload_n 0, 1) := by decide +kernel
theorem dX2_daresIn_1 : decode cX2_daresIn 1 = .ok (.getfield 13, 3) := by decide +kernel
theorem dX2_daresIn_4 : decode cX2_daresIn 4 = .ok (.iload_n 2, 1) := by decide +kernel
theorem dX2_daresIn_5 : decode cX2_daresIn 5 = .ok (.iaload, 1) := by decide +kernel
theorem dX2_daresIn_6 : decode cX2_daresIn 6 = .ok (.aload_n 0, 1) := by decide +kernel
theorem dX2_daresIn_7 : decode cX2_daresIn 7 = .ok (.getfield 7, 3) := by decide +kernel
theorem dX2_daresIn_10 : decode cX2_daresIn 10 = .ok (.iload_n 1, 1) := by decide +kernel
theorem dX2_daresIn_11 : decode cX2_daresIn 11 = .ok (.bipush 9, 2) := by decide +kernel
theorem dX2_daresIn_13 : decode cX2_daresIn 13 = .ok (.iadd, 1) := by decide +kernel
theorem dX2_daresIn_14 : decode cX2_daresIn 14 = .ok (.iload_n 2, 1) := by decide +kernel
theorem dX2_daresIn_15 : decode cX2_daresIn 15 = .ok (.iadd, 1) := by decide +kernel
theorem dX2_daresIn_16 : decode cX2_daresIn 16 = .ok (.iaload, 1) := by decide +kernel
theorem dX2_daresIn_17 : decode cX2_daresIn 17 = .ok (.aload_n 0, 1) := by decide +kernel
theorem dX2_daresIn_18 : decode cX2_daresIn 18 = .ok (.getfield 7, 3) := by decide +kernel
theorem dX2_daresIn_21 : decode cX2_daresIn 21 = .ok (.iload_n 1, 1) := by decide +kernel
theorem dX2_daresIn_22 : decode cX2_daresIn 22 = .ok (.iconst 1, 1) := by decide +kernel
theorem dX2_daresIn_23 : decode cX2_daresIn 23 = .ok (.iadd, 1) := by decide +kernel
theorem dX2_daresIn_24 : decode cX2_daresIn 24 = .ok (.iaload, 1) := by decide +kernel
theorem dX2_daresIn_25 : decode cX2_daresIn 25 = .ok (.aload_n 0, 1) := by decide +kernel
theorem dX2_daresIn_26 : decode cX2_daresIn 26 = .ok (.iload_n 1, 1) := by decide +kernel
theorem dX2_daresIn_27 : decode cX2_daresIn 27 = .ok (.iload_n 2, 1) := by decide +kernel
theorem dX2_daresIn_28 : decode cX2_daresIn 28 = .ok (.invokevirtual 142, 3) := by decide +kernel
theorem dX2_daresIn_31 : decode cX2_daresIn 31 = .ok (.invokestatic 145, 3) := by decide +kernel
theorem dX2_daresIn_34 : decode cX2_daresIn 34 = .ok (.ireturn, 1) := by decide +kernel
theorem dX2_boldest_0 : decode cX2_boldest 0 = .ok (.bipush (-9), 2) := by decide +kernel
theorem dX2_boldest_2 : decode cX2_boldest 2 = .ok (.istore_n 3, 1) := by decide +kernel
theorem dX2_boldest_3 : decode cX2_boldest 3 = .ok (.iconst 0, 1) := by decide +kernel
theorem dX2_boldest_4 : decode cX2_boldest 4 = .ok (.istore 4, 2) := by decide +kernel
theorem dX2_boldest_6 : decode cX2_boldest 6 = .ok (.iconst 0, 1) := by decide +kernel
theorem dX2_boldest_7 : decode cX2_boldest 7 = .ok (.istore 5, 2) := by decide +kernel
theorem dX2_boldest_9 : decode cX2_boldest 9 = .ok (.iload 5, 2) := by decide +kernel
theorem dX2_boldest_11 : decode cX2_boldest 11 = .ok (.aload_n 0, 1) := by decide +kernel
theorem dX2_boldest_12 : decode cX2_boldest 12 = .ok (.getfield 136, 3) := by decide +kernel
theorem dX2_boldest_15 : decode cX2_boldest 15 = .ok (.if_icmp .ge 100, 3) := by decide +kernel
theorem dX2_boldest_18 : decode cX2_boldest 18 = .ok (.iload_n 2, 1) := by decide +kernel
theorem dX2_boldest_19 : decode cX2_boldest 19 = .ok (.iload 5, 2) := by decide +kernel
theorem dX2_boldest_21 : decode cX2_boldest 21 = .ok (.invokestatic 149, 3) := by decide +kernel
theorem dX2_boldest_24 : decode cX2_boldest 24 = .ok (.ifCond .eq 7, 3) := by decide +kernel
theorem dX2_boldest_27 : decode cX2_boldest 27 = .ok (.iconst 0, 1) := by decide +kernel
theorem dX2_boldest_28 : decode cX2_boldest 28 = .ok (.goto 10, 3) := by decide +kernel
theorem dX2_boldest_31 : decode cX2_boldest 31 = .ok (.aload_n 0, 1) := by decide +kernel
theorem dX2_boldest_32 : decode cX2_boldest 32 = .ok (.iload_n 1, 1) := by decide +kernel
theorem dX2_boldest_33 : decode cX2_boldest 33 = .ok (.iload 5, 2) := by decide +kernel
theorem dX2_boldest_35 : decode cX2_boldest 35 = .ok (.invokevirtual 153, 3) := by decide +kernel
theorem dX2_boldest_38 : decode cX2_boldest 38 = .ok (.istore 6, 2) := by decide +kernel
theorem dX2_boldest_40 : decode cX2_boldest 40 = .ok (.iload 6, 2) := by decide +kernel
theorem dX2_boldest_42 : decode cX2_boldest 42 = .ok (.iload 4, 2) := by decide +kernel
theorem dX2_boldest_44 : decode cX2_boldest 44 = .ok (.if_icmp .gt 32, 3) := by decide +kernel
theorem dX2_boldest_47 : decode cX2_boldest 47 = .ok (.iload 6, 2) := by decide +kernel
theorem dX2_boldest_49 : decode cX2_boldest 49 = .ok (.iload 4, 2) := by decide +kernel
theorem dX2_boldest_51 : decode cX2_boldest 51 = .ok (.if_icmp .ne 29, 3) := by decide +kernel
theorem dX2_boldest_54 : decode cX2_boldest 54 = .ok (.iload_n 3, 1) := by decide +kernel
theorem dX2_boldest_55 : decode cX2_boldest 55 = .ok (.bipush (-9), 2) := by decide +kernel
theorem dX2_boldest_57 : decode cX2_boldest 57 = .ok (.if_icmp .eq 23, 3) := by decide +kernel
theorem dX2_boldest_60 : decode cX2_boldest 60 = .ok (.aload_n 0, 1) := by decide +kernel
theorem dX2_boldest_61 : decode cX2_boldest 61 = .ok (.iload_n 1, 1) := by decide +kernel
theorem dX2_boldest_62 : decode cX2_boldest 62 = .ok (.iload 5, 2) := by decide +kernel
theorem dX2_boldest_64 : decode cX2_boldest 64 = .ok (.invokevirtual 142, 3) := by decide +kernel
theorem dX2_boldest_67 : decode cX2_boldest 67 = .ok (.aload_n 0, 1) := by decide +kernel
theorem dX2_boldest_68 : decode cX2_boldest 68 = .ok (.iload_n 1, 1) := by decide +kernel
theorem dX2_boldest_69 : decode cX2_boldest 69 = .ok (.iload_n 3, 1) := by decide +kernel
theorem dX2_boldest_70 : decode cX2_boldest 70 = .ok (.invokevirtual 142, 3) := by decide +kernel
theorem dX2_boldest_73 : decode cX2_boldest 73 = .ok (.if_icmp .ge 7, 3) := by decide +kernel
theorem dX2_boldest_76 : decode cX2_boldest 76 = .ok (.iconst 1, 1) := by decide +kernel
theorem dX2_boldest_77 : decode cX2_boldest 77 = .ok (.goto 4, 3) := by decide +kernel
theorem dX2_boldest_80 : decode cX2_boldest 80 = .ok (.iconst 0, 1) := by decide +kernel
theorem dX2_boldest_81 : decode cX2_boldest 81 = .ok (.istore 7, 2) := by decide +kernel
theorem dX2_boldest_83 : decode cX2_boldest 83 = .ok (.iload 7, 2) := by decide +kernel
theorem dX2_boldest_85 : decode cX2_boldest 85 = .ok (.ifCond .eq 8, 3) := by decide +kernel
theorem dX2_boldest_88 : decode cX2_boldest 88 = .ok (.iload 5, 2) := by decide +kernel
theorem dX2_boldest_90 : decode cX2_boldest 90 = .ok (.goto 4, 3) := by decide +kernel
theorem dX2_boldest_93 : decode cX2_boldest 93 = .ok (.iload_n 3, 1) := by decide +kernel
theorem dX2_boldest_94 : decode cX2_boldest 94 = .ok (.istore_n 3, 1) := by decide +kernel
theorem dX2_boldest_95 : decode cX2_boldest 95 = .ok (.iload 7, 2) := by decide +kernel
theorem dX2_boldest_97 : decode cX2_boldest 97 = .ok (.ifCond .eq 8, 3) := by decide +kernel
theorem dX2_boldest_100 : decode cX2_boldest 100 = .ok (.iload 6, 2) := by decide +kernel
theorem dX2_boldest_102 : decode cX2_boldest 102 = .ok (.goto 5, 3) := by decide +kernel
theorem dX2_boldest_105 : decode cX2_boldest 105 = .ok (.iload 4, 2) := by decide +kernel
theorem dX2_boldest_107 : decode cX2_boldest 107 = .ok (.istore 4, 2) := by decide +kernel
theorem dX2_boldest_109 : decode cX2_boldest 109 = .ok (.iinc 5 1, 3) := by decide +kernel
theorem dX2_boldest_112 : decode cX2_boldest 112 = .ok (.goto (-103), 3) := by decide +kernel
theorem dX2_boldest_115 : decode cX2_boldest 115 = .ok (.iload_n 3, 1) := by decide +kernel
theorem dX2_boldest_116 : decode cX2_boldest 116 = .ok (.ireturn, 1) := by decide +kernel
theorem dX2_fades_0 : decode cX2_fades 0 = .ok (.aload_n 0, 1) := by decide +kernel
theorem dX2_fades_1 : decode cX2_fades 1 = .ok (.getfield 13, 3) := by decide +kernel
theorem dX2_fades_4 : decode cX2_fades 4 = .ok (.iload_n 1, 1) := by decide +kernel
theorem dX2_fades_5 : decode cX2_fades 5 = .ok (.iaload, 1) := by decide +kernel
theorem dX2_fades_6 : decode cX2_fades 6 = .ok (.iconst 3, 1) := by decide +kernel
theorem dX2_fades_7 : decode cX2_fades 7 = .ok (.if_icmp .eq 13, 3) := by decide +kernel
theorem dX2_fades_10 : decode cX2_fades 10 = .ok (.aload_n 0, 1) := by decide +kernel
theorem dX2_fades_11 : decode cX2_fades 11 = .ok (.getfield 13, 3) := by decide +kernel
theorem dX2_fades_14 : decode cX2_fades 14 = .ok (.iload_n 1, 1) := by decide +kernel
theorem dX2_fades_15 : decode cX2_fades 15 = .ok (.iaload, 1) := by decide +kernel
theorem dX2_fades_16 : decode cX2_fades 16 = .ok (.iconst 4, 1) := by decide +kernel
theorem dX2_fades_17 : decode cX2_fades 17 = .ok (.if_icmp .ne 7, 3) := by decide +kernel
theorem dX2_fades_20 : decode cX2_fades 20 = .ok (.iconst 0, 1) := by decide +kernel
theorem dX2_fades_21 : decode cX2_fades 21 = .ok (.goto 28, 3) := by decide +kernel
theorem dX2_fades_24 : decode cX2_fades 24 = .ok (.aload_n 0, 1) := by decide +kernel
theorem dX2_fades_25 : decode cX2_fades 25 = .ok (.getfield 13, 3) := by decide +kernel
theorem dX2_fades_28 : decode cX2_fades 28 = .ok (.iload_n 1, 1) := by decide +kernel
theorem dX2_fades_29 : decode cX2_fades 29 = .ok (.iaload, 1) := by decide +kernel
theorem dX2_fades_30 : decode cX2_fades 30 = .ok (.iconst 2, 1) := by decide +kernel
theorem dX2_fades_31 : decode cX2_fades 31 = .ok (.if_icmp .eq 13, 3) := by decide +kernel
theorem dX2_fades_34 : decode cX2_fades 34 = .ok (.aload_n 0, 1) := by decide +kernel
theorem dX2_fades_35 : decode cX2_fades 35 = .ok (.getfield 13, 3) := by decide +kernel
theorem dX2_fades_38 : decode cX2_fades 38 = .ok (.iload_n 1, 1) := by decide +kernel
theorem dX2_fades_39 : decode cX2_fades 39 = .ok (.iaload, 1) := by decide +kernel
theorem dX2_fades_40 : decode cX2_fades 40 = .ok (.iconst 5, 1) := by decide +kernel
theorem dX2_fades_41 : decode cX2_fades 41 = .ok (.if_icmp .ne 7, 3) := by decide +kernel
theorem dX2_fades_44 : decode cX2_fades 44 = .ok (.iconst 2, 1) := by decide +kernel
theorem dX2_fades_45 : decode cX2_fades 45 = .ok (.goto 4, 3) := by decide +kernel
theorem dX2_fades_48 : decode cX2_fades 48 = .ok (.iconst 1, 1) := by decide +kernel
theorem dX2_fades_49 : decode cX2_fades 49 = .ok (.ireturn, 1) := by decide +kernel
theorem dX2_passes_0 : decode cX2_passes 0 = .ok (.aload_n 0, 1) := by decide +kernel
theorem dX2_passes_1 : decode cX2_passes 1 = .ok (.iload_n 1, 1) := by decide +kernel
theorem dX2_passes_2 : decode cX2_passes 2 = .ok (.iconst 0, 1) := by decide +kernel
theorem dX2_passes_3 : decode cX2_passes 3 = .ok (.invokevirtual 156, 3) := by decide +kernel
theorem dX2_passes_6 : decode cX2_passes 6 = .ok (.istore_n 2, 1) := by decide +kernel
theorem dX2_passes_7 : decode cX2_passes 7 = .ok (.iload_n 2, 1) := by decide +kernel
theorem dX2_passes_8 : decode cX2_passes 8 = .ok (.bipush (-9), 2) := by decide +kernel
theorem dX2_passes_10 : decode cX2_passes 10 = .ok (.if_icmp .eq 36, 3) := by decide +kernel
theorem dX2_passes_13 : decode cX2_passes 13 = .ok (.aload_n 0, 1) := by decide +kernel
theorem dX2_passes_14 : decode cX2_passes 14 = .ok (.getfield 7, 3) := by decide +kernel
theorem dX2_passes_17 : decode cX2_passes 17 = .ok (.iload_n 1, 1) := by decide +kernel
theorem dX2_passes_18 : decode cX2_passes 18 = .ok (.iconst 2, 1) := by decide +kernel
theorem dX2_passes_19 : decode cX2_passes 19 = .ok (.iadd, 1) := by decide +kernel
theorem dX2_passes_20 : decode cX2_passes 20 = .ok (.aload_n 0, 1) := by decide +kernel
theorem dX2_passes_21 : decode cX2_passes 21 = .ok (.getfield 7, 3) := by decide +kernel
theorem dX2_passes_24 : decode cX2_passes 24 = .ok (.iload_n 1, 1) := by decide +kernel
theorem dX2_passes_25 : decode cX2_passes 25 = .ok (.iconst 3, 1) := by decide +kernel
theorem dX2_passes_26 : decode cX2_passes 26 = .ok (.iadd, 1) := by decide +kernel
theorem dX2_passes_27 : decode cX2_passes 27 = .ok (.iload_n 2, 1) := by decide +kernel
theorem dX2_passes_28 : decode cX2_passes 28 = .ok (.iadd, 1) := by decide +kernel
theorem dX2_passes_29 : decode cX2_passes 29 = .ok (.iaload, 1) := by decide +kernel
theorem dX2_passes_30 : decode cX2_passes 30 = .ok (.iastore, 1) := by decide +kernel
theorem dX2_passes_31 : decode cX2_passes 31 = .ok (.aload_n 0, 1) := by decide +kernel
theorem dX2_passes_32 : decode cX2_passes 32 = .ok (.getfield 7, 3) := by decide +kernel
theorem dX2_passes_35 : decode cX2_passes 35 = .ok (.iload_n 1, 1) := by decide +kernel
theorem dX2_passes_36 : decode cX2_passes 36 = .ok (.bipush 15, 2) := by decide +kernel
theorem dX2_passes_38 : decode cX2_passes 38 = .ok (.iadd, 1) := by decide +kernel
theorem dX2_passes_39 : decode cX2_passes 39 = .ok (.iload_n 2, 1) := by decide +kernel
theorem dX2_passes_40 : decode cX2_passes 40 = .ok (.iadd, 1) := by decide +kernel
theorem dX2_passes_41 : decode cX2_passes 41 = .ok (.dup2, 1) := by decide +kernel
theorem dX2_passes_42 : decode cX2_passes 42 = .ok (.iaload, 1) := by decide +kernel
theorem dX2_passes_43 : decode cX2_passes 43 = .ok (.iconst 1, 1) := by decide +kernel
theorem dX2_passes_44 : decode cX2_passes 44 = .ok (.iadd, 1) := by decide +kernel
theorem dX2_passes_45 : decode cX2_passes 45 = .ok (.iastore, 1) := by decide +kernel
theorem dX2_passes_46 : decode cX2_passes 46 = .ok (.iconst 0, 1) := by decide +kernel
theorem dX2_passes_47 : decode cX2_passes 47 = .ok (.istore_n 3, 1) := by decide +kernel
theorem dX2_passes_48 : decode cX2_passes 48 = .ok (.iload_n 3, 1) := by decide +kernel
theorem dX2_passes_49 : decode cX2_passes 49 = .ok (.aload_n 0, 1) := by decide +kernel
theorem dX2_passes_50 : decode cX2_passes 50 = .ok (.getfield 136, 3) := by decide +kernel
theorem dX2_passes_53 : decode cX2_passes 53 = .ok (.if_icmp .ge 59, 3) := by decide +kernel
theorem dX2_passes_56 : decode cX2_passes 56 = .ok (.aload_n 0, 1) := by decide +kernel
theorem dX2_passes_57 : decode cX2_passes 57 = .ok (.getfield 7, 3) := by decide +kernel
theorem dX2_passes_60 : decode cX2_passes 60 = .ok (.iload_n 1, 1) := by decide +kernel
theorem dX2_passes_61 : decode cX2_passes 61 = .ok (.bipush 9, 2) := by decide +kernel
theorem dX2_passes_63 : decode cX2_passes 63 = .ok (.iadd, 1) := by decide +kernel
theorem dX2_passes_64 : decode cX2_passes 64 = .ok (.iload_n 3, 1) := by decide +kernel
theorem dX2_passes_65 : decode cX2_passes 65 = .ok (.iadd, 1) := by decide +kernel
theorem dX2_passes_66 : decode cX2_passes 66 = .ok (.iaload, 1) := by decide +kernel
theorem dX2_passes_67 : decode cX2_passes 67 = .ok (.iload_n 3, 1) := by decide +kernel
theorem dX2_passes_68 : decode cX2_passes 68 = .ok (.iload_n 2, 1) := by decide +kernel
theorem dX2_passes_69 : decode cX2_passes 69 = .ok (.if_icmp .ne 7, 3) := by decide +kernel
theorem dX2_passes_72 : decode cX2_passes 72 = .ok (.iconst 2, 1) := by decide +kernel
theorem dX2_passes_73 : decode cX2_passes 73 = .ok (.goto 8, 3) := by decide +kernel
theorem dX2_passes_76 : decode cX2_passes 76 = .ok (.aload_n 0, 1) := by decide +kernel
theorem dX2_passes_77 : decode cX2_passes 77 = .ok (.iload_n 3, 1) := by decide +kernel
theorem dX2_passes_78 : decode cX2_passes 78 = .ok (.invokevirtual 159, 3) := by decide +kernel
theorem dX2_passes_81 : decode cX2_passes 81 = .ok (.isub, 1) := by decide +kernel
theorem dX2_passes_82 : decode cX2_passes 82 = .ok (.istore 4, 2) := by decide +kernel
theorem dX2_passes_84 : decode cX2_passes 84 = .ok (.aload_n 0, 1) := by decide +kernel
theorem dX2_passes_85 : decode cX2_passes 85 = .ok (.getfield 7, 3) := by decide +kernel
theorem dX2_passes_88 : decode cX2_passes 88 = .ok (.iload_n 1, 1) := by decide +kernel
theorem dX2_passes_89 : decode cX2_passes 89 = .ok (.bipush 9, 2) := by decide +kernel
theorem dX2_passes_91 : decode cX2_passes 91 = .ok (.iadd, 1) := by decide +kernel
theorem dX2_passes_92 : decode cX2_passes 92 = .ok (.iload_n 3, 1) := by decide +kernel
theorem dX2_passes_93 : decode cX2_passes 93 = .ok (.iadd, 1) := by decide +kernel
theorem dX2_passes_94 : decode cX2_passes 94 = .ok (.iload 4, 2) := by decide +kernel
theorem dX2_passes_96 : decode cX2_passes 96 = .ok (.ifCond .ge 7, 3) := by decide +kernel
theorem dX2_passes_99 : decode cX2_passes 99 = .ok (.iconst 0, 1) := by decide +kernel
theorem dX2_passes_100 : decode cX2_passes 100 = .ok (.goto 5, 3) := by decide +kernel
theorem dX2_passes_103 : decode cX2_passes 103 = .ok (.iload 4, 2) := by decide +kernel
theorem dX2_passes_105 : decode cX2_passes 105 = .ok (.iastore, 1) := by decide +kernel
theorem dX2_passes_106 : decode cX2_passes 106 = .ok (.iinc 3 1, 3) := by decide +kernel
theorem dX2_passes_109 : decode cX2_passes 109 = .ok (.goto (-61), 3) := by decide +kernel
theorem dX2_passes_112 : decode cX2_passes 112 = .ok (.aload_n 0, 1) := by decide +kernel
theorem dX2_passes_113 : decode cX2_passes 113 = .ok (.getfield 7, 3) := by decide +kernel
theorem dX2_passes_116 : decode cX2_passes 116 = .ok (.iload_n 1, 1) := by decide +kernel
theorem dX2_passes_117 : decode cX2_passes 117 = .ok (.iconst 1, 1) := by decide +kernel
theorem dX2_passes_118 : decode cX2_passes 118 = .ok (.iadd, 1) := by decide +kernel
theorem dX2_passes_119 : decode cX2_passes 119 = .ok (.dup2, 1) := by decide +kernel
theorem dX2_passes_120 : decode cX2_passes 120 = .ok (.iaload, 1) := by decide +kernel
theorem dX2_passes_121 : decode cX2_passes 121 = .ok (.iconst 1, 1) := by decide +kernel
theorem dX2_passes_122 : decode cX2_passes 122 = .ok (.iadd, 1) := by decide +kernel
theorem dX2_passes_123 : decode cX2_passes 123 = .ok (.iastore, 1) := by decide +kernel
theorem dX2_passes_124 : decode cX2_passes 124 = .ok (.iload_n 2, 1) := by decide +kernel
theorem dX2_passes_125 : decode cX2_passes 125 = .ok (.ireturn, 1) := by decide +kernel
theorem dX2_toldOf_0 : decode cX2_toldOf 0 = .ok (.iload_n 2, 1) := by decide +kernel
theorem dX2_toldOf_1 : decode cX2_toldOf 1 = .ok (.tableswitch 78 0 4 #[35, 42, 51, 61, 68], 35) := by decide +kernel
theorem dX2_toldOf_36 : decode cX2_toldOf 36 = .ok (.aload_n 0, 1) := by decide +kernel
theorem dX2_toldOf_37 : decode cX2_toldOf 37 = .ok (.getfield 13, 3) := by decide +kernel
theorem dX2_toldOf_40 : decode cX2_toldOf 40 = .ok (.iload_n 1, 1) := by decide +kernel
theorem dX2_toldOf_41 : decode cX2_toldOf 41 = .ok (.iaload, 1) := by decide +kernel
theorem dX2_toldOf_42 : decode cX2_toldOf 42 = .ok (.ireturn, 1) := by decide +kernel
theorem dX2_toldOf_43 : decode cX2_toldOf 43 = .ok (.aload_n 0, 1) := by decide +kernel
theorem dX2_toldOf_44 : decode cX2_toldOf 44 = .ok (.getfield 7, 3) := by decide +kernel
theorem dX2_toldOf_47 : decode cX2_toldOf 47 = .ok (.iconst 3, 1) := by decide +kernel
theorem dX2_toldOf_48 : decode cX2_toldOf 48 = .ok (.iload_n 1, 1) := by decide +kernel
theorem dX2_toldOf_49 : decode cX2_toldOf 49 = .ok (.iadd, 1) := by decide +kernel
theorem dX2_toldOf_50 : decode cX2_toldOf 50 = .ok (.iaload, 1) := by decide +kernel
theorem dX2_toldOf_51 : decode cX2_toldOf 51 = .ok (.ireturn, 1) := by decide +kernel
theorem dX2_toldOf_52 : decode cX2_toldOf 52 = .ok (.aload_n 0, 1) := by decide +kernel
theorem dX2_toldOf_53 : decode cX2_toldOf 53 = .ok (.getfield 7, 3) := by decide +kernel
theorem dX2_toldOf_56 : decode cX2_toldOf 56 = .ok (.bipush 9, 2) := by decide +kernel
theorem dX2_toldOf_58 : decode cX2_toldOf 58 = .ok (.iload_n 1, 1) := by decide +kernel
theorem dX2_toldOf_59 : decode cX2_toldOf 59 = .ok (.iadd, 1) := by decide +kernel
theorem dX2_toldOf_60 : decode cX2_toldOf 60 = .ok (.iaload, 1) := by decide +kernel
theorem dX2_toldOf_61 : decode cX2_toldOf 61 = .ok (.ireturn, 1) := by decide +kernel
theorem dX2_toldOf_62 : decode cX2_toldOf 62 = .ok (.aload_n 0, 1) := by decide +kernel
theorem dX2_toldOf_63 : decode cX2_toldOf 63 = .ok (.iconst 0, 1) := by decide +kernel
theorem dX2_toldOf_64 : decode cX2_toldOf 64 = .ok (.iload_n 1, 1) := by decide +kernel
theorem dX2_toldOf_65 : decode cX2_toldOf 65 = .ok (.invokevirtual 153, 3) := by decide +kernel
theorem dX2_toldOf_68 : decode cX2_toldOf 68 = .ok (.ireturn, 1) := by decide +kernel
theorem dX2_toldOf_69 : decode cX2_toldOf 69 = .ok (.aload_n 0, 1) := by decide +kernel
theorem dX2_toldOf_70 : decode cX2_toldOf 70 = .ok (.getfield 7, 3) := by decide +kernel
theorem dX2_toldOf_73 : decode cX2_toldOf 73 = .ok (.bipush 15, 2) := by decide +kernel
theorem dX2_toldOf_75 : decode cX2_toldOf 75 = .ok (.iload_n 1, 1) := by decide +kernel
theorem dX2_toldOf_76 : decode cX2_toldOf 76 = .ok (.iadd, 1) := by decide +kernel
theorem dX2_toldOf_77 : decode cX2_toldOf 77 = .ok (.iaload, 1) := by decide +kernel
theorem dX2_toldOf_78 : decode cX2_toldOf 78 = .ok (.ireturn, 1) := by decide +kernel
theorem dX2_toldOf_79 : decode cX2_toldOf 79 = .ok (.aload_n 0, 1) := by decide +kernel
theorem dX2_toldOf_80 : decode cX2_toldOf 80 = .ok (.iconst 0, 1) := by decide +kernel
theorem dX2_toldOf_81 : decode cX2_toldOf 81 = .ok (.iload_n 1, 1) := by decide +kernel
theorem dX2_toldOf_82 : decode cX2_toldOf 82 = .ok (.invokevirtual 142, 3) := by decide +kernel
theorem dX2_toldOf_85 : decode cX2_toldOf 85 = .ok (.ireturn, 1) := by decide +kernel
theorem dX2_one_0 : decode cX2_one 0 = .ok (.aload_n 0, 1) := by decide +kernel
theorem dX2_one_1 : decode cX2_one 1 = .ok (.iload_n 1, 1) := by decide +kernel
theorem dX2_one_2 : decode cX2_one 2 = .ok (.invokevirtual 162, 3) := by decide +kernel
theorem dX2_one_5 : decode cX2_one 5 = .ok (.ifCond .eq 28, 3) := by decide +kernel
theorem dX2_one_8 : decode cX2_one 8 = .ok (.iload_n 2, 1) := by decide +kernel
theorem dX2_one_9 : decode cX2_one 9 = .ok (.i2l, 1) := by decide +kernel
theorem dX2_one_10 : decode cX2_one 10 = .ok (.lconst 0, 1) := by decide +kernel
theorem dX2_one_11 : decode cX2_one 11 = .ok (.ldc2_w 57, 3) := by decide +kernel
theorem dX2_one_14 : decode cX2_one 14 = .ok (.invokestatic 59, 3) := by decide +kernel
theorem dX2_one_17 : decode cX2_one 17 = .ok (.ifCond .eq 16, 3) := by decide +kernel
theorem dX2_one_20 : decode cX2_one 20 = .ok (.aload_n 0, 1) := by decide +kernel
theorem dX2_one_21 : decode cX2_one 21 = .ok (.aload_n 0, 1) := by decide +kernel
theorem dX2_one_22 : decode cX2_one 22 = .ok (.iload_n 1, 1) := by decide +kernel
theorem dX2_one_23 : decode cX2_one 23 = .ok (.iload_n 2, 1) := by decide +kernel
theorem dX2_one_24 : decode cX2_one 24 = .ok (.invokevirtual 165, 3) := by decide +kernel
theorem dX2_one_27 : decode cX2_one 27 = .ok (.invokevirtual 81, 3) := by decide +kernel
theorem dX2_one_30 : decode cX2_one 30 = .ok (.goto 4, 3) := by decide +kernel
theorem dX2_one_33 : decode cX2_one 33 = .ok (.iconst (-1), 1) := by decide +kernel
theorem dX2_one_34 : decode cX2_one 34 = .ok (.ireturn, 1) := by decide +kernel
theorem fl_X2_7 : FLk RX2 7 2 0 := Or.inl (in_gd (i := 613) (by decide +kernel) rfl)
theorem fl_X2_136 : FLk RX2 136 2 1 := Or.inl (in_gd (i := 614) (by decide +kernel) rfl)
theorem fl_X2_13 : FLk RX2 13 2 2 := Or.inl (in_gd (i := 615) (by decide +kernel) rfl)
theorem mt_X2_apart : Cond.static yX2_apart ∈ gd_tbl ∧ Cond.initialized yX2_apart.cls ∈ gd_tbl ∧ Cond.code yX2_apart cX2_apart 2 (some .int) ∈ gd_tbl := ⟨in_gd (i := 808) (by decide +kernel) rfl, in_gd (i := 87) (by decide +kernel) rfl, in_gd (i := 809) (by decide +kernel) rfl⟩
theorem yo_X2_apart : yOk yX2_apart 2 := ⟨by decide, by decide, by decide +kernel⟩
theorem l_X2_139 : mlS RX2 139 yX2_apart cX2_apart 2 (some .int) := ⟨in_gd (i := 807) (by decide +kernel) rfl, mt_X2_apart⟩
theorem mt_X2_farOf : (Cond.instanceMethod yX2_farOf ∈ gd_tbl ∧ Cond.selects yX2_farOf.cls yX2_farOf yX2_farOf ∈ gd_tbl) ∧ Cond.initialized yX2_farOf.cls ∈ gd_tbl ∧ Cond.code yX2_farOf cX2_farOf 3 (some .int) ∈ gd_tbl := ⟨⟨in_gd (i := 805) (by decide +kernel) rfl, in_gd (i := 52) (by decide +kernel) rfl⟩, in_gd (i := 87) (by decide +kernel) rfl, in_gd (i := 806) (by decide +kernel) rfl⟩
theorem yo_X2_farOf : yOk yX2_farOf 2 := ⟨by decide, by decide, by decide +kernel⟩
theorem l_X2_142 : mlV RX2 142 yX2_farOf cX2_farOf 3 (some .int) := ⟨in_gd (i := 803) (by decide +kernel) rfl, mt_X2_farOf⟩
theorem mt_X2_daresBy : Cond.static yX2_daresBy ∈ gd_tbl ∧ Cond.initialized yX2_daresBy.cls ∈ gd_tbl ∧ Cond.code yX2_daresBy cX2_daresBy 5 (some .int) ∈ gd_tbl := ⟨in_gd (i := 811) (by decide +kernel) rfl, in_gd (i := 87) (by decide +kernel) rfl, in_gd (i := 812) (by decide +kernel) rfl⟩
theorem yo_X2_daresBy : yOk yX2_daresBy 4 := ⟨by decide, by decide, by decide +kernel⟩
theorem l_X2_145 : mlS RX2 145 yX2_daresBy cX2_daresBy 5 (some .int) := ⟨in_gd (i := 810) (by decide +kernel) rfl, mt_X2_daresBy⟩
theorem mt_X2_has : Cond.static yX2_has ∈ gd_tbl ∧ Cond.initialized yX2_has.cls ∈ gd_tbl ∧ Cond.code yX2_has cX2_has 2 (some .boolean) ∈ gd_tbl := ⟨in_gd (i := 842) (by decide +kernel) rfl, in_gd (i := 87) (by decide +kernel) rfl, in_gd (i := 843) (by decide +kernel) rfl⟩
theorem yo_X2_has : yOk yX2_has 2 := ⟨by decide, by decide, by decide +kernel⟩
theorem l_X2_149 : mlS RX2 149 yX2_has cX2_has 2 (some .boolean) := ⟨in_gd (i := 841) (by decide +kernel) rfl, mt_X2_has⟩
theorem mt_X2_daresIn : (Cond.instanceMethod yX2_daresIn ∈ gd_tbl ∧ Cond.selects yX2_daresIn.cls yX2_daresIn yX2_daresIn ∈ gd_tbl) ∧ Cond.initialized yX2_daresIn.cls ∈ gd_tbl ∧ Cond.code yX2_daresIn cX2_daresIn 3 (some .int) ∈ gd_tbl := ⟨⟨in_gd (i := 801) (by decide +kernel) rfl, in_gd (i := 51) (by decide +kernel) rfl⟩, in_gd (i := 87) (by decide +kernel) rfl, in_gd (i := 802) (by decide +kernel) rfl⟩
theorem yo_X2_daresIn : yOk yX2_daresIn 2 := ⟨by decide, by decide, by decide +kernel⟩
theorem l_X2_153 : mlV RX2 153 yX2_daresIn cX2_daresIn 3 (some .int) := ⟨in_gd (i := 799) (by decide +kernel) rfl, mt_X2_daresIn⟩
theorem mt_X2_boldest : (Cond.instanceMethod yX2_boldest ∈ gd_tbl ∧ Cond.selects yX2_boldest.cls yX2_boldest yX2_boldest ∈ gd_tbl) ∧ Cond.initialized yX2_boldest.cls ∈ gd_tbl ∧ Cond.code yX2_boldest cX2_boldest 8 (some .int) ∈ gd_tbl := ⟨⟨in_gd (i := 839) (by decide +kernel) rfl, in_gd (i := 57) (by decide +kernel) rfl⟩, in_gd (i := 87) (by decide +kernel) rfl, in_gd (i := 840) (by decide +kernel) rfl⟩
theorem yo_X2_boldest : yOk yX2_boldest 2 := ⟨by decide, by decide, by decide +kernel⟩
theorem l_X2_156 : mlV RX2 156 yX2_boldest cX2_boldest 8 (some .int) := ⟨in_gd (i := 837) (by decide +kernel) rfl, mt_X2_boldest⟩
theorem mt_X2_fades : (Cond.instanceMethod yX2_fades ∈ gd_tbl ∧ Cond.selects yX2_fades.cls yX2_fades yX2_fades ∈ gd_tbl) ∧ Cond.initialized yX2_fades.cls ∈ gd_tbl ∧ Cond.code yX2_fades cX2_fades 2 (some .int) ∈ gd_tbl := ⟨⟨in_gd (i := 846) (by decide +kernel) rfl, in_gd (i := 58) (by decide +kernel) rfl⟩, in_gd (i := 87) (by decide +kernel) rfl, in_gd (i := 847) (by decide +kernel) rfl⟩
theorem yo_X2_fades : yOk yX2_fades 1 := ⟨by decide, by decide, by decide +kernel⟩
theorem l_X2_159 : mlV RX2 159 yX2_fades cX2_fades 2 (some .int) := ⟨in_gd (i := 844) (by decide +kernel) rfl, mt_X2_fades⟩
theorem mt_X2_isOne : (Cond.instanceMethod yX2_isOne ∈ gd_tbl ∧ Cond.selects yX2_isOne.cls yX2_isOne yX2_isOne ∈ gd_tbl) ∧ Cond.initialized yX2_isOne.cls ∈ gd_tbl ∧ Cond.code yX2_isOne cX2_isOne 2 (some .boolean) ∈ gd_tbl := ⟨⟨in_gd (i := 793) (by decide +kernel) rfl, in_gd (i := 49) (by decide +kernel) rfl⟩, in_gd (i := 87) (by decide +kernel) rfl, in_gd (i := 794) (by decide +kernel) rfl⟩
theorem yo_X2_isOne : yOk yX2_isOne 1 := ⟨by decide, by decide, by decide +kernel⟩
theorem l_X2_162 : mlV RX2 162 yX2_isOne cX2_isOne 2 (some .boolean) := ⟨in_gd (i := 791) (by decide +kernel) rfl, mt_X2_isOne⟩
theorem mt_X2_toldOf : (Cond.instanceMethod yX2_toldOf ∈ gd_tbl ∧ Cond.selects yX2_toldOf.cls yX2_toldOf yX2_toldOf ∈ gd_tbl) ∧ Cond.initialized yX2_toldOf.cls ∈ gd_tbl ∧ Cond.code yX2_toldOf cX2_toldOf 3 (some .int) ∈ gd_tbl := ⟨⟨in_gd (i := 797) (by decide +kernel) rfl, in_gd (i := 50) (by decide +kernel) rfl⟩, in_gd (i := 87) (by decide +kernel) rfl, in_gd (i := 798) (by decide +kernel) rfl⟩
theorem yo_X2_toldOf : yOk yX2_toldOf 2 := ⟨by decide, by decide, by decide +kernel⟩
theorem l_X2_165 : mlV RX2 165 yX2_toldOf cX2_toldOf 3 (some .int) := ⟨in_gd (i := 795) (by decide +kernel) rfl, mt_X2_toldOf⟩
def fX2_river_L146 : Nat → Int → Mem → Option (Int × Mem)
  | 0, _, _ => none
  | n12 + 1, x10, μ11 =>
    if 4 ≤ x10 then
      some ((μ11 60 1), μ11)
    else
      grd (0 ≤ (w32 ((w32 (821 * x10)) + 0)) ∧ (w32 ((w32 (821 * x10)) + 0)) < 3305) <|
      mlet (wr μ11 61 ((w32 ((w32 (821 * x10)) + 0))).toNat (-1)) fun μ13 =>
      mlet (w32 (x10 + 1)) fun x14 =>
      fX2_river_L146 n12 x14 μ13
def fX2_river_L79 (K9 : Mem → Option (Int × Mem)) : Nat → Int → Mem → Option (Int × Mem)
  | 0, _, _ => none
  | n18 + 1, x16, μ17 =>
    if (μ17 60 1) ≤ x16 then
      K9 μ17
    else
      grd (0 ≤ (w32 (3 * x16)) ∧ (w32 (3 * x16)) < 18) <|
      grd (0 ≤ x16 ∧ x16 < 6) <|
      mlet (wr μ17 62 (x16).toNat (μ17 68 ((w32 (3 * x16))).toNat)) fun μ19 =>
      grd (0 ≤ (w32 ((w32 (3 * x16)) + 1)) ∧ (w32 ((w32 (3 * x16)) + 1)) < 18) <|
      grd (0 ≤ (w32 (3 + x16)) ∧ (w32 (3 + x16)) < 3305) <|
      mlet (wr μ19 61 ((w32 (3 + x16))).toNat (μ19 68 ((w32 ((w32 (3 * x16)) + 1))).toNat)) fun μ20 =>
      grd (0 ≤ (w32 ((w32 (3 * x16)) + 2)) ∧ (w32 ((w32 (3 * x16)) + 2)) < 18) <|
      grd (0 ≤ (w32 (9 + x16)) ∧ (w32 (9 + x16)) < 3305) <|
      mlet (wr μ20 61 ((w32 (9 + x16))).toNat (μ20 68 ((w32 ((w32 (3 * x16)) + 2))).toNat)) fun μ21 =>
      mlet (w32 (x16 + 1)) fun x22 =>
      fX2_river_L79 K9 n18 x22 μ21
def fX2_river_L39 (K5 : Mem → Option (Int × Mem)) : Nat → Int → Mem → Option (Int × Mem)
  | 0, _, _ => none
  | n26 + 1, x24, μ25 =>
    if 821 ≤ x24 then
      K5 μ25
    else
      grd (0 ≤ x24 ∧ x24 < 3305) <|
      mlet (wr μ25 61 (x24).toNat 0) fun μ27 =>
      mlet (w32 (x24 + 1)) fun x28 =>
      fX2_river_L39 K5 n26 x28 μ27
def fX2_river (p1 : Int) (μ : Mem) : Option (Int × Mem) :=
  (fX2_isText p1 μ).bind fun x1 =>
  if ¬ x1 = 0 then
    grd (0 ≤ p1 ∧ p1 < 4) <|
    if 0 ≤ (μ 65 (p1).toNat) then
      bnd2 (fX2_faultOf p1 μ) fun x2 μ3 =>
      if x2 = (-9) then
        mlet (fun (μ4 : Mem) =>
          mlet (wr μ4 61 2 (μ4 60 15)) fun μ6 =>
          mlet (wr μ6 60 1 (μ6 60 17)) fun μ7 =>
          mlet (fun (μ8 : Mem) =>
            fX2_river_L146 fuel 1 μ8
            ) fun (K9 : Mem → Option (Int × Mem)) =>
          fX2_river_L79 K9 fuel 0 μ7
          ) fun (K5 : Mem → Option (Int × Mem)) =>
        fX2_river_L39 K5 fuel 0 μ3
      else
        some ((-4), μ3)
    else
      bnd2 (fX2_find 1 μ) fun x31 μ32 =>
      some (x31, μ32)
  else
    some ((-1), μ)
theorem K_X2_river  (p1 : Int)  (μ : Mem) : Con yX2_river cX2_river 3 (some .int) 7 [.inr (.inr 60), .inl p1] μ (fX2_river p1 μ) wI := by
  refine con_of (own := RX2) (by decide) rfl (Nat.le_of_ble_eq_true rfl) ?_
  show Sim cX2_river 3 RX2 (7) (some .int) wI 0 [(0, .inr (.inr 60)), (1, .inl p1)] [] μ (fX2_river p1 μ)
  unfold fX2_river
  refine S_iload_n dX2_river_0 rfl ?_
  refine S_callS_I dX2_river_1 [.inl p1] (K_X2_isText p1 μ) l_X2_88 yo_X2_isText rfl rfl rfl (fun x1 => ?_)
  refine S_if_ne (tgt := 9) dX2_river_4 (by decide) (fun h34 => ?_) (fun h34 => ?_)
  · refine S_aload_n dX2_river_9 rfl ?_
    refine S_getR (c1 := 65) dX2_river_10 rfl fl_X2_22 rfl rfl rfl ?_
    refine S_iload_n dX2_river_13 rfl ?_
    refine S_iald (N := 4) dX2_river_14 rfl (by decide) rfl ?_
    refine S_if_ge (tgt := 24) dX2_river_15 (by decide) (fun h33 => ?_) (fun h33 => ?_)
    · refine S_aload_n dX2_river_24 rfl ?_
      refine S_iload_n dX2_river_25 rfl ?_
      refine S_callV_M2 dX2_river_26 [.inl p1] (K_X2_faultOf p1 μ) l_X2_133 yo_X2_faultOf rfl rfl rfl rfl rfl (fun x2 μ3 => ?_)
      refine S_bipush dX2_river_29 rfl (by decide) ?_
      refine S_ic_eq (tgt := 37) dX2_river_31 (by decide) (fun h30 => ?_) (fun h30 => ?_)
      · refine S_iconst dX2_river_37 rfl ?_
        refine S_istore_n (lv' := [(2, .inl 0), (0, .inr (.inr 60)), (1, .inl p1)]) dX2_river_38 rfl rfl ?_
        refine S_jn (fun (K5 : Mem → Option (Int × Mem)) => ∀ (μ4 : Mem), Sim cX2_river 3 RX2 (7) (some .int) wI 59 [(0, .inr (.inr 60))] [] μ4 (K5 μ4)) ?_ (fun K5 hK5 => ?_)
        · intro μ4
          refine S_aload_n dX2_river_59 rfl ?_
          refine S_getR (c1 := 61) dX2_river_60 rfl fl_X2_7 rfl rfl rfl ?_
          refine S_iconst dX2_river_63 rfl ?_
          refine S_aload_n dX2_river_64 rfl ?_
          refine S_getI dX2_river_65 rfl fl_X2_114 rfl rfl ?_
          refine S_iastK (k := 2) dX2_river_68 rfl (by decide) (by decide) (fun μ6 => ?_)
          refine S_aload_n dX2_river_69 rfl ?_
          refine S_aload_n dX2_river_70 rfl ?_
          refine S_getI dX2_river_71 rfl fl_X2_117 rfl rfl ?_
          refine S_putI dX2_river_74 rfl fl_X2_136 rfl rfl rfl rfl (fun μ7 => ?_)
          refine S_iconst dX2_river_77 rfl ?_
          refine S_istore_n (lv' := [(2, .inl 0), (0, .inr (.inr 60))]) dX2_river_78 rfl rfl ?_
          refine S_jn (fun (K9 : Mem → Option (Int × Mem)) => ∀ (μ8 : Mem), Sim cX2_river 3 RX2 (7) (some .int) wI 144 [(0, .inr (.inr 60))] [] μ8 (K9 μ8)) ?_ (fun K9 hK9 => ?_)
          · intro μ8
            refine S_iconst dX2_river_144 rfl ?_
            refine S_istore_n (lv' := [(2, .inl 1), (0, .inr (.inr 60))]) dX2_river_145 rfl rfl ?_
            have hL146 : ∀ (n12 : Nat) (x10 : Int) (μ11 : Mem), Sim cX2_river 3 RX2 (7) (some .int) wI 146 [(0, .inr (.inr 60)), (2, .inl x10)] [] μ11 (fX2_river_L146 n12 x10 μ11) := by
              intro n12
              induction n12 with
              | zero =>
                intro x10 μ11
                exact S_none rfl
              | succ n12 ih =>
                intro x10 μ11
                rw [fX2_river_L146]
                refine S_iload_n dX2_river_146 rfl ?_
                refine S_iconst dX2_river_147 rfl ?_
                refine S_ic_ge (tgt := 170) dX2_river_148 (by decide) (fun h15 => ?_) (fun h15 => ?_)
                · refine S_aload_n dX2_river_170 rfl ?_
                  refine S_getI dX2_river_171 rfl fl_X2_136 rfl rfl ?_
                  exact S_iret dX2_river_174 rfl rfl
                · refine S_aload_n dX2_river_151 rfl ?_
                  refine S_getR (c1 := 61) dX2_river_152 rfl fl_X2_7 rfl rfl rfl ?_
                  refine S_sipush dX2_river_155 rfl (by decide) ?_
                  refine S_iload_n dX2_river_158 rfl ?_
                  refine S_imul dX2_river_159 ?_
                  refine S_iconst dX2_river_160 rfl ?_
                  refine S_iadd dX2_river_161 ?_
                  refine S_iconst dX2_river_162 rfl ?_
                  refine S_iast (N := 3305) dX2_river_163 rfl (by decide) rfl (fun μ13 => ?_)
                  refine S_iinc (lv' := fun x14 => [(2, .inl x14), (0, .inr (.inr 60))]) dX2_river_164 rfl rfl rfl (fun _ => rfl) (fun x14 => ?_)
                  refine S_goto (tgt := 146) dX2_river_167 (by decide) ?_
                  exact S_sub [1, 0] rfl (ih x14 μ13)
            exact S_sub [1, 0] rfl (hL146 fuel 1 μ8)
          have hL79 : ∀ (n18 : Nat) (x16 : Int) (μ17 : Mem), Sim cX2_river 3 RX2 (7) (some .int) wI 79 [(0, .inr (.inr 60)), (2, .inl x16)] [] μ17 (fX2_river_L79 K9 n18 x16 μ17) := by
            intro n18
            induction n18 with
            | zero =>
              intro x16 μ17
              exact S_none rfl
            | succ n18 ih =>
              intro x16 μ17
              rw [fX2_river_L79]
              refine S_iload_n dX2_river_79 rfl ?_
              refine S_aload_n dX2_river_80 rfl ?_
              refine S_getI dX2_river_81 rfl fl_X2_136 rfl rfl ?_
              refine S_ic_ge (tgt := 144) dX2_river_84 (by decide) (fun h23 => ?_) (fun h23 => ?_)
              · exact S_sub [0] rfl (hK9 μ17)
              · refine S_aload_n dX2_river_87 rfl ?_
                refine S_getR (c1 := 62) dX2_river_88 rfl fl_X2_13 rfl rfl rfl ?_
                refine S_iload_n dX2_river_91 rfl ?_
                refine S_aload_n dX2_river_92 rfl ?_
                refine S_getR (c1 := 68) dX2_river_93 rfl fl_X2_35 rfl rfl rfl ?_
                refine S_iconst dX2_river_96 rfl ?_
                refine S_iload_n dX2_river_97 rfl ?_
                refine S_imul dX2_river_98 ?_
                refine S_iald (N := 18) dX2_river_99 rfl (by decide) rfl ?_
                refine S_iast (N := 6) dX2_river_100 rfl (by decide) rfl (fun μ19 => ?_)
                refine S_aload_n dX2_river_101 rfl ?_
                refine S_getR (c1 := 61) dX2_river_102 rfl fl_X2_7 rfl rfl rfl ?_
                refine S_iconst dX2_river_105 rfl ?_
                refine S_iload_n dX2_river_106 rfl ?_
                refine S_iadd dX2_river_107 ?_
                refine S_aload_n dX2_river_108 rfl ?_
                refine S_getR (c1 := 68) dX2_river_109 rfl fl_X2_35 rfl rfl rfl ?_
                refine S_iconst dX2_river_112 rfl ?_
                refine S_iload_n dX2_river_113 rfl ?_
                refine S_imul dX2_river_114 ?_
                refine S_iconst dX2_river_115 rfl ?_
                refine S_iadd dX2_river_116 ?_
                refine S_iald (N := 18) dX2_river_117 rfl (by decide) rfl ?_
                refine S_iast (N := 3305) dX2_river_118 rfl (by decide) rfl (fun μ20 => ?_)
                refine S_aload_n dX2_river_119 rfl ?_
                refine S_getR (c1 := 61) dX2_river_120 rfl fl_X2_7 rfl rfl rfl ?_
                refine S_bipush dX2_river_123 rfl (by decide) ?_
                refine S_iload_n dX2_river_125 rfl ?_
                refine S_iadd dX2_river_126 ?_
                refine S_aload_n dX2_river_127 rfl ?_
                refine S_getR (c1 := 68) dX2_river_128 rfl fl_X2_35 rfl rfl rfl ?_
                refine S_iconst dX2_river_131 rfl ?_
                refine S_iload_n dX2_river_132 rfl ?_
                refine S_imul dX2_river_133 ?_
                refine S_iconst dX2_river_134 rfl ?_
                refine S_iadd dX2_river_135 ?_
                refine S_iald (N := 18) dX2_river_136 rfl (by decide) rfl ?_
                refine S_iast (N := 3305) dX2_river_137 rfl (by decide) rfl (fun μ21 => ?_)
                refine S_iinc (lv' := fun x22 => [(2, .inl x22), (0, .inr (.inr 60))]) dX2_river_138 rfl rfl rfl (fun _ => rfl) (fun x22 => ?_)
                refine S_goto (tgt := 79) dX2_river_141 (by decide) ?_
                exact S_sub [1, 0] rfl (ih x22 μ21)
          exact S_sub [1, 0] rfl (hL79 fuel 0 μ7)
        have hL39 : ∀ (n26 : Nat) (x24 : Int) (μ25 : Mem), Sim cX2_river 3 RX2 (7) (some .int) wI 39 [(0, .inr (.inr 60)), (2, .inl x24)] [] μ25 (fX2_river_L39 K5 n26 x24 μ25) := by
          intro n26
          induction n26 with
          | zero =>
            intro x24 μ25
            exact S_none rfl
          | succ n26 ih =>
            intro x24 μ25
            rw [fX2_river_L39]
            refine S_iload_n dX2_river_39 rfl ?_
            refine S_sipush dX2_river_40 rfl (by decide) ?_
            refine S_ic_ge (tgt := 59) dX2_river_43 (by decide) (fun h29 => ?_) (fun h29 => ?_)
            · exact S_sub [0] rfl (hK5 μ25)
            · refine S_aload_n dX2_river_46 rfl ?_
              refine S_getR (c1 := 61) dX2_river_47 rfl fl_X2_7 rfl rfl rfl ?_
              refine S_iload_n dX2_river_50 rfl ?_
              refine S_iconst dX2_river_51 rfl ?_
              refine S_iast (N := 3305) dX2_river_52 rfl (by decide) rfl (fun μ27 => ?_)
              refine S_iinc (lv' := fun x28 => [(2, .inl x28), (0, .inr (.inr 60))]) dX2_river_53 rfl rfl rfl (fun _ => rfl) (fun x28 => ?_)
              refine S_goto (tgt := 39) dX2_river_56 (by decide) ?_
              exact S_sub [1, 0] rfl (ih x28 μ27)
        exact S_sub [1, 0] rfl (hL39 fuel 0 μ3)
      · refine S_bipush dX2_river_34 rfl (by decide) ?_
        exact S_iret dX2_river_36 rfl rfl
    · refine S_aload_n dX2_river_18 rfl ?_
      refine S_iconst dX2_river_19 rfl ?_
      refine S_callV_M2 dX2_river_20 [.inl 1] (K_X2_find 1 μ) l_X2_69 yo_X2_find rfl rfl rfl rfl rfl (fun x31 μ32 => ?_)
      exact S_iret dX2_river_23 rfl rfl
  · refine S_iconst dX2_river_7 rfl ?_
    exact S_iret dX2_river_8 rfl rfl
def fX2_isOne (p1 : Int) (μ : Mem) : Option Int :=
  (fX2_in p1 0 (w32 ((μ 60 1) - 1)) μ).bind fun x1 =>
  grd (x1 = 0 ∨ x1 = 1) <|
  some x1
theorem K_X2_isOne  (p1 : Int)  (μ : Mem) : Con yX2_isOne cX2_isOne 2 (some .boolean) 3 [.inr (.inr 60), .inl p1] μ (fX2_isOne p1 μ) (rI μ) := by
  refine con_of (own := RX2) (by decide) rfl (Nat.le_of_ble_eq_true rfl) ?_
  show Sim cX2_isOne 2 RX2 (3) (some .boolean) (rI μ) 0 [(0, .inr (.inr 60)), (1, .inl p1)] [] μ (fX2_isOne p1 μ)
  unfold fX2_isOne
  refine S_iload_n dX2_isOne_0 rfl ?_
  refine S_i2l dX2_isOne_1 ?_
  refine S_lconst (n := 0) dX2_isOne_2 (by decide) rfl ?_
  refine S_aload_n dX2_isOne_3 rfl ?_
  refine S_getI dX2_isOne_4 rfl fl_X2_136 rfl rfl ?_
  refine S_iconst dX2_isOne_7 rfl ?_
  refine S_isub dX2_isOne_8 ?_
  refine S_i2l dX2_isOne_9 ?_
  refine S_callS_I dX2_isOne_10 [.inr (.inl p1), .inr (.inl 0), .inr (.inl (w32 ((μ 60 1) - 1)))] (K_X2_in p1 0 (w32 ((μ 60 1) - 1)) μ) l_X2_59 yo_X2_in rfl rfl rfl (fun x1 => ?_)
  refine S_g (fun hz => ?_)
  exact S_zret dX2_isOne_13 rfl hz rfl
def fX2_apart (p1 : Int) (p2 : Int) (μ : Mem) : Option Int :=
  if p1 ≤ p2 then
    some (w32 (p2 - p1))
  else
    some (w32 (p1 - p2))
theorem K_X2_apart  (p1 : Int) (p2 : Int)  (μ : Mem) : Con yX2_apart cX2_apart 2 (some .int) 2 [.inl p1, .inl p2] μ (fX2_apart p1 p2 μ) (rI μ) := by
  refine con_of (own := RX2) (by decide) rfl (Nat.le_of_ble_eq_true rfl) ?_
  show Sim cX2_apart 2 RX2 (2) (some .int) (rI μ) 0 [(0, .inl p1), (1, .inl p2)] [] μ (fX2_apart p1 p2 μ)
  unfold fX2_apart
  refine S_iload_n dX2_apart_0 rfl ?_
  refine S_iload_n dX2_apart_1 rfl ?_
  refine S_ic_le (tgt := 11) dX2_apart_2 (by decide) (fun h1 => ?_) (fun h1 => ?_)
  · refine S_iload_n dX2_apart_11 rfl ?_
    refine S_iload_n dX2_apart_12 rfl ?_
    refine S_isub dX2_apart_13 ?_
    exact S_iret dX2_apart_14 rfl rfl
  · refine S_iload_n dX2_apart_5 rfl ?_
    refine S_iload_n dX2_apart_6 rfl ?_
    refine S_isub dX2_apart_7 ?_
    refine S_goto (tgt := 14) dX2_apart_8 (by decide) ?_
    exact S_iret dX2_apart_14 rfl rfl
def fX2_daresBy (p1 : Int) (p2 : Int) (p3 : Int) (p4 : Int) (μ : Mem) : Option Int :=
  mlet (fun (x1 : Int) =>
    if p1 = 1 then
      if ¬ (p3.tmod 2) = 0 then
        some p2
      else
        some (w32 (2 * p2))
    else
      if p1 = 2 then
        some x1
      else
        if p1 = 4 then
          if 3 ≤ p4 then
            some (w32 (p2 + 3))
          else
            some (w32 (p2 + p4))
        else
          if p1 = 5 then
            if 10 ≤ x1 then
              some 0
            else
              some (w32 (10 - x1))
          else
            some p2
    ) fun (K2 : Int → Option Int) =>
  if 5 ≤ p2 then
    K2 p2
  else
    K2 0
theorem K_X2_daresBy  (p1 : Int) (p2 : Int) (p3 : Int) (p4 : Int)  (μ : Mem) : Con yX2_daresBy cX2_daresBy 5 (some .int) 2 [.inl p1, .inl p2, .inl p3, .inl p4] μ (fX2_daresBy p1 p2 p3 p4 μ) (rI μ) := by
  refine con_of (own := RX2) (by decide) rfl (Nat.le_of_ble_eq_true rfl) ?_
  show Sim cX2_daresBy 5 RX2 (2) (some .int) (rI μ) 0 [(0, .inl p1), (1, .inl p2), (2, .inl p3), (3, .inl p4)] [] μ (fX2_daresBy p1 p2 p3 p4 μ)
  unfold fX2_daresBy
  refine S_iload_n dX2_daresBy_0 rfl ?_
  refine S_iconst dX2_daresBy_1 rfl ?_
  refine S_jn (fun (K2 : Int → Option Int) => ∀ (x1 : Int), Sim cX2_daresBy 5 RX2 (2) (some .int) (rI μ) 10 [(0, .inl p1), (1, .inl p2), (2, .inl p3), (3, .inl p4)] [.inl x1] μ (K2 x1)) ?_ (fun K2 hK2 => ?_)
  · intro x1
    refine S_istore (lv' := [(4, .inl x1), (0, .inl p1), (1, .inl p2), (2, .inl p3), (3, .inl p4)]) dX2_daresBy_10 rfl rfl ?_
    refine S_iload_n dX2_daresBy_12 rfl ?_
    refine S_if (fun h3 => ?_) (fun h3 => ?_)
    · refine S_tsIn (n := 1) (tgt := 48) dX2_daresBy_13 h3 (by decide) (by decide) rfl (by decide) ?_
      refine S_iload_n dX2_daresBy_48 rfl ?_
      refine S_iconst dX2_daresBy_49 rfl ?_
      refine S_iremK dX2_daresBy_50 (by decide) ?_
      refine S_if_ne (tgt := 60) dX2_daresBy_51 (by decide) (fun h4 => ?_) (fun h4 => ?_)
      · refine S_iload_n dX2_daresBy_60 rfl ?_
        exact S_iret dX2_daresBy_61 rfl rfl
      · refine S_iconst dX2_daresBy_54 rfl ?_
        refine S_iload_n dX2_daresBy_55 rfl ?_
        refine S_imul dX2_daresBy_56 ?_
        refine S_goto (tgt := 61) dX2_daresBy_57 (by decide) ?_
        exact S_iret dX2_daresBy_61 rfl rfl
    · refine S_if (fun h5 => ?_) (fun h5 => ?_)
      · refine S_tsIn (n := 2) (tgt := 62) dX2_daresBy_13 h5 (by decide) (by decide) rfl (by decide) ?_
        refine S_iload dX2_daresBy_62 rfl ?_
        exact S_iret dX2_daresBy_64 rfl rfl
      · refine S_if (fun h6 => ?_) (fun h6 => ?_)
        · refine S_tsIn (n := 4) (tgt := 65) dX2_daresBy_13 h6 (by decide) (by decide) rfl (by decide) ?_
          refine S_iload_n dX2_daresBy_65 rfl ?_
          refine S_iload_n dX2_daresBy_66 rfl ?_
          refine S_iconst dX2_daresBy_67 rfl ?_
          refine S_ic_ge (tgt := 75) dX2_daresBy_68 (by decide) (fun h7 => ?_) (fun h7 => ?_)
          · refine S_iconst dX2_daresBy_75 rfl ?_
            refine S_iadd dX2_daresBy_76 ?_
            exact S_iret dX2_daresBy_77 rfl rfl
          · refine S_iload_n dX2_daresBy_71 rfl ?_
            refine S_goto (tgt := 76) dX2_daresBy_72 (by decide) ?_
            refine S_iadd dX2_daresBy_76 ?_
            exact S_iret dX2_daresBy_77 rfl rfl
        · refine S_if (fun h8 => ?_) (fun h8 => ?_)
          · refine S_tsIn (n := 5) (tgt := 78) dX2_daresBy_13 h8 (by decide) (by decide) rfl (by decide) ?_
            refine S_iload dX2_daresBy_78 rfl ?_
            refine S_bipush dX2_daresBy_80 rfl (by decide) ?_
            refine S_ic_ge (tgt := 93) dX2_daresBy_82 (by decide) (fun h9 => ?_) (fun h9 => ?_)
            · refine S_iconst dX2_daresBy_93 rfl ?_
              exact S_iret dX2_daresBy_94 rfl rfl
            · refine S_bipush dX2_daresBy_85 rfl (by decide) ?_
              refine S_iload dX2_daresBy_87 rfl ?_
              refine S_isub dX2_daresBy_89 ?_
              refine S_goto (tgt := 94) dX2_daresBy_90 (by decide) ?_
              exact S_iret dX2_daresBy_94 rfl rfl
          · refine S_tsD (tgt := 95) [1, 2, 4, 5] dX2_daresBy_13 (by decide) (by decide) (by intro v9 h9 e9; simp only [List.mem_cons, List.not_mem_nil, or_false] at h9; omega) ?_
            refine S_iload_n dX2_daresBy_95 rfl ?_
            exact S_iret dX2_daresBy_96 rfl rfl
  refine S_ic_ge (tgt := 9) dX2_daresBy_2 (by decide) (fun h10 => ?_) (fun h10 => ?_)
  · refine S_iload_n dX2_daresBy_9 rfl ?_
    exact S_sub [0, 1, 2, 3] rfl (hK2 p2)
  · refine S_iconst dX2_daresBy_5 rfl ?_
    refine S_goto (tgt := 10) dX2_daresBy_6 (by decide) ?_
    exact S_sub [0, 1, 2, 3] rfl (hK2 0)
def fX2_farOf (p1 : Int) (p2 : Int) (μ : Mem) : Option Int :=
  grd (0 ≤ (w32 ((w32 (p1 + 3)) + p2)) ∧ (w32 ((w32 (p1 + 3)) + p2)) < 3305) <|
  grd (0 ≤ (w32 (p1 + 2)) ∧ (w32 (p1 + 2)) < 3305) <|
  (fX2_apart (μ 61 ((w32 ((w32 (p1 + 3)) + p2))).toNat) (μ 61 ((w32 (p1 + 2))).toNat) μ).bind fun x1 =>
  some x1
theorem K_X2_farOf  (p1 : Int) (p2 : Int)  (μ : Mem) : Con yX2_farOf cX2_farOf 3 (some .int) 3 [.inr (.inr 60), .inl p1, .inl p2] μ (fX2_farOf p1 p2 μ) (rI μ) := by
  refine con_of (own := RX2) (by decide) rfl (Nat.le_of_ble_eq_true rfl) ?_
  show Sim cX2_farOf 3 RX2 (3) (some .int) (rI μ) 0 [(0, .inr (.inr 60)), (1, .inl p1), (2, .inl p2)] [] μ (fX2_farOf p1 p2 μ)
  unfold fX2_farOf
  refine S_aload_n dX2_farOf_0 rfl ?_
  refine S_getR (c1 := 61) dX2_farOf_1 rfl fl_X2_7 rfl rfl rfl ?_
  refine S_iload_n dX2_farOf_4 rfl ?_
  refine S_iconst dX2_farOf_5 rfl ?_
  refine S_iadd dX2_farOf_6 ?_
  refine S_iload_n dX2_farOf_7 rfl ?_
  refine S_iadd dX2_farOf_8 ?_
  refine S_iald (N := 3305) dX2_farOf_9 rfl (by decide) rfl ?_
  refine S_aload_n dX2_farOf_10 rfl ?_
  refine S_getR (c1 := 61) dX2_farOf_11 rfl fl_X2_7 rfl rfl rfl ?_
  refine S_iload_n dX2_farOf_14 rfl ?_
  refine S_iconst dX2_farOf_15 rfl ?_
  refine S_iadd dX2_farOf_16 ?_
  refine S_iald (N := 3305) dX2_farOf_17 rfl (by decide) rfl ?_
  refine S_callS_I dX2_farOf_18 [.inl (μ 61 ((w32 ((w32 (p1 + 3)) + p2))).toNat), .inl (μ 61 ((w32 (p1 + 2))).toNat)] (K_X2_apart (μ 61 ((w32 ((w32 (p1 + 3)) + p2))).toNat) (μ 61 ((w32 (p1 + 2))).toNat) μ) l_X2_139 yo_X2_apart rfl rfl rfl (fun x1 => ?_)
  exact S_iret dX2_farOf_21 rfl rfl
def fX2_daresIn (p1 : Int) (p2 : Int) (μ : Mem) : Option Int :=
  grd (0 ≤ p2 ∧ p2 < 6) <|
  grd (0 ≤ (w32 ((w32 (p1 + 9)) + p2)) ∧ (w32 ((w32 (p1 + 9)) + p2)) < 3305) <|
  grd (0 ≤ (w32 (p1 + 1)) ∧ (w32 (p1 + 1)) < 3305) <|
  (fX2_farOf p1 p2 μ).bind fun x1 =>
  (fX2_daresBy (μ 62 (p2).toNat) (μ 61 ((w32 ((w32 (p1 + 9)) + p2))).toNat) (μ 61 ((w32 (p1 + 1))).toNat) x1 μ).bind fun x2 =>
  some x2
theorem K_X2_daresIn  (p1 : Int) (p2 : Int)  (μ : Mem) : Con yX2_daresIn cX2_daresIn 3 (some .int) 4 [.inr (.inr 60), .inl p1, .inl p2] μ (fX2_daresIn p1 p2 μ) (rI μ) := by
  refine con_of (own := RX2) (by decide) rfl (Nat.le_of_ble_eq_true rfl) ?_
  show Sim cX2_daresIn 3 RX2 (4) (some .int) (rI μ) 0 [(0, .inr (.inr 60)), (1, .inl p1), (2, .inl p2)] [] μ (fX2_daresIn p1 p2 μ)
  unfold fX2_daresIn
  refine S_aload_n dX2_daresIn_0 rfl ?_
  refine S_getR (c1 := 62) dX2_daresIn_1 rfl fl_X2_13 rfl rfl rfl ?_
  refine S_iload_n dX2_daresIn_4 rfl ?_
  refine S_iald (N := 6) dX2_daresIn_5 rfl (by decide) rfl ?_
  refine S_aload_n dX2_daresIn_6 rfl ?_
  refine S_getR (c1 := 61) dX2_daresIn_7 rfl fl_X2_7 rfl rfl rfl ?_
  refine S_iload_n dX2_daresIn_10 rfl ?_
  refine S_bipush dX2_daresIn_11 rfl (by decide) ?_
  refine S_iadd dX2_daresIn_13 ?_
  refine S_iload_n dX2_daresIn_14 rfl ?_
  refine S_iadd dX2_daresIn_15 ?_
  refine S_iald (N := 3305) dX2_daresIn_16 rfl (by decide) rfl ?_
  refine S_aload_n dX2_daresIn_17 rfl ?_
  refine S_getR (c1 := 61) dX2_daresIn_18 rfl fl_X2_7 rfl rfl rfl ?_
  refine S_iload_n dX2_daresIn_21 rfl ?_
  refine S_iconst dX2_daresIn_22 rfl ?_
  refine S_iadd dX2_daresIn_23 ?_
  refine S_iald (N := 3305) dX2_daresIn_24 rfl (by decide) rfl ?_
  refine S_aload_n dX2_daresIn_25 rfl ?_
  refine S_iload_n dX2_daresIn_26 rfl ?_
  refine S_iload_n dX2_daresIn_27 rfl ?_
  refine S_callV_I dX2_daresIn_28 [.inl p1, .inl p2] (K_X2_farOf p1 p2 μ) l_X2_142 yo_X2_farOf rfl rfl rfl rfl rfl (fun x1 => ?_)
  refine S_callS_I dX2_daresIn_31 [.inl (μ 62 (p2).toNat), .inl (μ 61 ((w32 ((w32 (p1 + 9)) + p2))).toNat), .inl (μ 61 ((w32 (p1 + 1))).toNat), .inl x1] (K_X2_daresBy (μ 62 (p2).toNat) (μ 61 ((w32 ((w32 (p1 + 9)) + p2))).toNat) (μ 61 ((w32 (p1 + 1))).toNat) x1 μ) l_X2_145 yo_X2_daresBy rfl rfl rfl (fun x2 => ?_)
  exact S_iret dX2_daresIn_34 rfl rfl
def fX2_boldest_L9 (μ : Mem) (p2 : Int) (p1 : Int) : Nat → Int → Int → Int → Option Int
  | 0, _, _, _ => none
  | n4 + 1, x1, x2, x3 =>
    if (μ 60 1) ≤ x3 then
      some x1
    else
      (fX2_has p2 x3 μ).bind fun x5 =>
      mlet (fun (x6 : Int) =>
        mlet (fun (x8 : Int) =>
          mlet (fun (x10 : Int) =>
            mlet (fun (x12 : Int) =>
              mlet (w32 (x3 + 1)) fun x14 =>
              fX2_boldest_L9 μ p2 p1 n4 x10 x12 x14
              ) fun (K13 : Int → Option Int) =>
            if x8 = 0 then
              K13 x2
            else
              K13 x6
            ) fun (K11 : Int → Option Int) =>
          if x8 = 0 then
            K11 x1
          else
            K11 x3
          ) fun (K9 : Int → Option Int) =>
        mlet (
          K9 1
          : Option Int) fun (K17 : Option Int) =>
        if x2 < x6 then
          K17
        else
          mlet (
            K9 0
            : Option Int) fun (K18 : Option Int) =>
          if ¬ x6 = x2 then
            K18
          else
            if x1 = (-9) then
              K18
            else
              (fX2_farOf p1 x3 μ).bind fun x19 =>
              (fX2_farOf p1 x1 μ).bind fun x20 =>
              if x20 ≤ x19 then
                K18
              else
                K17
        ) fun (K7 : Int → Option Int) =>
      if x5 = 0 then
        (fX2_daresIn p1 x3 μ).bind fun x25 =>
        K7 x25
      else
        K7 0
def fX2_boldest (p1 : Int) (p2 : Int) (μ : Mem) : Option Int :=
  fX2_boldest_L9 μ p2 p1 fuel (-9) 0 0
theorem K_X2_boldest  (p1 : Int) (p2 : Int)  (μ : Mem) : Con yX2_boldest cX2_boldest 8 (some .int) 5 [.inr (.inr 60), .inl p1, .inl p2] μ (fX2_boldest p1 p2 μ) (rI μ) := by
  refine con_of (own := RX2) (by decide) rfl (Nat.le_of_ble_eq_true rfl) ?_
  show Sim cX2_boldest 8 RX2 (5) (some .int) (rI μ) 0 [(0, .inr (.inr 60)), (1, .inl p1), (2, .inl p2)] [] μ (fX2_boldest p1 p2 μ)
  unfold fX2_boldest
  refine S_bipush dX2_boldest_0 rfl (by decide) ?_
  refine S_istore_n (lv' := [(3, .inl (-9)), (0, .inr (.inr 60)), (1, .inl p1), (2, .inl p2)]) dX2_boldest_2 rfl rfl ?_
  refine S_iconst dX2_boldest_3 rfl ?_
  refine S_istore (lv' := [(4, .inl 0), (3, .inl (-9)), (0, .inr (.inr 60)), (1, .inl p1), (2, .inl p2)]) dX2_boldest_4 rfl rfl ?_
  refine S_iconst dX2_boldest_6 rfl ?_
  refine S_istore (lv' := [(5, .inl 0), (4, .inl 0), (3, .inl (-9)), (0, .inr (.inr 60)), (1, .inl p1), (2, .inl p2)]) dX2_boldest_7 rfl rfl ?_
  have hL9 : ∀ (n4 : Nat) (x1 : Int) (x2 : Int) (x3 : Int), Sim cX2_boldest 8 RX2 (5) (some .int) (rI μ) 9 [(0, .inr (.inr 60)), (1, .inl p1), (2, .inl p2), (3, .inl x1), (4, .inl x2), (5, .inl x3)] [] μ (fX2_boldest_L9 μ p2 p1 n4 x1 x2 x3) := by
    intro n4
    induction n4 with
    | zero =>
      intro x1 x2 x3
      exact S_none rfl
    | succ n4 ih =>
      intro x1 x2 x3
      rw [fX2_boldest_L9]
      refine S_iload dX2_boldest_9 rfl ?_
      refine S_aload_n dX2_boldest_11 rfl ?_
      refine S_getI dX2_boldest_12 rfl fl_X2_136 rfl rfl ?_
      refine S_ic_ge (tgt := 115) dX2_boldest_15 (by decide) (fun h27 => ?_) (fun h27 => ?_)
      · refine S_iload_n dX2_boldest_115 rfl ?_
        exact S_iret dX2_boldest_116 rfl rfl
      · refine S_iload_n dX2_boldest_18 rfl ?_
        refine S_iload dX2_boldest_19 rfl ?_
        refine S_callS_I dX2_boldest_21 [.inl p2, .inl x3] (K_X2_has p2 x3 μ) l_X2_149 yo_X2_has rfl rfl rfl (fun x5 => ?_)
        refine S_jn (fun (K7 : Int → Option Int) => ∀ (x6 : Int), Sim cX2_boldest 8 RX2 (5) (some .int) (rI μ) 38 [(0, .inr (.inr 60)), (1, .inl p1), (2, .inl p2), (3, .inl x1), (4, .inl x2), (5, .inl x3)] [.inl x6] μ (K7 x6)) ?_ (fun K7 hK7 => ?_)
        · intro x6
          refine S_istore (lv' := [(6, .inl x6), (0, .inr (.inr 60)), (1, .inl p1), (2, .inl p2), (3, .inl x1), (4, .inl x2), (5, .inl x3)]) dX2_boldest_38 rfl rfl ?_
          refine S_iload dX2_boldest_40 rfl ?_
          refine S_iload dX2_boldest_42 rfl ?_
          refine S_jn (fun (K9 : Int → Option Int) => ∀ (x8 : Int), Sim cX2_boldest 8 RX2 (5) (some .int) (rI μ) 81 [(0, .inr (.inr 60)), (1, .inl p1), (2, .inl p2), (3, .inl x1), (4, .inl x2), (5, .inl x3), (6, .inl x6)] [.inl x8] μ (K9 x8)) ?_ (fun K9 hK9 => ?_)
          · intro x8
            refine S_istore (lv' := [(7, .inl x8), (0, .inr (.inr 60)), (1, .inl p1), (2, .inl p2), (3, .inl x1), (4, .inl x2), (5, .inl x3), (6, .inl x6)]) dX2_boldest_81 rfl rfl ?_
            refine S_iload dX2_boldest_83 rfl ?_
            refine S_jn (fun (K11 : Int → Option Int) => ∀ (x10 : Int), Sim cX2_boldest 8 RX2 (5) (some .int) (rI μ) 94 [(0, .inr (.inr 60)), (1, .inl p1), (2, .inl p2), (4, .inl x2), (5, .inl x3), (6, .inl x6), (7, .inl x8)] [.inl x10] μ (K11 x10)) ?_ (fun K11 hK11 => ?_)
            · intro x10
              refine S_istore_n (lv' := [(3, .inl x10), (0, .inr (.inr 60)), (1, .inl p1), (2, .inl p2), (4, .inl x2), (5, .inl x3), (6, .inl x6), (7, .inl x8)]) dX2_boldest_94 rfl rfl ?_
              refine S_iload dX2_boldest_95 rfl ?_
              refine S_jn (fun (K13 : Int → Option Int) => ∀ (x12 : Int), Sim cX2_boldest 8 RX2 (5) (some .int) (rI μ) 107 [(0, .inr (.inr 60)), (1, .inl p1), (2, .inl p2), (3, .inl x10), (5, .inl x3)] [.inl x12] μ (K13 x12)) ?_ (fun K13 hK13 => ?_)
              · intro x12
                refine S_istore (lv' := [(4, .inl x12), (0, .inr (.inr 60)), (1, .inl p1), (2, .inl p2), (3, .inl x10), (5, .inl x3)]) dX2_boldest_107 rfl rfl ?_
                refine S_iinc (lv' := fun x14 => [(5, .inl x14), (4, .inl x12), (0, .inr (.inr 60)), (1, .inl p1), (2, .inl p2), (3, .inl x10)]) dX2_boldest_109 rfl rfl rfl (fun _ => rfl) (fun x14 => ?_)
                refine S_goto (tgt := 9) dX2_boldest_112 (by decide) ?_
                exact S_sub [2, 3, 4, 5, 1, 0] rfl (ih x10 x12 x14)
              refine S_if_eq (tgt := 105) dX2_boldest_97 (by decide) (fun h15 => ?_) (fun h15 => ?_)
              · refine S_iload dX2_boldest_105 rfl ?_
                exact S_sub [1, 2, 3, 0, 5] rfl (hK13 x2)
              · refine S_iload dX2_boldest_100 rfl ?_
                refine S_goto (tgt := 107) dX2_boldest_102 (by decide) ?_
                exact S_sub [1, 2, 3, 0, 5] rfl (hK13 x6)
            refine S_if_eq (tgt := 93) dX2_boldest_85 (by decide) (fun h16 => ?_) (fun h16 => ?_)
            · refine S_iload_n dX2_boldest_93 rfl ?_
              exact S_sub [1, 2, 3, 5, 6, 7, 0] rfl (hK11 x1)
            · refine S_iload dX2_boldest_88 rfl ?_
              refine S_goto (tgt := 94) dX2_boldest_90 (by decide) ?_
              exact S_sub [1, 2, 3, 5, 6, 7, 0] rfl (hK11 x3)
          refine S_jn (fun (K17 : Option Int) => Sim cX2_boldest 8 RX2 (5) (some .int) (rI μ) 76 [(0, .inr (.inr 60)), (1, .inl p1), (2, .inl p2), (3, .inl x1), (4, .inl x2), (5, .inl x3), (6, .inl x6)] [] μ K17) ?_ (fun K17 hK17 => ?_)
          · skip
            refine S_iconst dX2_boldest_76 rfl ?_
            refine S_goto (tgt := 81) dX2_boldest_77 (by decide) ?_
            exact S_sub [0, 1, 2, 3, 4, 5, 6] rfl (hK9 1)
          refine S_ic_gt (tgt := 76) dX2_boldest_44 (by decide) (fun h24 => ?_) (fun h24 => ?_)
          · exact S_sub [1, 2, 3, 4, 5, 6, 0] rfl (hK17)
          · refine S_iload dX2_boldest_47 rfl ?_
            refine S_iload dX2_boldest_49 rfl ?_
            refine S_jn (fun (K18 : Option Int) => Sim cX2_boldest 8 RX2 (5) (some .int) (rI μ) 80 [(0, .inr (.inr 60)), (1, .inl p1), (2, .inl p2), (3, .inl x1), (4, .inl x2), (5, .inl x3), (6, .inl x6)] [] μ K18) ?_ (fun K18 hK18 => ?_)
            · skip
              refine S_iconst dX2_boldest_80 rfl ?_
              exact S_sub [0, 1, 2, 3, 4, 5, 6] rfl (hK9 0)
            refine S_ic_ne (tgt := 80) dX2_boldest_51 (by decide) (fun h23 => ?_) (fun h23 => ?_)
            · exact S_sub [1, 2, 3, 4, 5, 6, 0] rfl (hK18)
            · refine S_iload_n dX2_boldest_54 rfl ?_
              refine S_bipush dX2_boldest_55 rfl (by decide) ?_
              refine S_ic_eq (tgt := 80) dX2_boldest_57 (by decide) (fun h22 => ?_) (fun h22 => ?_)
              · exact S_sub [1, 2, 3, 4, 5, 6, 0] rfl (hK18)
              · refine S_aload_n dX2_boldest_60 rfl ?_
                refine S_iload_n dX2_boldest_61 rfl ?_
                refine S_iload dX2_boldest_62 rfl ?_
                refine S_callV_I dX2_boldest_64 [.inl p1, .inl x3] (K_X2_farOf p1 x3 μ) l_X2_142 yo_X2_farOf rfl rfl rfl rfl rfl (fun x19 => ?_)
                refine S_aload_n dX2_boldest_67 rfl ?_
                refine S_iload_n dX2_boldest_68 rfl ?_
                refine S_iload_n dX2_boldest_69 rfl ?_
                refine S_callV_I dX2_boldest_70 [.inl p1, .inl x1] (K_X2_farOf p1 x1 μ) l_X2_142 yo_X2_farOf rfl rfl rfl rfl rfl (fun x20 => ?_)
                refine S_ic_ge (tgt := 80) dX2_boldest_73 (by decide) (fun h21 => ?_) (fun h21 => ?_)
                · exact S_sub [1, 2, 3, 4, 5, 6, 0] rfl (hK18)
                · exact S_sub [1, 2, 3, 4, 5, 6, 0] rfl (hK17)
        refine S_if_eq (tgt := 31) dX2_boldest_24 (by decide) (fun h26 => ?_) (fun h26 => ?_)
        · refine S_aload_n dX2_boldest_31 rfl ?_
          refine S_iload_n dX2_boldest_32 rfl ?_
          refine S_iload dX2_boldest_33 rfl ?_
          refine S_callV_I dX2_boldest_35 [.inl p1, .inl x3] (K_X2_daresIn p1 x3 μ) l_X2_153 yo_X2_daresIn rfl rfl rfl rfl rfl (fun x25 => ?_)
          exact S_sub [0, 1, 2, 3, 4, 5] rfl (hK7 x25)
        · refine S_iconst dX2_boldest_27 rfl ?_
          refine S_goto (tgt := 38) dX2_boldest_28 (by decide) ?_
          exact S_sub [0, 1, 2, 3, 4, 5] rfl (hK7 0)
  exact S_sub [3, 4, 5, 2, 1, 0] rfl (hL9 fuel (-9) 0 0)
def fX2_fades (p1 : Int) (μ : Mem) : Option Int :=
  grd (0 ≤ p1 ∧ p1 < 6) <|
  mlet (
    some 0
    : Option Int) fun (K1 : Option Int) =>
  if (μ 62 (p1).toNat) = 3 then
    K1
  else
    grd (0 ≤ p1 ∧ p1 < 6) <|
    if ¬ (μ 62 (p1).toNat) = 4 then
      grd (0 ≤ p1 ∧ p1 < 6) <|
      mlet (
        some 2
        : Option Int) fun (K2 : Option Int) =>
      if (μ 62 (p1).toNat) = 2 then
        K2
      else
        grd (0 ≤ p1 ∧ p1 < 6) <|
        if ¬ (μ 62 (p1).toNat) = 5 then
          some 1
        else
          K2
    else
      K1
theorem K_X2_fades  (p1 : Int)  (μ : Mem) : Con yX2_fades cX2_fades 2 (some .int) 2 [.inr (.inr 60), .inl p1] μ (fX2_fades p1 μ) (rI μ) := by
  refine con_of (own := RX2) (by decide) rfl (Nat.le_of_ble_eq_true rfl) ?_
  show Sim cX2_fades 2 RX2 (2) (some .int) (rI μ) 0 [(0, .inr (.inr 60)), (1, .inl p1)] [] μ (fX2_fades p1 μ)
  unfold fX2_fades
  refine S_aload_n dX2_fades_0 rfl ?_
  refine S_getR (c1 := 62) dX2_fades_1 rfl fl_X2_13 rfl rfl rfl ?_
  refine S_iload_n dX2_fades_4 rfl ?_
  refine S_iald (N := 6) dX2_fades_5 rfl (by decide) rfl ?_
  refine S_iconst dX2_fades_6 rfl ?_
  refine S_jn (fun (K1 : Option Int) => Sim cX2_fades 2 RX2 (2) (some .int) (rI μ) 20 [] [] μ K1) ?_ (fun K1 hK1 => ?_)
  · skip
    refine S_iconst dX2_fades_20 rfl ?_
    refine S_goto (tgt := 49) dX2_fades_21 (by decide) ?_
    exact S_iret dX2_fades_49 rfl rfl
  refine S_ic_eq (tgt := 20) dX2_fades_7 (by decide) (fun h6 => ?_) (fun h6 => ?_)
  · exact S_sub [] rfl (hK1)
  · refine S_aload_n dX2_fades_10 rfl ?_
    refine S_getR (c1 := 62) dX2_fades_11 rfl fl_X2_13 rfl rfl rfl ?_
    refine S_iload_n dX2_fades_14 rfl ?_
    refine S_iald (N := 6) dX2_fades_15 rfl (by decide) rfl ?_
    refine S_iconst dX2_fades_16 rfl ?_
    refine S_ic_ne (tgt := 24) dX2_fades_17 (by decide) (fun h5 => ?_) (fun h5 => ?_)
    · refine S_aload_n dX2_fades_24 rfl ?_
      refine S_getR (c1 := 62) dX2_fades_25 rfl fl_X2_13 rfl rfl rfl ?_
      refine S_iload_n dX2_fades_28 rfl ?_
      refine S_iald (N := 6) dX2_fades_29 rfl (by decide) rfl ?_
      refine S_iconst dX2_fades_30 rfl ?_
      refine S_jn (fun (K2 : Option Int) => Sim cX2_fades 2 RX2 (2) (some .int) (rI μ) 44 [] [] μ K2) ?_ (fun K2 hK2 => ?_)
      · skip
        refine S_iconst dX2_fades_44 rfl ?_
        refine S_goto (tgt := 49) dX2_fades_45 (by decide) ?_
        exact S_iret dX2_fades_49 rfl rfl
      refine S_ic_eq (tgt := 44) dX2_fades_31 (by decide) (fun h4 => ?_) (fun h4 => ?_)
      · exact S_sub [] rfl (hK2)
      · refine S_aload_n dX2_fades_34 rfl ?_
        refine S_getR (c1 := 62) dX2_fades_35 rfl fl_X2_13 rfl rfl rfl ?_
        refine S_iload_n dX2_fades_38 rfl ?_
        refine S_iald (N := 6) dX2_fades_39 rfl (by decide) rfl ?_
        refine S_iconst dX2_fades_40 rfl ?_
        refine S_ic_ne (tgt := 48) dX2_fades_41 (by decide) (fun h3 => ?_) (fun h3 => ?_)
        · refine S_iconst dX2_fades_48 rfl ?_
          exact S_iret dX2_fades_49 rfl rfl
        · exact S_sub [] rfl (hK2)
    · exact S_sub [] rfl (hK1)
def fX2_passes_L48 (K5 : Mem → Option (Int × Mem)) (p1 : Int) (x1 : Int) : Nat → Int → Mem → Option (Int × Mem)
  | 0, _, _ => none
  | n9 + 1, x7, μ8 =>
    if (μ8 60 1) ≤ x7 then
      K5 μ8
    else
      grd (0 ≤ (w32 ((w32 (p1 + 9)) + x7)) ∧ (w32 ((w32 (p1 + 9)) + x7)) < 3305) <|
      mlet (fun (x10 : Int) =>
        mlet ((w32 ((μ8 61 ((w32 ((w32 (p1 + 9)) + x7))).toNat) - x10))) fun x12 =>
        mlet (fun (x13 : Int) =>
          grd (0 ≤ (w32 ((w32 (p1 + 9)) + x7)) ∧ (w32 ((w32 (p1 + 9)) + x7)) < 3305) <|
          mlet (wr μ8 61 ((w32 ((w32 (p1 + 9)) + x7))).toNat x13) fun μ15 =>
          mlet (w32 (x7 + 1)) fun x16 =>
          fX2_passes_L48 K5 p1 x1 n9 x16 μ15
          ) fun (K14 : Int → Option (Int × Mem)) =>
        if 0 ≤ x12 then
          K14 x12
        else
          K14 0
        ) fun (K11 : Int → Option (Int × Mem)) =>
      if ¬ x7 = x1 then
        (fX2_fades x7 μ8).bind fun x18 =>
        K11 x18
      else
        K11 2
def fX2_passes (p1 : Int) (μ : Mem) : Option (Int × Mem) :=
  (fX2_boldest p1 0 μ).bind fun x1 =>
  mlet (fun (μ2 : Mem) =>
    mlet (fun (μ4 : Mem) =>
      grd (0 ≤ (w32 (p1 + 1)) ∧ (w32 (p1 + 1)) < 3305) <|
      grd (0 ≤ (w32 (p1 + 1)) ∧ (w32 (p1 + 1)) < 3305) <|
      mlet (wr μ4 61 ((w32 (p1 + 1))).toNat (w32 ((μ4 61 ((w32 (p1 + 1))).toNat) + 1))) fun μ6 =>
      some (x1, μ6)
      ) fun (K5 : Mem → Option (Int × Mem)) =>
    fX2_passes_L48 K5 p1 x1 fuel 0 μ2
    ) fun (K3 : Mem → Option (Int × Mem)) =>
  if x1 = (-9) then
    K3 μ
  else
    grd (0 ≤ (w32 ((w32 (p1 + 3)) + x1)) ∧ (w32 ((w32 (p1 + 3)) + x1)) < 3305) <|
    grd (0 ≤ (w32 (p1 + 2)) ∧ (w32 (p1 + 2)) < 3305) <|
    mlet (wr μ 61 ((w32 (p1 + 2))).toNat (μ 61 ((w32 ((w32 (p1 + 3)) + x1))).toNat)) fun μ21 =>
    grd (0 ≤ (w32 ((w32 (p1 + 15)) + x1)) ∧ (w32 ((w32 (p1 + 15)) + x1)) < 3305) <|
    grd (0 ≤ (w32 ((w32 (p1 + 15)) + x1)) ∧ (w32 ((w32 (p1 + 15)) + x1)) < 3305) <|
    mlet (wr μ21 61 ((w32 ((w32 (p1 + 15)) + x1))).toNat (w32 ((μ21 61 ((w32 ((w32 (p1 + 15)) + x1))).toNat) + 1))) fun μ22 =>
    K3 μ22
theorem K_X2_passes  (p1 : Int)  (μ : Mem) : Con yX2_passes cX2_passes 5 (some .int) 6 [.inr (.inr 60), .inl p1] μ (fX2_passes p1 μ) wI := by
  refine con_of (own := RX2) (by decide) rfl (Nat.le_of_ble_eq_true rfl) ?_
  show Sim cX2_passes 5 RX2 (6) (some .int) wI 0 [(0, .inr (.inr 60)), (1, .inl p1)] [] μ (fX2_passes p1 μ)
  unfold fX2_passes
  refine S_aload_n dX2_passes_0 rfl ?_
  refine S_iload_n dX2_passes_1 rfl ?_
  refine S_iconst dX2_passes_2 rfl ?_
  refine S_callV_I dX2_passes_3 [.inl p1, .inl 0] (K_X2_boldest p1 0 μ) l_X2_156 yo_X2_boldest rfl rfl rfl rfl rfl (fun x1 => ?_)
  refine S_istore_n (lv' := [(2, .inl x1), (0, .inr (.inr 60)), (1, .inl p1)]) dX2_passes_6 rfl rfl ?_
  refine S_iload_n dX2_passes_7 rfl ?_
  refine S_bipush dX2_passes_8 rfl (by decide) ?_
  refine S_jn (fun (K3 : Mem → Option (Int × Mem)) => ∀ (μ2 : Mem), Sim cX2_passes 5 RX2 (6) (some .int) wI 46 [(0, .inr (.inr 60)), (1, .inl p1), (2, .inl x1)] [] μ2 (K3 μ2)) ?_ (fun K3 hK3 => ?_)
  · intro μ2
    refine S_iconst dX2_passes_46 rfl ?_
    refine S_istore_n (lv' := [(3, .inl 0), (0, .inr (.inr 60)), (1, .inl p1), (2, .inl x1)]) dX2_passes_47 rfl rfl ?_
    refine S_jn (fun (K5 : Mem → Option (Int × Mem)) => ∀ (μ4 : Mem), Sim cX2_passes 5 RX2 (6) (some .int) wI 112 [(0, .inr (.inr 60)), (1, .inl p1), (2, .inl x1)] [] μ4 (K5 μ4)) ?_ (fun K5 hK5 => ?_)
    · intro μ4
      refine S_aload_n dX2_passes_112 rfl ?_
      refine S_getR (c1 := 61) dX2_passes_113 rfl fl_X2_7 rfl rfl rfl ?_
      refine S_iload_n dX2_passes_116 rfl ?_
      refine S_iconst dX2_passes_117 rfl ?_
      refine S_iadd dX2_passes_118 ?_
      refine S_dup2 dX2_passes_119 rfl rfl ?_
      refine S_iald (N := 3305) dX2_passes_120 rfl (by decide) rfl ?_
      refine S_iconst dX2_passes_121 rfl ?_
      refine S_iadd dX2_passes_122 ?_
      refine S_iast (N := 3305) dX2_passes_123 rfl (by decide) rfl (fun μ6 => ?_)
      refine S_iload_n dX2_passes_124 rfl ?_
      exact S_iret dX2_passes_125 rfl rfl
    have hL48 : ∀ (n9 : Nat) (x7 : Int) (μ8 : Mem), Sim cX2_passes 5 RX2 (6) (some .int) wI 48 [(0, .inr (.inr 60)), (1, .inl p1), (2, .inl x1), (3, .inl x7)] [] μ8 (fX2_passes_L48 K5 p1 x1 n9 x7 μ8) := by
      intro n9
      induction n9 with
      | zero =>
        intro x7 μ8
        exact S_none rfl
      | succ n9 ih =>
        intro x7 μ8
        rw [fX2_passes_L48]
        refine S_iload_n dX2_passes_48 rfl ?_
        refine S_aload_n dX2_passes_49 rfl ?_
        refine S_getI dX2_passes_50 rfl fl_X2_136 rfl rfl ?_
        refine S_ic_ge (tgt := 112) dX2_passes_53 (by decide) (fun h20 => ?_) (fun h20 => ?_)
        · exact S_sub [0, 1, 2] rfl (hK5 μ8)
        · refine S_aload_n dX2_passes_56 rfl ?_
          refine S_getR (c1 := 61) dX2_passes_57 rfl fl_X2_7 rfl rfl rfl ?_
          refine S_iload_n dX2_passes_60 rfl ?_
          refine S_bipush dX2_passes_61 rfl (by decide) ?_
          refine S_iadd dX2_passes_63 ?_
          refine S_iload_n dX2_passes_64 rfl ?_
          refine S_iadd dX2_passes_65 ?_
          refine S_iald (N := 3305) dX2_passes_66 rfl (by decide) rfl ?_
          refine S_iload_n dX2_passes_67 rfl ?_
          refine S_iload_n dX2_passes_68 rfl ?_
          refine S_jn (fun (K11 : Int → Option (Int × Mem)) => ∀ (x10 : Int), Sim cX2_passes 5 RX2 (6) (some .int) wI 81 [(0, .inr (.inr 60)), (1, .inl p1), (2, .inl x1), (3, .inl x7)] [.inl x10, .inl (μ8 61 ((w32 ((w32 (p1 + 9)) + x7))).toNat)] μ8 (K11 x10)) ?_ (fun K11 hK11 => ?_)
          · intro x10
            refine S_isub dX2_passes_81 ?_
            refine S_let (fun x12 => ?_)
            refine S_istore (lv' := [(4, .inl x12), (0, .inr (.inr 60)), (1, .inl p1), (2, .inl x1), (3, .inl x7)]) dX2_passes_82 rfl rfl ?_
            refine S_aload_n dX2_passes_84 rfl ?_
            refine S_getR (c1 := 61) dX2_passes_85 rfl fl_X2_7 rfl rfl rfl ?_
            refine S_iload_n dX2_passes_88 rfl ?_
            refine S_bipush dX2_passes_89 rfl (by decide) ?_
            refine S_iadd dX2_passes_91 ?_
            refine S_iload_n dX2_passes_92 rfl ?_
            refine S_iadd dX2_passes_93 ?_
            refine S_iload dX2_passes_94 rfl ?_
            refine S_jn (fun (K14 : Int → Option (Int × Mem)) => ∀ (x13 : Int), Sim cX2_passes 5 RX2 (6) (some .int) wI 105 [(0, .inr (.inr 60)), (1, .inl p1), (2, .inl x1), (3, .inl x7)] [.inl x13, .inl (w32 ((w32 (p1 + 9)) + x7)), .inr (.inr 61)] μ8 (K14 x13)) ?_ (fun K14 hK14 => ?_)
            · intro x13
              refine S_iast (N := 3305) dX2_passes_105 rfl (by decide) rfl (fun μ15 => ?_)
              refine S_iinc (lv' := fun x16 => [(3, .inl x16), (0, .inr (.inr 60)), (1, .inl p1), (2, .inl x1)]) dX2_passes_106 rfl rfl rfl (fun _ => rfl) (fun x16 => ?_)
              refine S_goto (tgt := 48) dX2_passes_109 (by decide) ?_
              exact S_sub [1, 2, 3, 0] rfl (ih x16 μ15)
            refine S_if_ge (tgt := 103) dX2_passes_96 (by decide) (fun h17 => ?_) (fun h17 => ?_)
            · refine S_iload dX2_passes_103 rfl ?_
              exact S_sub [1, 2, 3, 4] rfl (hK14 x12)
            · refine S_iconst dX2_passes_99 rfl ?_
              refine S_goto (tgt := 105) dX2_passes_100 (by decide) ?_
              exact S_sub [1, 2, 3, 4] rfl (hK14 0)
          refine S_ic_ne (tgt := 76) dX2_passes_69 (by decide) (fun h19 => ?_) (fun h19 => ?_)
          · refine S_aload_n dX2_passes_76 rfl ?_
            refine S_iload_n dX2_passes_77 rfl ?_
            refine S_callV_I dX2_passes_78 [.inl x7] (K_X2_fades x7 μ8) l_X2_159 yo_X2_fades rfl rfl rfl rfl rfl (fun x18 => ?_)
            exact S_sub [0, 1, 2, 3] rfl (hK11 x18)
          · refine S_iconst dX2_passes_72 rfl ?_
            refine S_goto (tgt := 81) dX2_passes_73 (by decide) ?_
            exact S_sub [0, 1, 2, 3] rfl (hK11 2)
    exact S_sub [1, 2, 3, 0] rfl (hL48 fuel 0 μ2)
  refine S_ic_eq (tgt := 46) dX2_passes_10 (by decide) (fun h23 => ?_) (fun h23 => ?_)
  · exact S_sub [1, 2, 0] rfl (hK3 μ)
  · refine S_aload_n dX2_passes_13 rfl ?_
    refine S_getR (c1 := 61) dX2_passes_14 rfl fl_X2_7 rfl rfl rfl ?_
    refine S_iload_n dX2_passes_17 rfl ?_
    refine S_iconst dX2_passes_18 rfl ?_
    refine S_iadd dX2_passes_19 ?_
    refine S_aload_n dX2_passes_20 rfl ?_
    refine S_getR (c1 := 61) dX2_passes_21 rfl fl_X2_7 rfl rfl rfl ?_
    refine S_iload_n dX2_passes_24 rfl ?_
    refine S_iconst dX2_passes_25 rfl ?_
    refine S_iadd dX2_passes_26 ?_
    refine S_iload_n dX2_passes_27 rfl ?_
    refine S_iadd dX2_passes_28 ?_
    refine S_iald (N := 3305) dX2_passes_29 rfl (by decide) rfl ?_
    refine S_iast (N := 3305) dX2_passes_30 rfl (by decide) rfl (fun μ21 => ?_)
    refine S_aload_n dX2_passes_31 rfl ?_
    refine S_getR (c1 := 61) dX2_passes_32 rfl fl_X2_7 rfl rfl rfl ?_
    refine S_iload_n dX2_passes_35 rfl ?_
    refine S_bipush dX2_passes_36 rfl (by decide) ?_
    refine S_iadd dX2_passes_38 ?_
    refine S_iload_n dX2_passes_39 rfl ?_
    refine S_iadd dX2_passes_40 ?_
    refine S_dup2 dX2_passes_41 rfl rfl ?_
    refine S_iald (N := 3305) dX2_passes_42 rfl (by decide) rfl ?_
    refine S_iconst dX2_passes_43 rfl ?_
    refine S_iadd dX2_passes_44 ?_
    refine S_iast (N := 3305) dX2_passes_45 rfl (by decide) rfl (fun μ22 => ?_)
    exact S_sub [1, 2, 0] rfl (hK3 μ22)
def fX2_toldOf (p1 : Int) (p2 : Int) (μ : Mem) : Option Int :=
  if p2 = 0 then
    grd (0 ≤ p1 ∧ p1 < 6) <|
    some (μ 62 (p1).toNat)
  else
    if p2 = 1 then
      grd (0 ≤ (w32 (3 + p1)) ∧ (w32 (3 + p1)) < 3305) <|
      some (μ 61 ((w32 (3 + p1))).toNat)
    else
      if p2 = 2 then
        grd (0 ≤ (w32 (9 + p1)) ∧ (w32 (9 + p1)) < 3305) <|
        some (μ 61 ((w32 (9 + p1))).toNat)
      else
        if p2 = 3 then
          (fX2_daresIn 0 p1 μ).bind fun x5 =>
          some x5
        else
          if p2 = 4 then
            grd (0 ≤ (w32 (15 + p1)) ∧ (w32 (15 + p1)) < 3305) <|
            some (μ 61 ((w32 (15 + p1))).toNat)
          else
            (fX2_farOf 0 p1 μ).bind fun x7 =>
            some x7
theorem K_X2_toldOf  (p1 : Int) (p2 : Int)  (μ : Mem) : Con yX2_toldOf cX2_toldOf 3 (some .int) 5 [.inr (.inr 60), .inl p1, .inl p2] μ (fX2_toldOf p1 p2 μ) (rI μ) := by
  refine con_of (own := RX2) (by decide) rfl (Nat.le_of_ble_eq_true rfl) ?_
  show Sim cX2_toldOf 3 RX2 (5) (some .int) (rI μ) 0 [(0, .inr (.inr 60)), (1, .inl p1), (2, .inl p2)] [] μ (fX2_toldOf p1 p2 μ)
  unfold fX2_toldOf
  refine S_iload_n dX2_toldOf_0 rfl ?_
  refine S_if (fun h1 => ?_) (fun h1 => ?_)
  · refine S_tsIn (n := 0) (tgt := 36) dX2_toldOf_1 h1 (by decide) (by decide) rfl (by decide) ?_
    refine S_aload_n dX2_toldOf_36 rfl ?_
    refine S_getR (c1 := 62) dX2_toldOf_37 rfl fl_X2_13 rfl rfl rfl ?_
    refine S_iload_n dX2_toldOf_40 rfl ?_
    refine S_iald (N := 6) dX2_toldOf_41 rfl (by decide) rfl ?_
    exact S_iret dX2_toldOf_42 rfl rfl
  · refine S_if (fun h2 => ?_) (fun h2 => ?_)
    · refine S_tsIn (n := 1) (tgt := 43) dX2_toldOf_1 h2 (by decide) (by decide) rfl (by decide) ?_
      refine S_aload_n dX2_toldOf_43 rfl ?_
      refine S_getR (c1 := 61) dX2_toldOf_44 rfl fl_X2_7 rfl rfl rfl ?_
      refine S_iconst dX2_toldOf_47 rfl ?_
      refine S_iload_n dX2_toldOf_48 rfl ?_
      refine S_iadd dX2_toldOf_49 ?_
      refine S_iald (N := 3305) dX2_toldOf_50 rfl (by decide) rfl ?_
      exact S_iret dX2_toldOf_51 rfl rfl
    · refine S_if (fun h3 => ?_) (fun h3 => ?_)
      · refine S_tsIn (n := 2) (tgt := 52) dX2_toldOf_1 h3 (by decide) (by decide) rfl (by decide) ?_
        refine S_aload_n dX2_toldOf_52 rfl ?_
        refine S_getR (c1 := 61) dX2_toldOf_53 rfl fl_X2_7 rfl rfl rfl ?_
        refine S_bipush dX2_toldOf_56 rfl (by decide) ?_
        refine S_iload_n dX2_toldOf_58 rfl ?_
        refine S_iadd dX2_toldOf_59 ?_
        refine S_iald (N := 3305) dX2_toldOf_60 rfl (by decide) rfl ?_
        exact S_iret dX2_toldOf_61 rfl rfl
      · refine S_if (fun h4 => ?_) (fun h4 => ?_)
        · refine S_tsIn (n := 3) (tgt := 62) dX2_toldOf_1 h4 (by decide) (by decide) rfl (by decide) ?_
          refine S_aload_n dX2_toldOf_62 rfl ?_
          refine S_iconst dX2_toldOf_63 rfl ?_
          refine S_iload_n dX2_toldOf_64 rfl ?_
          refine S_callV_I dX2_toldOf_65 [.inl 0, .inl p1] (K_X2_daresIn 0 p1 μ) l_X2_153 yo_X2_daresIn rfl rfl rfl rfl rfl (fun x5 => ?_)
          exact S_iret dX2_toldOf_68 rfl rfl
        · refine S_if (fun h6 => ?_) (fun h6 => ?_)
          · refine S_tsIn (n := 4) (tgt := 69) dX2_toldOf_1 h6 (by decide) (by decide) rfl (by decide) ?_
            refine S_aload_n dX2_toldOf_69 rfl ?_
            refine S_getR (c1 := 61) dX2_toldOf_70 rfl fl_X2_7 rfl rfl rfl ?_
            refine S_bipush dX2_toldOf_73 rfl (by decide) ?_
            refine S_iload_n dX2_toldOf_75 rfl ?_
            refine S_iadd dX2_toldOf_76 ?_
            refine S_iald (N := 3305) dX2_toldOf_77 rfl (by decide) rfl ?_
            exact S_iret dX2_toldOf_78 rfl rfl
          · refine S_tsD (tgt := 79) [0, 1, 2, 3, 4] dX2_toldOf_1 (by decide) (by decide) (by intro v9 h9 e9; simp only [List.mem_cons, List.not_mem_nil, or_false] at h9; omega) ?_
            refine S_aload_n dX2_toldOf_79 rfl ?_
            refine S_iconst dX2_toldOf_80 rfl ?_
            refine S_iload_n dX2_toldOf_81 rfl ?_
            refine S_callV_I dX2_toldOf_82 [.inl 0, .inl p1] (K_X2_farOf 0 p1 μ) l_X2_142 yo_X2_farOf rfl rfl rfl rfl rfl (fun x7 => ?_)
            exact S_iret dX2_toldOf_85 rfl rfl
def fX2_one (p1 : Int) (p2 : Int) (μ : Mem) : Option (Int × Mem) :=
  (fX2_isOne p1 μ).bind fun x1 =>
  mlet (
    some ((-1), μ)
    : Option (Int × Mem)) fun (K2 : Option (Int × Mem)) =>
  if x1 = 0 then
    K2
  else
    (fX2_in p2 0 5 μ).bind fun x3 =>
    if x3 = 0 then
      K2
    else
      (fX2_toldOf p1 p2 μ).bind fun x4 =>
      bnd2 (fX2_tell x4 μ) fun x5 μ6 =>
      some (x5, μ6)
theorem K_X2_one  (p1 : Int) (p2 : Int)  (μ : Mem) : Con yX2_one cX2_one 3 (some .int) 6 [.inr (.inr 60), .inl p1, .inl p2] μ (fX2_one p1 p2 μ) wI := by
  refine con_of (own := RX2) (by decide) rfl (Nat.le_of_ble_eq_true rfl) ?_
  show Sim cX2_one 3 RX2 (6) (some .int) wI 0 [(0, .inr (.inr 60)), (1, .inl p1), (2, .inl p2)] [] μ (fX2_one p1 p2 μ)
  unfold fX2_one
  refine S_aload_n dX2_one_0 rfl ?_
  refine S_iload_n dX2_one_1 rfl ?_
  refine S_callV_I dX2_one_2 [.inl p1] (K_X2_isOne p1 μ) l_X2_162 yo_X2_isOne rfl rfl rfl rfl rfl (fun x1 => ?_)
  refine S_jn (fun (K2 : Option (Int × Mem)) => Sim cX2_one 3 RX2 (6) (some .int) wI 33 [] [] μ K2) ?_ (fun K2 hK2 => ?_)
  · skip
    refine S_iconst dX2_one_33 rfl ?_
    exact S_iret dX2_one_34 rfl rfl
  refine S_if_eq (tgt := 33) dX2_one_5 (by decide) (fun h8 => ?_) (fun h8 => ?_)
  · exact S_sub [] rfl (hK2)
  · refine S_iload_n dX2_one_8 rfl ?_
    refine S_i2l dX2_one_9 ?_
    refine S_lconst (n := 0) dX2_one_10 (by decide) rfl ?_
    refine S_ldc2 dX2_one_11 rfl k_X2_57 ?_
    refine S_callS_I dX2_one_14 [.inr (.inl p2), .inr (.inl 0), .inr (.inl 5)] (K_X2_in p2 0 5 μ) l_X2_59 yo_X2_in rfl rfl rfl (fun x3 => ?_)
    refine S_if_eq (tgt := 33) dX2_one_17 (by decide) (fun h7 => ?_) (fun h7 => ?_)
    · exact S_sub [] rfl (hK2)
    · refine S_aload_n dX2_one_20 rfl ?_
      refine S_aload_n dX2_one_21 rfl ?_
      refine S_iload_n dX2_one_22 rfl ?_
      refine S_iload_n dX2_one_23 rfl ?_
      refine S_callV_I dX2_one_24 [.inl p1, .inl p2] (K_X2_toldOf p1 p2 μ) l_X2_165 yo_X2_toldOf rfl rfl rfl rfl rfl (fun x4 => ?_)
      refine S_callV_M2 dX2_one_27 [.inl x4] (K_X2_tell x4 μ) l_X2_81 yo_X2_tell rfl rfl rfl rfl rfl (fun x5 μ6 => ?_)
      refine S_goto (tgt := 34) dX2_one_30 (by decide) ?_
      exact S_iret dX2_one_34 rfl rfl
