theorem dX2_farAll_0 : decode cX2_farAll 0 = .ok (.lconst 0, 1) := by decide +kernel
theorem dX2_farAll_1 : decode cX2_farAll 1 = .ok (.lstore_n 3, 1) := by decide +kernel
theorem dX2_farAll_2 : decode cX2_farAll 2 = .ok (.aload_n 0, 1) := by decide +kernel
theorem dX2_farAll_3 : decode cX2_farAll 3 = .ok (.lconst 0, 1) := by decide +kernel
theorem dX2_farAll_4 : decode cX2_farAll 4 = .ok (.putfield 258, 3) := by decide +kernel
theorem dX2_farAll_7 : decode cX2_farAll 7 = .ok (.iconst 0, 1) := by decide +kernel
theorem dX2_farAll_8 : decode cX2_farAll 8 = .ok (.istore 5, 2) := by decide +kernel
theorem dX2_farAll_10 : decode cX2_farAll 10 = .ok (.iload 5, 2) := by decide +kernel
theorem dX2_farAll_12 : decode cX2_farAll 12 = .ok (.iconst 1, 1) := by decide +kernel
theorem dX2_farAll_13 : decode cX2_farAll 13 = .ok (.aload_n 0, 1) := by decide +kernel
theorem dX2_farAll_14 : decode cX2_farAll 14 = .ok (.getfield 136, 3) := by decide +kernel
theorem dX2_farAll_17 : decode cX2_farAll 17 = .ok (.ishl, 1) := by decide +kernel
theorem dX2_farAll_18 : decode cX2_farAll 18 = .ok (.if_icmp .ge 74, 3) := by decide +kernel
theorem dX2_farAll_21 : decode cX2_farAll 21 = .ok (.aload_n 0, 1) := by decide +kernel
theorem dX2_farAll_22 : decode cX2_farAll 22 = .ok (.iconst 0, 1) := by decide +kernel
theorem dX2_farAll_23 : decode cX2_farAll 23 = .ok (.iload 5, 2) := by decide +kernel
theorem dX2_farAll_25 : decode cX2_farAll 25 = .ok (.invokevirtual 156, 3) := by decide +kernel
theorem dX2_farAll_28 : decode cX2_farAll 28 = .ok (.istore 6, 2) := by decide +kernel
theorem dX2_farAll_30 : decode cX2_farAll 30 = .ok (.aload_n 0, 1) := by decide +kernel
theorem dX2_farAll_31 : decode cX2_farAll 31 = .ok (.iload 5, 2) := by decide +kernel
theorem dX2_farAll_33 : decode cX2_farAll 33 = .ok (.iload_n 2, 1) := by decide +kernel
theorem dX2_farAll_34 : decode cX2_farAll 34 = .ok (.invokevirtual 250, 3) := by decide +kernel
theorem dX2_farAll_37 : decode cX2_farAll 37 = .ok (.lstore 7, 2) := by decide +kernel
theorem dX2_farAll_39 : decode cX2_farAll 39 = .ok (.lload_n 3, 1) := by decide +kernel
theorem dX2_farAll_40 : decode cX2_farAll 40 = .ok (.lload 7, 2) := by decide +kernel
theorem dX2_farAll_42 : decode cX2_farAll 42 = .ok (.iload_n 1, 1) := by decide +kernel
theorem dX2_farAll_43 : decode cX2_farAll 43 = .ok (.iload 6, 2) := by decide +kernel
theorem dX2_farAll_45 : decode cX2_farAll 45 = .ok (.bipush (-9), 2) := by decide +kernel
theorem dX2_farAll_47 : decode cX2_farAll 47 = .ok (.if_icmp .ne 12, 3) := by decide +kernel
theorem dX2_farAll_50 : decode cX2_farAll 50 = .ok (.aload_n 0, 1) := by decide +kernel
theorem dX2_farAll_51 : decode cX2_farAll 51 = .ok (.getfield 7, 3) := by decide +kernel
theorem dX2_farAll_54 : decode cX2_farAll 54 = .ok (.iconst 2, 1) := by decide +kernel
theorem dX2_farAll_55 : decode cX2_farAll 55 = .ok (.iaload, 1) := by decide +kernel
theorem dX2_farAll_56 : decode cX2_farAll 56 = .ok (.goto 12, 3) := by decide +kernel
theorem dX2_farAll_59 : decode cX2_farAll 59 = .ok (.aload_n 0, 1) := by decide +kernel
theorem dX2_farAll_60 : decode cX2_farAll 60 = .ok (.getfield 7, 3) := by decide +kernel
theorem dX2_farAll_63 : decode cX2_farAll 63 = .ok (.iconst 3, 1) := by decide +kernel
theorem dX2_farAll_64 : decode cX2_farAll 64 = .ok (.iload 6, 2) := by decide +kernel
theorem dX2_farAll_66 : decode cX2_farAll 66 = .ok (.iadd, 1) := by decide +kernel
theorem dX2_farAll_67 : decode cX2_farAll 67 = .ok (.iaload, 1) := by decide +kernel
theorem dX2_farAll_68 : decode cX2_farAll 68 = .ok (.invokestatic 139, 3) := by decide +kernel
theorem dX2_farAll_71 : decode cX2_farAll 71 = .ok (.i2l, 1) := by decide +kernel
theorem dX2_farAll_72 : decode cX2_farAll 72 = .ok (.lmul, 1) := by decide +kernel
theorem dX2_farAll_73 : decode cX2_farAll 73 = .ok (.ladd, 1) := by decide +kernel
theorem dX2_farAll_74 : decode cX2_farAll 74 = .ok (.lstore_n 3, 1) := by decide +kernel
theorem dX2_farAll_75 : decode cX2_farAll 75 = .ok (.aload_n 0, 1) := by decide +kernel
theorem dX2_farAll_76 : decode cX2_farAll 76 = .ok (.dup, 1) := by decide +kernel
theorem dX2_farAll_77 : decode cX2_farAll 77 = .ok (.getfield 258, 3) := by decide +kernel
theorem dX2_farAll_80 : decode cX2_farAll 80 = .ok (.lload 7, 2) := by decide +kernel
theorem dX2_farAll_82 : decode cX2_farAll 82 = .ok (.ladd, 1) := by decide +kernel
theorem dX2_farAll_83 : decode cX2_farAll 83 = .ok (.putfield 258, 3) := by decide +kernel
theorem dX2_farAll_86 : decode cX2_farAll 86 = .ok (.iinc 5 1, 3) := by decide +kernel
theorem dX2_farAll_89 : decode cX2_farAll 89 = .ok (.goto (-79), 3) := by decide +kernel
theorem dX2_farAll_92 : decode cX2_farAll 92 = .ok (.lload_n 3, 1) := by decide +kernel
theorem dX2_farAll_93 : decode cX2_farAll 93 = .ok (.lreturn, 1) := by decide +kernel
theorem dX2_mid_0 : decode cX2_mid 0 = .ok (.iload_n 1, 1) := by decide +kernel
theorem dX2_mid_1 : decode cX2_mid 1 = .ok (.i2l, 1) := by decide +kernel
theorem dX2_mid_2 : decode cX2_mid 2 = .ok (.lconst 0, 1) := by decide +kernel
theorem dX2_mid_3 : decode cX2_mid 3 = .ok (.ldc2_w 182, 3) := by decide +kernel
theorem dX2_mid_6 : decode cX2_mid 6 = .ok (.invokestatic 59, 3) := by decide +kernel
theorem dX2_mid_9 : decode cX2_mid 9 = .ok (.ifCond .eq 15, 3) := by decide +kernel
theorem dX2_mid_12 : decode cX2_mid 12 = .ok (.iload_n 2, 1) := by decide +kernel
theorem dX2_mid_13 : decode cX2_mid 13 = .ok (.i2l, 1) := by decide +kernel
theorem dX2_mid_14 : decode cX2_mid 14 = .ok (.lconst 0, 1) := by decide +kernel
theorem dX2_mid_15 : decode cX2_mid 15 = .ok (.ldc2_w 248, 3) := by decide +kernel
theorem dX2_mid_18 : decode cX2_mid 18 = .ok (.invokestatic 59, 3) := by decide +kernel
theorem dX2_mid_21 : decode cX2_mid 21 = .ok (.ifCond .ne 5, 3) := by decide +kernel
theorem dX2_mid_24 : decode cX2_mid 24 = .ok (.iconst (-1), 1) := by decide +kernel
theorem dX2_mid_25 : decode cX2_mid 25 = .ok (.ireturn, 1) := by decide +kernel
theorem dX2_mid_26 : decode cX2_mid 26 = .ok (.aload_n 0, 1) := by decide +kernel
theorem dX2_mid_27 : decode cX2_mid 27 = .ok (.getfield 136, 3) := by decide +kernel
theorem dX2_mid_30 : decode cX2_mid 30 = .ok (.ifCond .ne 6, 3) := by decide +kernel
theorem dX2_mid_33 : decode cX2_mid 33 = .ok (.bipush (-4), 2) := by decide +kernel
theorem dX2_mid_35 : decode cX2_mid 35 = .ok (.ireturn, 1) := by decide +kernel
theorem dX2_mid_36 : decode cX2_mid 36 = .ok (.aload_n 0, 1) := by decide +kernel
theorem dX2_mid_37 : decode cX2_mid 37 = .ok (.iload_n 1, 1) := by decide +kernel
theorem dX2_mid_38 : decode cX2_mid 38 = .ok (.iload_n 2, 1) := by decide +kernel
theorem dX2_mid_39 : decode cX2_mid 39 = .ok (.invokevirtual 261, 3) := by decide +kernel
theorem dX2_mid_42 : decode cX2_mid 42 = .ok (.lstore_n 3, 1) := by decide +kernel
theorem dX2_mid_43 : decode cX2_mid 43 = .ok (.aload_n 0, 1) := by decide +kernel
theorem dX2_mid_44 : decode cX2_mid 44 = .ok (.lload_n 3, 1) := by decide +kernel
theorem dX2_mid_45 : decode cX2_mid 45 = .ok (.aload_n 0, 1) := by decide +kernel
theorem dX2_mid_46 : decode cX2_mid 46 = .ok (.getfield 258, 3) := by decide +kernel
theorem dX2_mid_49 : decode cX2_mid 49 = .ok (.invokevirtual 254, 3) := by decide +kernel
theorem dX2_mid_52 : decode cX2_mid 52 = .ok (.iconst 1, 1) := by decide +kernel
theorem dX2_mid_53 : decode cX2_mid 53 = .ok (.ireturn, 1) := by decide +kernel
theorem dX2_fair_0 : decode cX2_fair 0 = .ok (.iload_n 1, 1) := by decide +kernel
theorem dX2_fair_1 : decode cX2_fair 1 = .ok (.i2l, 1) := by decide +kernel
theorem dX2_fair_2 : decode cX2_fair 2 = .ok (.lconst 0, 1) := by decide +kernel
theorem dX2_fair_3 : decode cX2_fair 3 = .ok (.ldc2_w 248, 3) := by decide +kernel
theorem dX2_fair_6 : decode cX2_fair 6 = .ok (.invokestatic 59, 3) := by decide +kernel
theorem dX2_fair_9 : decode cX2_fair 9 = .ok (.ifCond .ne 5, 3) := by decide +kernel
theorem dX2_fair_12 : decode cX2_fair 12 = .ok (.iconst (-1), 1) := by decide +kernel
theorem dX2_fair_13 : decode cX2_fair 13 = .ok (.ireturn, 1) := by decide +kernel
theorem dX2_fair_14 : decode cX2_fair 14 = .ok (.aload_n 0, 1) := by decide +kernel
theorem dX2_fair_15 : decode cX2_fair 15 = .ok (.getfield 136, 3) := by decide +kernel
theorem dX2_fair_18 : decode cX2_fair 18 = .ok (.ifCond .ne 6, 3) := by decide +kernel
theorem dX2_fair_21 : decode cX2_fair 21 = .ok (.bipush (-4), 2) := by decide +kernel
theorem dX2_fair_23 : decode cX2_fair 23 = .ok (.ireturn, 1) := by decide +kernel
theorem dX2_fair_24 : decode cX2_fair 24 = .ok (.iconst 0, 1) := by decide +kernel
theorem dX2_fair_25 : decode cX2_fair 25 = .ok (.istore_n 2, 1) := by decide +kernel
theorem dX2_fair_26 : decode cX2_fair 26 = .ok (.ldc2_w 264, 3) := by decide +kernel
theorem dX2_fair_29 : decode cX2_fair 29 = .ok (.lstore_n 3, 1) := by decide +kernel
theorem dX2_fair_30 : decode cX2_fair 30 = .ok (.iconst 0, 1) := by decide +kernel
theorem dX2_fair_31 : decode cX2_fair 31 = .ok (.istore 5, 2) := by decide +kernel
theorem dX2_fair_33 : decode cX2_fair 33 = .ok (.iload 5, 2) := by decide +kernel
theorem dX2_fair_35 : decode cX2_fair 35 = .ok (.bipush 10, 2) := by decide +kernel
theorem dX2_fair_37 : decode cX2_fair 37 = .ok (.if_icmp .ge 62, 3) := by decide +kernel
theorem dX2_fair_40 : decode cX2_fair 40 = .ok (.aload_n 0, 1) := by decide +kernel
theorem dX2_fair_41 : decode cX2_fair 41 = .ok (.iload 5, 2) := by decide +kernel
theorem dX2_fair_43 : decode cX2_fair 43 = .ok (.iload_n 1, 1) := by decide +kernel
theorem dX2_fair_44 : decode cX2_fair 44 = .ok (.invokevirtual 261, 3) := by decide +kernel
theorem dX2_fair_47 : decode cX2_fair 47 = .ok (.lstore 6, 2) := by decide +kernel
theorem dX2_fair_49 : decode cX2_fair 49 = .ok (.lload_n 3, 1) := by decide +kernel
theorem dX2_fair_50 : decode cX2_fair 50 = .ok (.lconst 0, 1) := by decide +kernel
theorem dX2_fair_51 : decode cX2_fair 51 = .ok (.lcmp, 1) := by decide +kernel
theorem dX2_fair_52 : decode cX2_fair 52 = .ok (.ifCond .lt 10, 3) := by decide +kernel
theorem dX2_fair_55 : decode cX2_fair 55 = .ok (.lload 6, 2) := by decide +kernel
theorem dX2_fair_57 : decode cX2_fair 57 = .ok (.lload_n 3, 1) := by decide +kernel
theorem dX2_fair_58 : decode cX2_fair 58 = .ok (.lcmp, 1) := by decide +kernel
theorem dX2_fair_59 : decode cX2_fair 59 = .ok (.ifCond .ge 7, 3) := by decide +kernel
theorem dX2_fair_62 : decode cX2_fair 62 = .ok (.iconst 1, 1) := by decide +kernel
theorem dX2_fair_63 : decode cX2_fair 63 = .ok (.goto 4, 3) := by decide +kernel
theorem dX2_fair_66 : decode cX2_fair 66 = .ok (.iconst 0, 1) := by decide +kernel
theorem dX2_fair_67 : decode cX2_fair 67 = .ok (.istore 8, 2) := by decide +kernel
theorem dX2_fair_69 : decode cX2_fair 69 = .ok (.iload 8, 2) := by decide +kernel
theorem dX2_fair_71 : decode cX2_fair 71 = .ok (.ifCond .eq 8, 3) := by decide +kernel
theorem dX2_fair_74 : decode cX2_fair 74 = .ok (.iload 5, 2) := by decide +kernel
theorem dX2_fair_76 : decode cX2_fair 76 = .ok (.goto 4, 3) := by decide +kernel
theorem dX2_fair_79 : decode cX2_fair 79 = .ok (.iload_n 2, 1) := by decide +kernel
theorem dX2_fair_80 : decode cX2_fair 80 = .ok (.istore_n 2, 1) := by decide +kernel
theorem dX2_fair_81 : decode cX2_fair 81 = .ok (.iload 8, 2) := by decide +kernel
theorem dX2_fair_83 : decode cX2_fair 83 = .ok (.ifCond .eq 8, 3) := by decide +kernel
theorem dX2_fair_86 : decode cX2_fair 86 = .ok (.lload 6, 2) := by decide +kernel
theorem dX2_fair_88 : decode cX2_fair 88 = .ok (.goto 4, 3) := by decide +kernel
theorem dX2_fair_91 : decode cX2_fair 91 = .ok (.lload_n 3, 1) := by decide +kernel
theorem dX2_fair_92 : decode cX2_fair 92 = .ok (.lstore_n 3, 1) := by decide +kernel
theorem dX2_fair_93 : decode cX2_fair 93 = .ok (.iinc 5 1, 3) := by decide +kernel
theorem dX2_fair_96 : decode cX2_fair 96 = .ok (.goto (-63), 3) := by decide +kernel
theorem dX2_fair_99 : decode cX2_fair 99 = .ok (.aload_n 0, 1) := by decide +kernel
theorem dX2_fair_100 : decode cX2_fair 100 = .ok (.lload_n 3, 1) := by decide +kernel
theorem dX2_fair_101 : decode cX2_fair 101 = .ok (.aload_n 0, 1) := by decide +kernel
theorem dX2_fair_102 : decode cX2_fair 102 = .ok (.getfield 258, 3) := by decide +kernel
theorem dX2_fair_105 : decode cX2_fair 105 = .ok (.invokevirtual 254, 3) := by decide +kernel
theorem dX2_fair_108 : decode cX2_fair 108 = .ok (.iload_n 2, 1) := by decide +kernel
theorem dX2_fair_109 : decode cX2_fair 109 = .ok (.ireturn, 1) := by decide +kernel
theorem dX2_byLot_0 : decode cX2_byLot 0 = .ok (.lload_n 1, 1) := by decide +kernel
theorem dX2_byLot_1 : decode cX2_byLot 1 = .ok (.aload_n 0, 1) := by decide +kernel
theorem dX2_byLot_2 : decode cX2_byLot 2 = .ok (.getfield 136, 3) := by decide +kernel
theorem dX2_byLot_5 : decode cX2_byLot 5 = .ok (.i2l, 1) := by decide +kernel
theorem dX2_byLot_6 : decode cX2_byLot 6 = .ok (.lrem, 1) := by decide +kernel
theorem dX2_byLot_7 : decode cX2_byLot 7 = .ok (.l2i, 1) := by decide +kernel
theorem dX2_byLot_8 : decode cX2_byLot 8 = .ok (.istore_n 3, 1) := by decide +kernel
theorem dX2_byLot_9 : decode cX2_byLot 9 = .ok (.lload_n 1, 1) := by decide +kernel
theorem dX2_byLot_10 : decode cX2_byLot 10 = .ok (.ldc2_w 266, 3) := by decide +kernel
theorem dX2_byLot_13 : decode cX2_byLot 13 = .ok (.ldiv, 1) := by decide +kernel
theorem dX2_byLot_14 : decode cX2_byLot 14 = .ok (.ldc2_w 266, 3) := by decide +kernel
theorem dX2_byLot_17 : decode cX2_byLot 17 = .ok (.lrem, 1) := by decide +kernel
theorem dX2_byLot_18 : decode cX2_byLot 18 = .ok (.l2i, 1) := by decide +kernel
theorem dX2_byLot_19 : decode cX2_byLot 19 = .ok (.istore 4, 2) := by decide +kernel
theorem dX2_byLot_21 : decode cX2_byLot 21 = .ok (.iconst 1, 1) := by decide +kernel
theorem dX2_byLot_22 : decode cX2_byLot 22 = .ok (.lload_n 1, 1) := by decide +kernel
theorem dX2_byLot_23 : decode cX2_byLot 23 = .ok (.ldc2_w 268, 3) := by decide +kernel
theorem dX2_byLot_26 : decode cX2_byLot 26 = .ok (.ldiv, 1) := by decide +kernel
theorem dX2_byLot_27 : decode cX2_byLot 27 = .ok (.ldc2_w 57, 3) := by decide +kernel
theorem dX2_byLot_30 : decode cX2_byLot 30 = .ok (.lrem, 1) := by decide +kernel
theorem dX2_byLot_31 : decode cX2_byLot 31 = .ok (.l2i, 1) := by decide +kernel
theorem dX2_byLot_32 : decode cX2_byLot 32 = .ok (.iadd, 1) := by decide +kernel
theorem dX2_byLot_33 : decode cX2_byLot 33 = .ok (.istore 5, 2) := by decide +kernel
theorem dX2_byLot_35 : decode cX2_byLot 35 = .ok (.aload_n 0, 1) := by decide +kernel
theorem dX2_byLot_36 : decode cX2_byLot 36 = .ok (.getfield 7, 3) := by decide +kernel
theorem dX2_byLot_39 : decode cX2_byLot 39 = .ok (.bipush 9, 2) := by decide +kernel
theorem dX2_byLot_41 : decode cX2_byLot 41 = .ok (.iload_n 3, 1) := by decide +kernel
theorem dX2_byLot_42 : decode cX2_byLot 42 = .ok (.iadd, 1) := by decide +kernel
theorem dX2_byLot_43 : decode cX2_byLot 43 = .ok (.iaload, 1) := by decide +kernel
theorem dX2_byLot_44 : decode cX2_byLot 44 = .ok (.istore 6, 2) := by decide +kernel
theorem dX2_byLot_46 : decode cX2_byLot 46 = .ok (.iload 4, 2) := by decide +kernel
theorem dX2_byLot_48 : decode cX2_byLot 48 = .ok (.iconst 2, 1) := by decide +kernel
theorem dX2_byLot_49 : decode cX2_byLot 49 = .ok (.if_icmp .ge 35, 3) := by decide +kernel
theorem dX2_byLot_52 : decode cX2_byLot 52 = .ok (.aload_n 0, 1) := by decide +kernel
theorem dX2_byLot_53 : decode cX2_byLot 53 = .ok (.getfield 7, 3) := by decide +kernel
theorem dX2_byLot_56 : decode cX2_byLot 56 = .ok (.bipush 9, 2) := by decide +kernel
theorem dX2_byLot_58 : decode cX2_byLot 58 = .ok (.iload_n 3, 1) := by decide +kernel
theorem dX2_byLot_59 : decode cX2_byLot 59 = .ok (.iadd, 1) := by decide +kernel
theorem dX2_byLot_60 : decode cX2_byLot 60 = .ok (.iload 6, 2) := by decide +kernel
theorem dX2_byLot_62 : decode cX2_byLot 62 = .ok (.iload 5, 2) := by decide +kernel
theorem dX2_byLot_64 : decode cX2_byLot 64 = .ok (.iadd, 1) := by decide +kernel
theorem dX2_byLot_65 : decode cX2_byLot 65 = .ok (.bipush 20, 2) := by decide +kernel
theorem dX2_byLot_67 : decode cX2_byLot 67 = .ok (.if_icmp .le 8, 3) := by decide +kernel
theorem dX2_byLot_70 : decode cX2_byLot 70 = .ok (.bipush 20, 2) := by decide +kernel
theorem dX2_byLot_72 : decode cX2_byLot 72 = .ok (.goto 8, 3) := by decide +kernel
theorem dX2_byLot_75 : decode cX2_byLot 75 = .ok (.iload 6, 2) := by decide +kernel
theorem dX2_byLot_77 : decode cX2_byLot 77 = .ok (.iload 5, 2) := by decide +kernel
theorem dX2_byLot_79 : decode cX2_byLot 79 = .ok (.iadd, 1) := by decide +kernel
theorem dX2_byLot_80 : decode cX2_byLot 80 = .ok (.iastore, 1) := by decide +kernel
theorem dX2_byLot_81 : decode cX2_byLot 81 = .ok (.goto 70, 3) := by decide +kernel
theorem dX2_byLot_84 : decode cX2_byLot 84 = .ok (.iload 4, 2) := by decide +kernel
theorem dX2_byLot_86 : decode cX2_byLot 86 = .ok (.iconst 2, 1) := by decide +kernel
theorem dX2_byLot_87 : decode cX2_byLot 87 = .ok (.if_icmp .ne 31, 3) := by decide +kernel
theorem dX2_byLot_90 : decode cX2_byLot 90 = .ok (.aload_n 0, 1) := by decide +kernel
theorem dX2_byLot_91 : decode cX2_byLot 91 = .ok (.getfield 7, 3) := by decide +kernel
theorem dX2_byLot_94 : decode cX2_byLot 94 = .ok (.bipush 9, 2) := by decide +kernel
theorem dX2_byLot_96 : decode cX2_byLot 96 = .ok (.iload_n 3, 1) := by decide +kernel
theorem dX2_byLot_97 : decode cX2_byLot 97 = .ok (.iadd, 1) := by decide +kernel
theorem dX2_byLot_98 : decode cX2_byLot 98 = .ok (.iload 6, 2) := by decide +kernel
theorem dX2_byLot_100 : decode cX2_byLot 100 = .ok (.iload 5, 2) := by decide +kernel
theorem dX2_byLot_102 : decode cX2_byLot 102 = .ok (.if_icmp .ge 7, 3) := by decide +kernel
theorem dX2_byLot_105 : decode cX2_byLot 105 = .ok (.iconst 0, 1) := by decide +kernel
theorem dX2_byLot_106 : decode cX2_byLot 106 = .ok (.goto 8, 3) := by decide +kernel
theorem dX2_byLot_109 : decode cX2_byLot 109 = .ok (.iload 6, 2) := by decide +kernel
theorem dX2_byLot_111 : decode cX2_byLot 111 = .ok (.iload 5, 2) := by decide +kernel
theorem dX2_byLot_113 : decode cX2_byLot 113 = .ok (.isub, 1) := by decide +kernel
theorem dX2_byLot_114 : decode cX2_byLot 114 = .ok (.iastore, 1) := by decide +kernel
theorem dX2_byLot_115 : decode cX2_byLot 115 = .ok (.goto 36, 3) := by decide +kernel
theorem dX2_byLot_118 : decode cX2_byLot 118 = .ok (.iload 4, 2) := by decide +kernel
theorem dX2_byLot_120 : decode cX2_byLot 120 = .ok (.iconst 3, 1) := by decide +kernel
theorem dX2_byLot_121 : decode cX2_byLot 121 = .ok (.if_icmp .ne 24, 3) := by decide +kernel
theorem dX2_byLot_124 : decode cX2_byLot 124 = .ok (.aload_n 0, 1) := by decide +kernel
theorem dX2_byLot_125 : decode cX2_byLot 125 = .ok (.getfield 7, 3) := by decide +kernel
theorem dX2_byLot_128 : decode cX2_byLot 128 = .ok (.iconst 3, 1) := by decide +kernel
theorem dX2_byLot_129 : decode cX2_byLot 129 = .ok (.iload_n 3, 1) := by decide +kernel
theorem dX2_byLot_130 : decode cX2_byLot 130 = .ok (.iadd, 1) := by decide +kernel
theorem dX2_byLot_131 : decode cX2_byLot 131 = .ok (.lload_n 1, 1) := by decide +kernel
theorem dX2_byLot_132 : decode cX2_byLot 132 = .ok (.ldc2_w 268, 3) := by decide +kernel
theorem dX2_byLot_135 : decode cX2_byLot 135 = .ok (.ldiv, 1) := by decide +kernel
theorem dX2_byLot_136 : decode cX2_byLot 136 = .ok (.ldc2_w 214, 3) := by decide +kernel
theorem dX2_byLot_139 : decode cX2_byLot 139 = .ok (.lrem, 1) := by decide +kernel
theorem dX2_byLot_140 : decode cX2_byLot 140 = .ok (.l2i, 1) := by decide +kernel
theorem dX2_byLot_141 : decode cX2_byLot 141 = .ok (.iastore, 1) := by decide +kernel
theorem dX2_byLot_142 : decode cX2_byLot 142 = .ok (.goto 9, 3) := by decide +kernel
theorem dX2_byLot_145 : decode cX2_byLot 145 = .ok (.aload_n 0, 1) := by decide +kernel
theorem dX2_byLot_146 : decode cX2_byLot 146 = .ok (.iconst 0, 1) := by decide +kernel
theorem dX2_byLot_147 : decode cX2_byLot 147 = .ok (.invokevirtual 177, 3) := by decide +kernel
theorem dX2_byLot_150 : decode cX2_byLot 150 = .ok (.pop, 1) := by decide +kernel
theorem dX2_byLot_151 : decode cX2_byLot 151 = .ok (.return_, 1) := by decide +kernel
theorem dX2_lots_0 : decode cX2_lots 0 = .ok (.iload_n 1, 1) := by decide +kernel
theorem dX2_lots_1 : decode cX2_lots 1 = .ok (.i2l, 1) := by decide +kernel
theorem dX2_lots_2 : decode cX2_lots 2 = .ok (.lconst 1, 1) := by decide +kernel
theorem dX2_lots_3 : decode cX2_lots 3 = .ok (.ldc2_w 180, 3) := by decide +kernel
theorem dX2_lots_6 : decode cX2_lots 6 = .ok (.invokestatic 59, 3) := by decide +kernel
theorem dX2_lots_9 : decode cX2_lots 9 = .ok (.ifCond .eq 15, 3) := by decide +kernel
theorem dX2_lots_12 : decode cX2_lots 12 = .ok (.iload_n 2, 1) := by decide +kernel
theorem dX2_lots_13 : decode cX2_lots 13 = .ok (.i2l, 1) := by decide +kernel
theorem dX2_lots_14 : decode cX2_lots 14 = .ok (.lconst 1, 1) := by decide +kernel
theorem dX2_lots_15 : decode cX2_lots 15 = .ok (.ldc2_w 270, 3) := by decide +kernel
theorem dX2_lots_18 : decode cX2_lots 18 = .ok (.invokestatic 59, 3) := by decide +kernel
theorem dX2_lots_21 : decode cX2_lots 21 = .ok (.ifCond .ne 5, 3) := by decide +kernel
theorem dX2_lots_24 : decode cX2_lots 24 = .ok (.iconst (-1), 1) := by decide +kernel
theorem dX2_lots_25 : decode cX2_lots 25 = .ok (.ireturn, 1) := by decide +kernel
theorem dX2_lots_26 : decode cX2_lots 26 = .ok (.aload_n 0, 1) := by decide +kernel
theorem dX2_lots_27 : decode cX2_lots 27 = .ok (.getfield 136, 3) := by decide +kernel
theorem dX2_lots_30 : decode cX2_lots 30 = .ok (.ifCond .ne 6, 3) := by decide +kernel
theorem dX2_lots_33 : decode cX2_lots 33 = .ok (.bipush (-4), 2) := by decide +kernel
theorem dX2_lots_35 : decode cX2_lots 35 = .ok (.ireturn, 1) := by decide +kernel
theorem dX2_lots_36 : decode cX2_lots 36 = .ok (.aload_n 0, 1) := by decide +kernel
theorem dX2_lots_37 : decode cX2_lots 37 = .ok (.getfield 7, 3) := by decide +kernel
theorem dX2_lots_40 : decode cX2_lots 40 = .ok (.iconst 0, 1) := by decide +kernel
theorem dX2_lots_41 : decode cX2_lots 41 = .ok (.iaload, 1) := by decide +kernel
theorem dX2_lots_42 : decode cX2_lots 42 = .ok (.iload_n 1, 1) := by decide +kernel
theorem dX2_lots_43 : decode cX2_lots 43 = .ok (.iadd, 1) := by decide +kernel
theorem dX2_lots_44 : decode cX2_lots 44 = .ok (.bipush 40, 2) := by decide +kernel
theorem dX2_lots_46 : decode cX2_lots 46 = .ok (.if_icmp .le 6, 3) := by decide +kernel
theorem dX2_lots_49 : decode cX2_lots 49 = .ok (.bipush (-2), 2) := by decide +kernel
theorem dX2_lots_51 : decode cX2_lots 51 = .ok (.ireturn, 1) := by decide +kernel
theorem dX2_lots_52 : decode cX2_lots 52 = .ok (.iload_n 2, 1) := by decide +kernel
theorem dX2_lots_53 : decode cX2_lots 53 = .ok (.i2l, 1) := by decide +kernel
theorem dX2_lots_54 : decode cX2_lots 54 = .ok (.lstore_n 3, 1) := by decide +kernel
theorem dX2_lots_55 : decode cX2_lots 55 = .ok (.iconst 0, 1) := by decide +kernel
theorem dX2_lots_56 : decode cX2_lots 56 = .ok (.istore 5, 2) := by decide +kernel
theorem dX2_lots_58 : decode cX2_lots 58 = .ok (.iload 5, 2) := by decide +kernel
theorem dX2_lots_60 : decode cX2_lots 60 = .ok (.iload_n 1, 1) := by decide +kernel
theorem dX2_lots_61 : decode cX2_lots 61 = .ok (.if_icmp .ge 28, 3) := by decide +kernel
theorem dX2_lots_64 : decode cX2_lots 64 = .ok (.lload_n 3, 1) := by decide +kernel
theorem dX2_lots_65 : decode cX2_lots 65 = .ok (.ldc2_w 272, 3) := by decide +kernel
theorem dX2_lots_68 : decode cX2_lots 68 = .ok (.lmul, 1) := by decide +kernel
theorem dX2_lots_69 : decode cX2_lots 69 = .ok (.ldc2_w 274, 3) := by decide +kernel
theorem dX2_lots_72 : decode cX2_lots 72 = .ok (.lrem, 1) := by decide +kernel
theorem dX2_lots_73 : decode cX2_lots 73 = .ok (.lstore_n 3, 1) := by decide +kernel
theorem dX2_lots_74 : decode cX2_lots 74 = .ok (.aload_n 0, 1) := by decide +kernel
theorem dX2_lots_75 : decode cX2_lots 75 = .ok (.invokevirtual 174, 3) := by decide +kernel
theorem dX2_lots_78 : decode cX2_lots 78 = .ok (.aload_n 0, 1) := by decide +kernel
theorem dX2_lots_79 : decode cX2_lots 79 = .ok (.lload_n 3, 1) := by decide +kernel
theorem dX2_lots_80 : decode cX2_lots 80 = .ok (.invokevirtual 276, 3) := by decide +kernel
theorem dX2_lots_83 : decode cX2_lots 83 = .ok (.iinc 5 1, 3) := by decide +kernel
theorem dX2_lots_86 : decode cX2_lots 86 = .ok (.goto (-28), 3) := by decide +kernel
theorem dX2_lots_89 : decode cX2_lots 89 = .ok (.aload_n 0, 1) := by decide +kernel
theorem dX2_lots_90 : decode cX2_lots 90 = .ok (.getfield 7, 3) := by decide +kernel
theorem dX2_lots_93 : decode cX2_lots 93 = .ok (.iconst 2, 1) := by decide +kernel
theorem dX2_lots_94 : decode cX2_lots 94 = .ok (.iaload, 1) := by decide +kernel
theorem dX2_lots_95 : decode cX2_lots 95 = .ok (.ireturn, 1) := by decide +kernel
theorem dX2_asked_0 : decode cX2_asked 0 = .ok (.aload_n 0, 1) := by decide +kernel
theorem dX2_asked_1 : decode cX2_asked 1 = .ok (.getfield 54, 3) := by decide +kernel
theorem dX2_asked_4 : decode cX2_asked 4 = .ok (.ireturn, 1) := by decide +kernel
theorem dX2_upper_0 : decode cX2_upper 0 = .ok (.aload_n 0, 1) := by decide +kernel
theorem dX2_upper_1 : decode cX2_upper 1 = .ok (.getfield 239, 3) := by decide +kernel
theorem dX2_upper_4 : decode cX2_upper 4 = .ok (.lreturn, 1) := by decide +kernel
theorem dX2_lower_0 : decode cX2_lower 0 = .ok (.aload_n 0, 1) := by decide +kernel
theorem dX2_lower_1 : decode cX2_lower 1 = .ok (.getfield 28, 3) := by decide +kernel
theorem dX2_lower_4 : decode cX2_lower 4 = .ok (.lreturn, 1) := by decide +kernel
theorem dX2_those_0 : decode cX2_those 0 = .ok (.iconst 0, 1) := by decide +kernel
theorem dX2_those_1 : decode cX2_those 1 = .ok (.istore_n 2, 1) := by decide +kernel
theorem dX2_those_2 : decode cX2_those 2 = .ok (.iconst 0, 1) := by decide +kernel
theorem dX2_those_3 : decode cX2_those 3 = .ok (.istore_n 3, 1) := by decide +kernel
theorem dX2_those_4 : decode cX2_those 4 = .ok (.iload_n 3, 1) := by decide +kernel
theorem dX2_those_5 : decode cX2_those 5 = .ok (.aload_n 0, 1) := by decide +kernel
theorem dX2_those_6 : decode cX2_those 6 = .ok (.getfield 136, 3) := by decide +kernel
theorem dX2_those_9 : decode cX2_those 9 = .ok (.if_icmp .ge 26, 3) := by decide +kernel
theorem dX2_those_12 : decode cX2_those 12 = .ok (.iload_n 2, 1) := by decide +kernel
theorem dX2_those_13 : decode cX2_those 13 = .ok (.aload_n 0, 1) := by decide +kernel
theorem dX2_those_14 : decode cX2_those 14 = .ok (.iload_n 3, 1) := by decide +kernel
theorem dX2_those_15 : decode cX2_those 15 = .ok (.iload_n 1, 1) := by decide +kernel
theorem dX2_those_16 : decode cX2_those 16 = .ok (.invokevirtual 168, 3) := by decide +kernel
theorem dX2_those_19 : decode cX2_those 19 = .ok (.ifCond .eq 7, 3) := by decide +kernel
theorem dX2_those_22 : decode cX2_those 22 = .ok (.iconst 1, 1) := by decide +kernel
theorem dX2_those_23 : decode cX2_those 23 = .ok (.goto 4, 3) := by decide +kernel
theorem dX2_those_26 : decode cX2_those 26 = .ok (.iconst 0, 1) := by decide +kernel
theorem dX2_those_27 : decode cX2_those 27 = .ok (.iadd, 1) := by decide +kernel
theorem dX2_those_28 : decode cX2_those 28 = .ok (.istore_n 2, 1) := by decide +kernel
theorem dX2_those_29 : decode cX2_those 29 = .ok (.iinc 3 1, 3) := by decide +kernel
theorem dX2_those_32 : decode cX2_those 32 = .ok (.goto (-28), 3) := by decide +kernel
theorem dX2_those_35 : decode cX2_those 35 = .ok (.iload_n 2, 1) := by decide +kernel
theorem dX2_those_36 : decode cX2_those 36 = .ok (.ireturn, 1) := by decide +kernel
theorem dX2_crossedByAll_0 : decode cX2_crossedByAll 0 = .ok (.iconst 0, 1) := by decide +kernel
theorem dX2_crossedByAll_1 : decode cX2_crossedByAll 1 = .ok (.istore_n 1, 1) := by decide +kernel
theorem dX2_crossedByAll_2 : decode cX2_crossedByAll 2 = .ok (.iconst 0, 1) := by decide +kernel
theorem dX2_crossedByAll_3 : decode cX2_crossedByAll 3 = .ok (.istore_n 2, 1) := by decide +kernel
theorem dX2_crossedByAll_4 : decode cX2_crossedByAll 4 = .ok (.iload_n 2, 1) := by decide +kernel
theorem dX2_crossedByAll_5 : decode cX2_crossedByAll 5 = .ok (.aload_n 0, 1) := by decide +kernel
theorem dX2_crossedByAll_6 : decode cX2_crossedByAll 6 = .ok (.getfield 136, 3) := by decide +kernel
theorem dX2_crossedByAll_9 : decode cX2_crossedByAll 9 = .ok (.if_icmp .ge 21, 3) := by decide +kernel
theorem dX2_crossedByAll_12 : decode cX2_crossedByAll 12 = .ok (.iload_n 1, 1) := by decide +kernel
theorem dX2_crossedByAll_13 : decode cX2_crossedByAll 13 = .ok (.aload_n 0, 1) := by decide +kernel
theorem dX2_crossedByAll_14 : decode cX2_crossedByAll 14 = .ok (.getfield 7, 3) := by decide +kernel
theorem dX2_crossedByAll_17 : decode cX2_crossedByAll 17 = .ok (.bipush 15, 2) := by decide +kernel
theorem dX2_crossedByAll_19 : decode cX2_crossedByAll 19 = .ok (.iload_n 2, 1) := by decide +kernel
theorem dX2_crossedByAll_20 : decode cX2_crossedByAll 20 = .ok (.iadd, 1) := by decide +kernel
theorem dX2_crossedByAll_21 : decode cX2_crossedByAll 21 = .ok (.iaload, 1) := by decide +kernel
theorem dX2_crossedByAll_22 : decode cX2_crossedByAll 22 = .ok (.iadd, 1) := by decide +kernel
theorem dX2_crossedByAll_23 : decode cX2_crossedByAll 23 = .ok (.istore_n 1, 1) := by decide +kernel
theorem dX2_crossedByAll_24 : decode cX2_crossedByAll 24 = .ok (.iinc 2 1, 3) := by decide +kernel
theorem dX2_crossedByAll_27 : decode cX2_crossedByAll 27 = .ok (.goto (-23), 3) := by decide +kernel
theorem dX2_crossedByAll_30 : decode cX2_crossedByAll 30 = .ok (.iload_n 1, 1) := by decide +kernel
theorem dX2_crossedByAll_31 : decode cX2_crossedByAll 31 = .ok (.ireturn, 1) := by decide +kernel
theorem dX2_thereOf_0 : decode cX2_thereOf 0 = .ok (.iconst 0, 1) := by decide +kernel
theorem dX2_thereOf_1 : decode cX2_thereOf 1 = .ok (.istore_n 2, 1) := by decide +kernel
theorem dX2_thereOf_2 : decode cX2_thereOf 2 = .ok (.iconst 0, 1) := by decide +kernel
theorem dX2_thereOf_3 : decode cX2_thereOf 3 = .ok (.istore_n 3, 1) := by decide +kernel
theorem dX2_thereOf_4 : decode cX2_thereOf 4 = .ok (.iload_n 3, 1) := by decide +kernel
theorem dX2_thereOf_5 : decode cX2_thereOf 5 = .ok (.bipush 6, 2) := by decide +kernel
theorem dX2_thereOf_7 : decode cX2_thereOf 7 = .ok (.if_icmp .ge 90, 3) := by decide +kernel
theorem dX2_thereOf_10 : decode cX2_thereOf 10 = .ok (.iload_n 2, 1) := by decide +kernel
theorem dX2_thereOf_11 : decode cX2_thereOf 11 = .ok (.iload_n 1, 1) := by decide +kernel
theorem dX2_thereOf_12 : decode cX2_thereOf 12 = .ok (.bipush 9, 2) := by decide +kernel
theorem dX2_thereOf_14 : decode cX2_thereOf 14 = .ok (.if_icmp .ne 20, 3) := by decide +kernel
theorem dX2_thereOf_17 : decode cX2_thereOf 17 = .ok (.aload_n 0, 1) := by decide +kernel
theorem dX2_thereOf_18 : decode cX2_thereOf 18 = .ok (.getfield 16, 3) := by decide +kernel
theorem dX2_thereOf_21 : decode cX2_thereOf 21 = .ok (.iload_n 3, 1) := by decide +kernel
theorem dX2_thereOf_22 : decode cX2_thereOf 22 = .ok (.iaload, 1) := by decide +kernel
theorem dX2_thereOf_23 : decode cX2_thereOf 23 = .ok (.ifCond .ge 7, 3) := by decide +kernel
theorem dX2_thereOf_26 : decode cX2_thereOf 26 = .ok (.iconst 0, 1) := by decide +kernel
theorem dX2_thereOf_27 : decode cX2_thereOf 27 = .ok (.goto 62, 3) := by decide +kernel
theorem dX2_thereOf_30 : decode cX2_thereOf 30 = .ok (.iconst 1, 1) := by decide +kernel
theorem dX2_thereOf_31 : decode cX2_thereOf 31 = .ok (.goto 58, 3) := by decide +kernel
theorem dX2_thereOf_34 : decode cX2_thereOf 34 = .ok (.iload_n 1, 1) := by decide +kernel
theorem dX2_thereOf_35 : decode cX2_thereOf 35 = .ok (.bipush 10, 2) := by decide +kernel
theorem dX2_thereOf_37 : decode cX2_thereOf 37 = .ok (.if_icmp .ne 25, 3) := by decide +kernel
theorem dX2_thereOf_40 : decode cX2_thereOf 40 = .ok (.iload_n 3, 1) := by decide +kernel
theorem dX2_thereOf_41 : decode cX2_thereOf 41 = .ok (.iconst 4, 1) := by decide +kernel
theorem dX2_thereOf_42 : decode cX2_thereOf 42 = .ok (.if_icmp .ge 16, 3) := by decide +kernel
theorem dX2_thereOf_45 : decode cX2_thereOf 45 = .ok (.aload_n 0, 1) := by decide +kernel
theorem dX2_thereOf_46 : decode cX2_thereOf 46 = .ok (.getfield 22, 3) := by decide +kernel
theorem dX2_thereOf_49 : decode cX2_thereOf 49 = .ok (.iload_n 3, 1) := by decide +kernel
theorem dX2_thereOf_50 : decode cX2_thereOf 50 = .ok (.iaload, 1) := by decide +kernel
theorem dX2_thereOf_51 : decode cX2_thereOf 51 = .ok (.ifCond .lt 7, 3) := by decide +kernel
theorem dX2_thereOf_54 : decode cX2_thereOf 54 = .ok (.iconst 1, 1) := by decide +kernel
theorem dX2_thereOf_55 : decode cX2_thereOf 55 = .ok (.goto 34, 3) := by decide +kernel
theorem dX2_thereOf_58 : decode cX2_thereOf 58 = .ok (.iconst 0, 1) := by decide +kernel
theorem dX2_thereOf_59 : decode cX2_thereOf 59 = .ok (.goto 30, 3) := by decide +kernel
theorem dX2_thereOf_62 : decode cX2_thereOf 62 = .ok (.iload_n 3, 1) := by decide +kernel
theorem dX2_thereOf_63 : decode cX2_thereOf 63 = .ok (.iconst 3, 1) := by decide +kernel
theorem dX2_thereOf_64 : decode cX2_thereOf 64 = .ok (.if_icmp .ge 24, 3) := by decide +kernel
theorem dX2_thereOf_67 : decode cX2_thereOf 67 = .ok (.aload_n 0, 1) := by decide +kernel
theorem dX2_thereOf_68 : decode cX2_thereOf 68 = .ok (.getfield 7, 3) := by decide +kernel
theorem dX2_thereOf_71 : decode cX2_thereOf 71 = .ok (.sipush 821, 3) := by decide +kernel
theorem dX2_thereOf_74 : decode cX2_thereOf 74 = .ok (.iconst 1, 1) := by decide +kernel
theorem dX2_thereOf_75 : decode cX2_thereOf 75 = .ok (.iload_n 3, 1) := by decide +kernel
theorem dX2_thereOf_76 : decode cX2_thereOf 76 = .ok (.iadd, 1) := by decide +kernel
theorem dX2_thereOf_77 : decode cX2_thereOf 77 = .ok (.imul, 1) := by decide +kernel
theorem dX2_thereOf_78 : decode cX2_thereOf 78 = .ok (.iconst 0, 1) := by decide +kernel
theorem dX2_thereOf_79 : decode cX2_thereOf 79 = .ok (.iadd, 1) := by decide +kernel
theorem dX2_thereOf_80 : decode cX2_thereOf 80 = .ok (.iaload, 1) := by decide +kernel
theorem dX2_thereOf_81 : decode cX2_thereOf 81 = .ok (.ifCond .lt 7, 3) := by decide +kernel
theorem dX2_thereOf_84 : decode cX2_thereOf 84 = .ok (.iconst 1, 1) := by decide +kernel
theorem dX2_thereOf_85 : decode cX2_thereOf 85 = .ok (.goto 4, 3) := by decide +kernel
theorem dX2_thereOf_88 : decode cX2_thereOf 88 = .ok (.iconst 0, 1) := by decide +kernel
theorem dX2_thereOf_89 : decode cX2_thereOf 89 = .ok (.iadd, 1) := by decide +kernel
theorem dX2_thereOf_90 : decode cX2_thereOf 90 = .ok (.istore_n 2, 1) := by decide +kernel
theorem dX2_thereOf_91 : decode cX2_thereOf 91 = .ok (.iinc 3 1, 3) := by decide +kernel
theorem dX2_thereOf_94 : decode cX2_thereOf 94 = .ok (.goto (-90), 3) := by decide +kernel
theorem dX2_thereOf_97 : decode cX2_thereOf 97 = .ok (.iload_n 2, 1) := by decide +kernel
theorem dX2_thereOf_98 : decode cX2_thereOf 98 = .ok (.ireturn, 1) := by decide +kernel
theorem fl_X2_258 : FLk RX2 258 2 22 := Or.inl (in_gd (i := 635) (by decide +kernel) rfl)
theorem mt_X2_farAll : (Cond.instanceMethod yX2_farAll ∈ gd_tbl ∧ Cond.selects yX2_farAll.cls yX2_farAll yX2_farAll ∈ gd_tbl) ∧ Cond.initialized yX2_farAll.cls ∈ gd_tbl ∧ Cond.code yX2_farAll cX2_farAll 9 (some .long) ∈ gd_tbl := ⟨⟨in_gd (i := 1011) (by decide +kernel) rfl, in_gd (i := 77) (by decide +kernel) rfl⟩, in_gd (i := 87) (by decide +kernel) rfl, in_gd (i := 1012) (by decide +kernel) rfl⟩
theorem yo_X2_farAll : yOk yX2_farAll 2 := ⟨by decide, by decide, by decide +kernel⟩
theorem l_X2_261 : mlV RX2 261 yX2_farAll cX2_farAll 9 (some .long) := ⟨in_gd (i := 1009) (by decide +kernel) rfl, mt_X2_farAll⟩
theorem k_X2_264 : Cond.constantLong RX2 264 (Int64.ofInt (-1)) ∈ gd_tbl := in_gd (i := 1017) (by decide +kernel) rfl
theorem k_X2_266 : Cond.constantLong RX2 266 (Int64.ofInt 8) ∈ gd_tbl := in_gd (i := 1029) (by decide +kernel) rfl
theorem k_X2_268 : Cond.constantLong RX2 268 (Int64.ofInt 64) ∈ gd_tbl := in_gd (i := 1030) (by decide +kernel) rfl
theorem k_X2_270 : Cond.constantLong RX2 270 (Int64.ofInt 2147483646) ∈ gd_tbl := in_gd (i := 1022) (by decide +kernel) rfl
theorem k_X2_272 : Cond.constantLong RX2 272 (Int64.ofInt 48271) ∈ gd_tbl := in_gd (i := 1023) (by decide +kernel) rfl
theorem k_X2_274 : Cond.constantLong RX2 274 (Int64.ofInt 2147483647) ∈ gd_tbl := in_gd (i := 1024) (by decide +kernel) rfl
theorem mt_X2_byLot : (Cond.instanceMethod yX2_byLot ∈ gd_tbl ∧ Cond.selects yX2_byLot.cls yX2_byLot yX2_byLot ∈ gd_tbl) ∧ Cond.initialized yX2_byLot.cls ∈ gd_tbl ∧ Cond.code yX2_byLot cX2_byLot 7 (none) ∈ gd_tbl := ⟨⟨in_gd (i := 1027) (by decide +kernel) rfl, in_gd (i := 78) (by decide +kernel) rfl⟩, in_gd (i := 87) (by decide +kernel) rfl, in_gd (i := 1028) (by decide +kernel) rfl⟩
theorem yo_X2_byLot : yOk yX2_byLot 1 := ⟨by decide, by decide, by decide +kernel⟩
theorem l_X2_276 : mlV RX2 276 yX2_byLot cX2_byLot 7 (none) := ⟨in_gd (i := 1025) (by decide +kernel) rfl, mt_X2_byLot⟩
def fX2_farAll_L10 (p2 : Int) (p1 : Int) : Nat → Int → Int → Mem → Option (Int × Mem)
  | 0, _, _, _ => none
  | n5 + 1, x2, x3, μ4 =>
    if (bshl 1 (μ4 60 1)) ≤ x3 then
      some (x2, μ4)
    else
      (fX2_boldest 0 x3 μ4).bind fun x6 =>
      (fX2_chancesOf x3 p2 μ4).bind fun x7 =>
      mlet (fun (x8 : Int) =>
        (fX2_apart p1 x8 μ4).bind fun x10 =>
        mlet ((w64 (x2 + (w64 (x7 * x10))))) fun x11 =>
        mlet (wr μ4 60 22 (w64 ((μ4 60 22) + x7))) fun μ12 =>
        mlet (w32 (x3 + 1)) fun x13 =>
        fX2_farAll_L10 p2 p1 n5 x11 x13 μ12
        ) fun (K9 : Int → Option (Int × Mem)) =>
      if ¬ x6 = (-9) then
        grd (0 ≤ (w32 (3 + x6)) ∧ (w32 (3 + x6)) < 3305) <|
        K9 (μ4 61 ((w32 (3 + x6))).toNat)
      else
        K9 (μ4 61 2)
def fX2_farAll (p1 : Int) (p2 : Int) (μ : Mem) : Option (Int × Mem) :=
  mlet (wr μ 60 22 0) fun μ1 =>
  fX2_farAll_L10 p2 p1 fuel 0 0 μ1
theorem K_X2_farAll  (p1 : Int) (p2 : Int)  (μ : Mem) : Con yX2_farAll cX2_farAll 9 (some .long) 6 [.inr (.inr 60), .inl p1, .inl p2] μ (fX2_farAll p1 p2 μ) wL := by
  refine con_of (own := RX2) (by decide) rfl (Nat.le_of_ble_eq_true rfl) ?_
  show Sim cX2_farAll 9 RX2 (6) (some .long) wL 0 [(0, .inr (.inr 60)), (1, .inl p1), (2, .inl p2)] [] μ (fX2_farAll p1 p2 μ)
  unfold fX2_farAll
  refine S_lconst (n := 0) dX2_farAll_0 (by decide) rfl ?_
  refine S_lstore_n (lv' := [(3, .inr (.inl 0)), (0, .inr (.inr 60)), (1, .inl p1), (2, .inl p2)]) dX2_farAll_1 rfl rfl ?_
  refine S_aload_n dX2_farAll_2 rfl ?_
  refine S_lconst (n := 0) dX2_farAll_3 (by decide) rfl ?_
  refine S_putL dX2_farAll_4 rfl fl_X2_258 rfl rfl rfl rfl (fun μ1 => ?_)
  refine S_iconst dX2_farAll_7 rfl ?_
  refine S_istore (lv' := [(5, .inl 0), (3, .inr (.inl 0)), (0, .inr (.inr 60)), (1, .inl p1), (2, .inl p2)]) dX2_farAll_8 rfl rfl ?_
  have hL10 : ∀ (n5 : Nat) (x2 : Int) (x3 : Int) (μ4 : Mem), Sim cX2_farAll 9 RX2 (6) (some .long) wL 10 [(0, .inr (.inr 60)), (1, .inl p1), (2, .inl p2), (3, .inr (.inl x2)), (5, .inl x3)] [] μ4 (fX2_farAll_L10 p2 p1 n5 x2 x3 μ4) := by
    intro n5
    induction n5 with
    | zero =>
      intro x2 x3 μ4
      exact S_none rfl
    | succ n5 ih =>
      intro x2 x3 μ4
      rw [fX2_farAll_L10]
      refine S_iload dX2_farAll_10 rfl ?_
      refine S_iconst dX2_farAll_12 rfl ?_
      refine S_aload_n dX2_farAll_13 rfl ?_
      refine S_getI dX2_farAll_14 rfl fl_X2_136 rfl rfl ?_
      refine S_ishl dX2_farAll_17 ?_
      refine S_ic_ge (tgt := 92) dX2_farAll_18 (by decide) (fun h15 => ?_) (fun h15 => ?_)
      · refine S_lload_n dX2_farAll_92 rfl ?_
        exact S_lret dX2_farAll_93 rfl rfl
      · refine S_aload_n dX2_farAll_21 rfl ?_
        refine S_iconst dX2_farAll_22 rfl ?_
        refine S_iload dX2_farAll_23 rfl ?_
        refine S_callV_I dX2_farAll_25 [.inl 0, .inl x3] (K_X2_boldest 0 x3 μ4) l_X2_156 yo_X2_boldest rfl rfl rfl rfl rfl (fun x6 => ?_)
        refine S_istore (lv' := [(6, .inl x6), (0, .inr (.inr 60)), (1, .inl p1), (2, .inl p2), (3, .inr (.inl x2)), (5, .inl x3)]) dX2_farAll_28 rfl rfl ?_
        refine S_aload_n dX2_farAll_30 rfl ?_
        refine S_iload dX2_farAll_31 rfl ?_
        refine S_iload_n dX2_farAll_33 rfl ?_
        refine S_callV_L dX2_farAll_34 [.inl x3, .inl p2] (K_X2_chancesOf x3 p2 μ4) l_X2_250 yo_X2_chancesOf rfl rfl rfl rfl rfl (fun x7 => ?_)
        refine S_lstore (lv' := [(7, .inr (.inl x7)), (6, .inl x6), (0, .inr (.inr 60)), (1, .inl p1), (2, .inl p2), (3, .inr (.inl x2)), (5, .inl x3)]) dX2_farAll_37 rfl rfl ?_
        refine S_lload_n dX2_farAll_39 rfl ?_
        refine S_lload dX2_farAll_40 rfl ?_
        refine S_iload_n dX2_farAll_42 rfl ?_
        refine S_iload dX2_farAll_43 rfl ?_
        refine S_bipush dX2_farAll_45 rfl (by decide) ?_
        refine S_jn (fun (K9 : Int → Option (Int × Mem)) => ∀ (x8 : Int), Sim cX2_farAll 9 RX2 (6) (some .long) wL 68 [(0, .inr (.inr 60)), (1, .inl p1), (2, .inl p2), (5, .inl x3), (7, .inr (.inl x7))] [.inl x8, .inl p1, .inr (.inl x7), .inr (.inl x2)] μ4 (K9 x8)) ?_ (fun K9 hK9 => ?_)
        · intro x8
          refine S_callS_I dX2_farAll_68 [.inl p1, .inl x8] (K_X2_apart p1 x8 μ4) l_X2_139 yo_X2_apart rfl rfl rfl (fun x10 => ?_)
          refine S_i2l dX2_farAll_71 ?_
          refine S_lmul dX2_farAll_72 ?_
          refine S_ladd dX2_farAll_73 ?_
          refine S_letL (fun x11 => ?_)
          refine S_lstore_n (lv' := [(3, .inr (.inl x11)), (0, .inr (.inr 60)), (1, .inl p1), (2, .inl p2), (5, .inl x3), (7, .inr (.inl x7))]) dX2_farAll_74 rfl rfl ?_
          refine S_aload_n dX2_farAll_75 rfl ?_
          refine S_dup dX2_farAll_76 rfl ?_
          refine S_getL dX2_farAll_77 rfl fl_X2_258 rfl rfl ?_
          refine S_lload dX2_farAll_80 rfl ?_
          refine S_ladd dX2_farAll_82 ?_
          refine S_putL dX2_farAll_83 rfl fl_X2_258 rfl rfl rfl rfl (fun μ12 => ?_)
          refine S_iinc (lv' := fun x13 => [(5, .inl x13), (3, .inr (.inl x11)), (0, .inr (.inr 60)), (1, .inl p1), (2, .inl p2), (7, .inr (.inl x7))]) dX2_farAll_86 rfl rfl rfl (fun _ => rfl) (fun x13 => ?_)
          refine S_goto (tgt := 10) dX2_farAll_89 (by decide) ?_
          exact S_sub [2, 3, 4, 1, 0] rfl (ih x11 x13 μ12)
        refine S_ic_ne (tgt := 59) dX2_farAll_47 (by decide) (fun h14 => ?_) (fun h14 => ?_)
        · refine S_aload_n dX2_farAll_59 rfl ?_
          refine S_getR (c1 := 61) dX2_farAll_60 rfl fl_X2_7 rfl rfl rfl ?_
          refine S_iconst dX2_farAll_63 rfl ?_
          refine S_iload dX2_farAll_64 rfl ?_
          refine S_iadd dX2_farAll_66 ?_
          refine S_iald (N := 3305) dX2_farAll_67 rfl (by decide) rfl ?_
          exact S_sub [2, 3, 4, 6, 0] rfl (hK9 (μ4 61 ((w32 (3 + x6))).toNat))
        · refine S_aload_n dX2_farAll_50 rfl ?_
          refine S_getR (c1 := 61) dX2_farAll_51 rfl fl_X2_7 rfl rfl rfl ?_
          refine S_iconst dX2_farAll_54 rfl ?_
          refine S_ialdK (k := 2) dX2_farAll_55 rfl (by decide) (by decide) ?_
          refine S_goto (tgt := 68) dX2_farAll_56 (by decide) ?_
          exact S_sub [2, 3, 4, 6, 0] rfl (hK9 (μ4 61 2))
  exact S_sub [2, 3, 4, 1, 0] rfl (hL10 fuel 0 0 μ1)
def fX2_mid (p1 : Int) (p2 : Int) (μ : Mem) : Option (Int × Mem) :=
  (fX2_in p1 0 9 μ).bind fun x1 =>
  if x1 = 0 then
    some ((-1), μ)
  else
    (fX2_in p2 0 12 μ).bind fun x2 =>
    if ¬ x2 = 0 then
      if ¬ (μ 60 1) = 0 then
        bnd2 (fX2_farAll p1 p2 μ) fun x3 μ4 =>
        (fX2_tellParts x3 (μ4 60 22) μ4).bind fun μ5 =>
        some (1, μ5)
      else
        some ((-4), μ)
    else
      some ((-1), μ)
theorem K_X2_mid  (p1 : Int) (p2 : Int)  (μ : Mem) : Con yX2_mid cX2_mid 5 (some .int) 7 [.inr (.inr 60), .inl p1, .inl p2] μ (fX2_mid p1 p2 μ) wI := by
  refine con_of (own := RX2) (by decide) rfl (Nat.le_of_ble_eq_true rfl) ?_
  show Sim cX2_mid 5 RX2 (7) (some .int) wI 0 [(0, .inr (.inr 60)), (1, .inl p1), (2, .inl p2)] [] μ (fX2_mid p1 p2 μ)
  unfold fX2_mid
  refine S_iload_n dX2_mid_0 rfl ?_
  refine S_i2l dX2_mid_1 ?_
  refine S_lconst (n := 0) dX2_mid_2 (by decide) rfl ?_
  refine S_ldc2 dX2_mid_3 rfl k_X2_182 ?_
  refine S_callS_I dX2_mid_6 [.inr (.inl p1), .inr (.inl 0), .inr (.inl 9)] (K_X2_in p1 0 9 μ) l_X2_59 yo_X2_in rfl rfl rfl (fun x1 => ?_)
  refine S_if_eq (tgt := 24) dX2_mid_9 (by decide) (fun h8 => ?_) (fun h8 => ?_)
  · refine S_iconst dX2_mid_24 rfl ?_
    exact S_iret dX2_mid_25 rfl rfl
  · refine S_iload_n dX2_mid_12 rfl ?_
    refine S_i2l dX2_mid_13 ?_
    refine S_lconst (n := 0) dX2_mid_14 (by decide) rfl ?_
    refine S_ldc2 dX2_mid_15 rfl k_X2_248 ?_
    refine S_callS_I dX2_mid_18 [.inr (.inl p2), .inr (.inl 0), .inr (.inl 12)] (K_X2_in p2 0 12 μ) l_X2_59 yo_X2_in rfl rfl rfl (fun x2 => ?_)
    refine S_if_ne (tgt := 26) dX2_mid_21 (by decide) (fun h7 => ?_) (fun h7 => ?_)
    · refine S_aload_n dX2_mid_26 rfl ?_
      refine S_getI dX2_mid_27 rfl fl_X2_136 rfl rfl ?_
      refine S_if_ne (tgt := 36) dX2_mid_30 (by decide) (fun h6 => ?_) (fun h6 => ?_)
      · refine S_aload_n dX2_mid_36 rfl ?_
        refine S_iload_n dX2_mid_37 rfl ?_
        refine S_iload_n dX2_mid_38 rfl ?_
        refine S_callV_N2 dX2_mid_39 [.inl p1, .inl p2] (K_X2_farAll p1 p2 μ) l_X2_261 yo_X2_farAll rfl rfl rfl rfl rfl (fun x3 μ4 => ?_)
        refine S_lstore_n (lv' := [(3, .inr (.inl x3)), (0, .inr (.inr 60)), (1, .inl p1), (2, .inl p2)]) dX2_mid_42 rfl rfl ?_
        refine S_aload_n dX2_mid_43 rfl ?_
        refine S_lload_n dX2_mid_44 rfl ?_
        refine S_aload_n dX2_mid_45 rfl ?_
        refine S_getL dX2_mid_46 rfl fl_X2_258 rfl rfl ?_
        refine S_callV_V dX2_mid_49 [.inr (.inl x3), .inr (.inl (μ4 60 22))] (K_X2_tellParts x3 (μ4 60 22) μ4) l_X2_254 yo_X2_tellParts rfl rfl rfl rfl rfl (fun μ5 => ?_)
        refine S_iconst dX2_mid_52 rfl ?_
        exact S_iret dX2_mid_53 rfl rfl
      · refine S_bipush dX2_mid_33 rfl (by decide) ?_
        exact S_iret dX2_mid_35 rfl rfl
    · refine S_iconst dX2_mid_24 rfl ?_
      exact S_iret dX2_mid_25 rfl rfl
def fX2_fair_L33 (K5 : Int → Int → Mem → Option (Int × Mem)) (p1 : Int) : Nat → Int → Int → Int → Mem → Option (Int × Mem)
  | 0, _, _, _, _ => none
  | n11 + 1, x7, x8, x9, μ10 =>
    if 10 ≤ x9 then
      K5 x7 x8 μ10
    else
      bnd2 (fX2_farAll x9 p1 μ10) fun x12 μ13 =>
      mlet (fun (x14 : Int) =>
        mlet (fun (x16 : Int) =>
          mlet (fun (x18 : Int) =>
            mlet (w32 (x9 + 1)) fun x20 =>
            fX2_fair_L33 K5 p1 n11 x16 x18 x20 μ13
            ) fun (K19 : Int → Option (Int × Mem)) =>
          if x14 = 0 then
            K19 x8
          else
            K19 x12
          ) fun (K17 : Int → Option (Int × Mem)) =>
        if x14 = 0 then
          K17 x7
        else
          K17 x9
        ) fun (K15 : Int → Option (Int × Mem)) =>
      mlet (
        K15 1
        : Option (Int × Mem)) fun (K23 : Option (Int × Mem)) =>
      if (lcmpZ x8 0) < 0 then
        K23
      else
        if 0 ≤ (lcmpZ x12 x8) then
          K15 0
        else
          K23
def fX2_fair (p1 : Int) (μ : Mem) : Option (Int × Mem) :=
  (fX2_in p1 0 12 μ).bind fun x1 =>
  if ¬ x1 = 0 then
    if ¬ (μ 60 1) = 0 then
      mlet (fun (x2 : Int) (x3 : Int) (μ4 : Mem) =>
        (fX2_tellParts x3 (μ4 60 22) μ4).bind fun μ6 =>
        some (x2, μ6)
        ) fun (K5 : Int → Int → Mem → Option (Int × Mem)) =>
      fX2_fair_L33 K5 p1 fuel 0 (-1) 0 μ
    else
      some ((-4), μ)
  else
    some ((-1), μ)
theorem K_X2_fair  (p1 : Int)  (μ : Mem) : Con yX2_fair cX2_fair 9 (some .int) 7 [.inr (.inr 60), .inl p1] μ (fX2_fair p1 μ) wI := by
  refine con_of (own := RX2) (by decide) rfl (Nat.le_of_ble_eq_true rfl) ?_
  show Sim cX2_fair 9 RX2 (7) (some .int) wI 0 [(0, .inr (.inr 60)), (1, .inl p1)] [] μ (fX2_fair p1 μ)
  unfold fX2_fair
  refine S_iload_n dX2_fair_0 rfl ?_
  refine S_i2l dX2_fair_1 ?_
  refine S_lconst (n := 0) dX2_fair_2 (by decide) rfl ?_
  refine S_ldc2 dX2_fair_3 rfl k_X2_248 ?_
  refine S_callS_I dX2_fair_6 [.inr (.inl p1), .inr (.inl 0), .inr (.inl 12)] (K_X2_in p1 0 12 μ) l_X2_59 yo_X2_in rfl rfl rfl (fun x1 => ?_)
  refine S_if_ne (tgt := 14) dX2_fair_9 (by decide) (fun h28 => ?_) (fun h28 => ?_)
  · refine S_aload_n dX2_fair_14 rfl ?_
    refine S_getI dX2_fair_15 rfl fl_X2_136 rfl rfl ?_
    refine S_if_ne (tgt := 24) dX2_fair_18 (by decide) (fun h27 => ?_) (fun h27 => ?_)
    · refine S_iconst dX2_fair_24 rfl ?_
      refine S_istore_n (lv' := [(2, .inl 0), (0, .inr (.inr 60)), (1, .inl p1)]) dX2_fair_25 rfl rfl ?_
      refine S_ldc2 dX2_fair_26 rfl k_X2_264 ?_
      refine S_lstore_n (lv' := [(3, .inr (.inl (-1))), (2, .inl 0), (0, .inr (.inr 60)), (1, .inl p1)]) dX2_fair_29 rfl rfl ?_
      refine S_iconst dX2_fair_30 rfl ?_
      refine S_istore (lv' := [(5, .inl 0), (3, .inr (.inl (-1))), (2, .inl 0), (0, .inr (.inr 60)), (1, .inl p1)]) dX2_fair_31 rfl rfl ?_
      refine S_jn (fun (K5 : Int → Int → Mem → Option (Int × Mem)) => ∀ (x2 : Int) (x3 : Int) (μ4 : Mem), Sim cX2_fair 9 RX2 (7) (some .int) wI 99 [(0, .inr (.inr 60)), (2, .inl x2), (3, .inr (.inl x3))] [] μ4 (K5 x2 x3 μ4)) ?_ (fun K5 hK5 => ?_)
      · intro x2 x3 μ4
        refine S_aload_n dX2_fair_99 rfl ?_
        refine S_lload_n dX2_fair_100 rfl ?_
        refine S_aload_n dX2_fair_101 rfl ?_
        refine S_getL dX2_fair_102 rfl fl_X2_258 rfl rfl ?_
        refine S_callV_V dX2_fair_105 [.inr (.inl x3), .inr (.inl (μ4 60 22))] (K_X2_tellParts x3 (μ4 60 22) μ4) l_X2_254 yo_X2_tellParts rfl rfl rfl rfl rfl (fun μ6 => ?_)
        refine S_iload_n dX2_fair_108 rfl ?_
        exact S_iret dX2_fair_109 rfl rfl
      have hL33 : ∀ (n11 : Nat) (x7 : Int) (x8 : Int) (x9 : Int) (μ10 : Mem), Sim cX2_fair 9 RX2 (7) (some .int) wI 33 [(0, .inr (.inr 60)), (1, .inl p1), (2, .inl x7), (3, .inr (.inl x8)), (5, .inl x9)] [] μ10 (fX2_fair_L33 K5 p1 n11 x7 x8 x9 μ10) := by
        intro n11
        induction n11 with
        | zero =>
          intro x7 x8 x9 μ10
          exact S_none rfl
        | succ n11 ih =>
          intro x7 x8 x9 μ10
          rw [fX2_fair_L33]
          refine S_iload dX2_fair_33 rfl ?_
          refine S_bipush dX2_fair_35 rfl (by decide) ?_
          refine S_ic_ge (tgt := 99) dX2_fair_37 (by decide) (fun h26 => ?_) (fun h26 => ?_)
          · exact S_sub [0, 2, 3] rfl (hK5 x7 x8 μ10)
          · refine S_aload_n dX2_fair_40 rfl ?_
            refine S_iload dX2_fair_41 rfl ?_
            refine S_iload_n dX2_fair_43 rfl ?_
            refine S_callV_N2 dX2_fair_44 [.inl x9, .inl p1] (K_X2_farAll x9 p1 μ10) l_X2_261 yo_X2_farAll rfl rfl rfl rfl rfl (fun x12 μ13 => ?_)
            refine S_lstore (lv' := [(6, .inr (.inl x12)), (0, .inr (.inr 60)), (1, .inl p1), (2, .inl x7), (3, .inr (.inl x8)), (5, .inl x9)]) dX2_fair_47 rfl rfl ?_
            refine S_lload_n dX2_fair_49 rfl ?_
            refine S_lconst (n := 0) dX2_fair_50 (by decide) rfl ?_
            refine S_lcmp dX2_fair_51 ?_
            refine S_jn (fun (K15 : Int → Option (Int × Mem)) => ∀ (x14 : Int), Sim cX2_fair 9 RX2 (7) (some .int) wI 67 [(0, .inr (.inr 60)), (1, .inl p1), (2, .inl x7), (3, .inr (.inl x8)), (5, .inl x9), (6, .inr (.inl x12))] [.inl x14] μ13 (K15 x14)) ?_ (fun K15 hK15 => ?_)
            · intro x14
              refine S_istore (lv' := [(8, .inl x14), (0, .inr (.inr 60)), (1, .inl p1), (2, .inl x7), (3, .inr (.inl x8)), (5, .inl x9), (6, .inr (.inl x12))]) dX2_fair_67 rfl rfl ?_
              refine S_iload dX2_fair_69 rfl ?_
              refine S_jn (fun (K17 : Int → Option (Int × Mem)) => ∀ (x16 : Int), Sim cX2_fair 9 RX2 (7) (some .int) wI 80 [(0, .inr (.inr 60)), (1, .inl p1), (3, .inr (.inl x8)), (5, .inl x9), (6, .inr (.inl x12)), (8, .inl x14)] [.inl x16] μ13 (K17 x16)) ?_ (fun K17 hK17 => ?_)
              · intro x16
                refine S_istore_n (lv' := [(2, .inl x16), (0, .inr (.inr 60)), (1, .inl p1), (3, .inr (.inl x8)), (5, .inl x9), (6, .inr (.inl x12)), (8, .inl x14)]) dX2_fair_80 rfl rfl ?_
                refine S_iload dX2_fair_81 rfl ?_
                refine S_jn (fun (K19 : Int → Option (Int × Mem)) => ∀ (x18 : Int), Sim cX2_fair 9 RX2 (7) (some .int) wI 92 [(0, .inr (.inr 60)), (1, .inl p1), (2, .inl x16), (5, .inl x9)] [.inr (.inl x18)] μ13 (K19 x18)) ?_ (fun K19 hK19 => ?_)
                · intro x18
                  refine S_lstore_n (lv' := [(3, .inr (.inl x18)), (0, .inr (.inr 60)), (1, .inl p1), (2, .inl x16), (5, .inl x9)]) dX2_fair_92 rfl rfl ?_
                  refine S_iinc (lv' := fun x20 => [(5, .inl x20), (3, .inr (.inl x18)), (0, .inr (.inr 60)), (1, .inl p1), (2, .inl x16)]) dX2_fair_93 rfl rfl rfl (fun _ => rfl) (fun x20 => ?_)
                  refine S_goto (tgt := 33) dX2_fair_96 (by decide) ?_
                  exact S_sub [2, 3, 4, 1, 0] rfl (ih x16 x18 x20 μ13)
                refine S_if_eq (tgt := 91) dX2_fair_83 (by decide) (fun h21 => ?_) (fun h21 => ?_)
                · refine S_lload_n dX2_fair_91 rfl ?_
                  exact S_sub [1, 2, 0, 4] rfl (hK19 x8)
                · refine S_lload dX2_fair_86 rfl ?_
                  refine S_goto (tgt := 92) dX2_fair_88 (by decide) ?_
                  exact S_sub [1, 2, 0, 4] rfl (hK19 x12)
              refine S_if_eq (tgt := 79) dX2_fair_71 (by decide) (fun h22 => ?_) (fun h22 => ?_)
              · refine S_iload_n dX2_fair_79 rfl ?_
                exact S_sub [1, 2, 4, 5, 6, 0] rfl (hK17 x7)
              · refine S_iload dX2_fair_74 rfl ?_
                refine S_goto (tgt := 80) dX2_fair_76 (by decide) ?_
                exact S_sub [1, 2, 4, 5, 6, 0] rfl (hK17 x9)
            refine S_jn (fun (K23 : Option (Int × Mem)) => Sim cX2_fair 9 RX2 (7) (some .int) wI 62 [(0, .inr (.inr 60)), (1, .inl p1), (2, .inl x7), (3, .inr (.inl x8)), (5, .inl x9), (6, .inr (.inl x12))] [] μ13 K23) ?_ (fun K23 hK23 => ?_)
            · skip
              refine S_iconst dX2_fair_62 rfl ?_
              refine S_goto (tgt := 67) dX2_fair_63 (by decide) ?_
              exact S_sub [0, 1, 2, 3, 4, 5] rfl (hK15 1)
            refine S_if_lt (tgt := 62) dX2_fair_52 (by decide) (fun h25 => ?_) (fun h25 => ?_)
            · exact S_sub [1, 2, 3, 4, 5, 0] rfl (hK23)
            · refine S_lload dX2_fair_55 rfl ?_
              refine S_lload_n dX2_fair_57 rfl ?_
              refine S_lcmp dX2_fair_58 ?_
              refine S_if_ge (tgt := 66) dX2_fair_59 (by decide) (fun h24 => ?_) (fun h24 => ?_)
              · refine S_iconst dX2_fair_66 rfl ?_
                exact S_sub [1, 2, 3, 4, 5, 0] rfl (hK15 0)
              · exact S_sub [1, 2, 3, 4, 5, 0] rfl (hK23)
      exact S_sub [3, 4, 2, 1, 0] rfl (hL33 fuel 0 (-1) 0 μ)
    · refine S_bipush dX2_fair_21 rfl (by decide) ?_
      exact S_iret dX2_fair_23 rfl rfl
  · refine S_iconst dX2_fair_12 rfl ?_
    exact S_iret dX2_fair_13 rfl rfl
def fX2_byLot (p1 : Int) (μ : Mem) : Option Mem :=
  grd (¬ (μ 60 1) = 0) <|
  mlet ((w32 (p1.tmod (μ 60 1)))) fun x1 =>
  mlet ((w32 ((w64 (p1.tdiv 8)).tmod 8))) fun x2 =>
  mlet ((w32 (1 + (w32 ((w64 (p1.tdiv 64)).tmod 5))))) fun x3 =>
  grd (0 ≤ (w32 (9 + x1)) ∧ (w32 (9 + x1)) < 3305) <|
  mlet ((μ 61 ((w32 (9 + x1))).toNat)) fun x4 =>
  if 2 ≤ x2 then
    if ¬ x2 = 2 then
      if ¬ x2 = 3 then
        bnd2 (fX2_passes 0 μ) fun x5 μ6 =>
        some μ6
      else
        grd (0 ≤ (w32 (3 + x1)) ∧ (w32 (3 + x1)) < 3305) <|
        mlet (wr μ 61 ((w32 (3 + x1))).toNat (w32 ((w64 (p1.tdiv 64)).tmod 10))) fun μ7 =>
        some μ7
    else
      mlet (fun (x9 : Int) =>
        grd (0 ≤ (w32 (9 + x1)) ∧ (w32 (9 + x1)) < 3305) <|
        mlet (wr μ 61 ((w32 (9 + x1))).toNat x9) fun μ11 =>
        some μ11
        ) fun (K10 : Int → Option Mem) =>
      if x3 ≤ x4 then
        K10 (w32 (x4 - x3))
      else
        K10 0
  else
    mlet (fun (x14 : Int) =>
      grd (0 ≤ (w32 (9 + x1)) ∧ (w32 (9 + x1)) < 3305) <|
      mlet (wr μ 61 ((w32 (9 + x1))).toNat x14) fun μ16 =>
      some μ16
      ) fun (K15 : Int → Option Mem) =>
    if (w32 (x4 + x3)) ≤ 20 then
      K15 (w32 (x4 + x3))
    else
      K15 20
theorem K_X2_byLot  (p1 : Int)  (μ : Mem) : Con yX2_byLot cX2_byLot 7 (none) 7 [.inr (.inr 60), .inr (.inl p1)] μ (fX2_byLot p1 μ) wV := by
  refine con_of (own := RX2) (by decide) rfl (Nat.le_of_ble_eq_true rfl) ?_
  show Sim cX2_byLot 7 RX2 (7) (none) wV 0 [(0, .inr (.inr 60)), (1, .inr (.inl p1))] [] μ (fX2_byLot p1 μ)
  unfold fX2_byLot
  refine S_lload_n dX2_byLot_0 rfl ?_
  refine S_aload_n dX2_byLot_1 rfl ?_
  refine S_getI dX2_byLot_2 rfl fl_X2_136 rfl rfl ?_
  refine S_i2l dX2_byLot_5 ?_
  refine S_lrem dX2_byLot_6 ?_
  refine S_l2i dX2_byLot_7 ?_
  refine S_let (fun x1 => ?_)
  refine S_istore_n (lv' := [(3, .inl x1), (0, .inr (.inr 60)), (1, .inr (.inl p1))]) dX2_byLot_8 rfl rfl ?_
  refine S_lload_n dX2_byLot_9 rfl ?_
  refine S_ldc2 dX2_byLot_10 rfl k_X2_266 ?_
  refine S_ldivK dX2_byLot_13 (by decide) ?_
  refine S_ldc2 dX2_byLot_14 rfl k_X2_266 ?_
  refine S_lremK dX2_byLot_17 (by decide) ?_
  refine S_l2i dX2_byLot_18 ?_
  refine S_let (fun x2 => ?_)
  refine S_istore (lv' := [(4, .inl x2), (3, .inl x1), (0, .inr (.inr 60)), (1, .inr (.inl p1))]) dX2_byLot_19 rfl rfl ?_
  refine S_iconst dX2_byLot_21 rfl ?_
  refine S_lload_n dX2_byLot_22 rfl ?_
  refine S_ldc2 dX2_byLot_23 rfl k_X2_268 ?_
  refine S_ldivK dX2_byLot_26 (by decide) ?_
  refine S_ldc2 dX2_byLot_27 rfl k_X2_57 ?_
  refine S_lremK dX2_byLot_30 (by decide) ?_
  refine S_l2i dX2_byLot_31 ?_
  refine S_iadd dX2_byLot_32 ?_
  refine S_let (fun x3 => ?_)
  refine S_istore (lv' := [(5, .inl x3), (4, .inl x2), (3, .inl x1), (0, .inr (.inr 60)), (1, .inr (.inl p1))]) dX2_byLot_33 rfl rfl ?_
  refine S_aload_n dX2_byLot_35 rfl ?_
  refine S_getR (c1 := 61) dX2_byLot_36 rfl fl_X2_7 rfl rfl rfl ?_
  refine S_bipush dX2_byLot_39 rfl (by decide) ?_
  refine S_iload_n dX2_byLot_41 rfl ?_
  refine S_iadd dX2_byLot_42 ?_
  refine S_iald (N := 3305) dX2_byLot_43 rfl (by decide) rfl ?_
  refine S_let (fun x4 => ?_)
  refine S_istore (lv' := [(6, .inl x4), (5, .inl x3), (4, .inl x2), (3, .inl x1), (0, .inr (.inr 60)), (1, .inr (.inl p1))]) dX2_byLot_44 rfl rfl ?_
  refine S_iload dX2_byLot_46 rfl ?_
  refine S_iconst dX2_byLot_48 rfl ?_
  refine S_ic_ge (tgt := 84) dX2_byLot_49 (by decide) (fun h18 => ?_) (fun h18 => ?_)
  · refine S_iload dX2_byLot_84 rfl ?_
    refine S_iconst dX2_byLot_86 rfl ?_
    refine S_ic_ne (tgt := 118) dX2_byLot_87 (by decide) (fun h13 => ?_) (fun h13 => ?_)
    · refine S_iload dX2_byLot_118 rfl ?_
      refine S_iconst dX2_byLot_120 rfl ?_
      refine S_ic_ne (tgt := 145) dX2_byLot_121 (by decide) (fun h8 => ?_) (fun h8 => ?_)
      · refine S_aload_n dX2_byLot_145 rfl ?_
        refine S_iconst dX2_byLot_146 rfl ?_
        refine S_callV_M2 dX2_byLot_147 [.inl 0] (K_X2_passes 0 μ) l_X2_177 yo_X2_passes rfl rfl rfl rfl rfl (fun x5 μ6 => ?_)
        refine S_pop dX2_byLot_150 rfl ?_
        exact S_vret dX2_byLot_151 rfl rfl
      · refine S_aload_n dX2_byLot_124 rfl ?_
        refine S_getR (c1 := 61) dX2_byLot_125 rfl fl_X2_7 rfl rfl rfl ?_
        refine S_iconst dX2_byLot_128 rfl ?_
        refine S_iload_n dX2_byLot_129 rfl ?_
        refine S_iadd dX2_byLot_130 ?_
        refine S_lload_n dX2_byLot_131 rfl ?_
        refine S_ldc2 dX2_byLot_132 rfl k_X2_268 ?_
        refine S_ldivK dX2_byLot_135 (by decide) ?_
        refine S_ldc2 dX2_byLot_136 rfl k_X2_214 ?_
        refine S_lremK dX2_byLot_139 (by decide) ?_
        refine S_l2i dX2_byLot_140 ?_
        refine S_iast (N := 3305) dX2_byLot_141 rfl (by decide) rfl (fun μ7 => ?_)
        refine S_goto (tgt := 151) dX2_byLot_142 (by decide) ?_
        exact S_vret dX2_byLot_151 rfl rfl
    · refine S_aload_n dX2_byLot_90 rfl ?_
      refine S_getR (c1 := 61) dX2_byLot_91 rfl fl_X2_7 rfl rfl rfl ?_
      refine S_bipush dX2_byLot_94 rfl (by decide) ?_
      refine S_iload_n dX2_byLot_96 rfl ?_
      refine S_iadd dX2_byLot_97 ?_
      refine S_iload dX2_byLot_98 rfl ?_
      refine S_iload dX2_byLot_100 rfl ?_
      refine S_jn (fun (K10 : Int → Option Mem) => ∀ (x9 : Int), Sim cX2_byLot 7 RX2 (7) (none) wV 114 [] [.inl x9, .inl (w32 (9 + x1)), .inr (.inr 61)] μ (K10 x9)) ?_ (fun K10 hK10 => ?_)
      · intro x9
        refine S_iast (N := 3305) dX2_byLot_114 rfl (by decide) rfl (fun μ11 => ?_)
        refine S_goto (tgt := 151) dX2_byLot_115 (by decide) ?_
        exact S_vret dX2_byLot_151 rfl rfl
      refine S_ic_ge (tgt := 109) dX2_byLot_102 (by decide) (fun h12 => ?_) (fun h12 => ?_)
      · refine S_iload dX2_byLot_109 rfl ?_
        refine S_iload dX2_byLot_111 rfl ?_
        refine S_isub dX2_byLot_113 ?_
        exact S_sub [] rfl (hK10 (w32 (x4 - x3)))
      · refine S_iconst dX2_byLot_105 rfl ?_
        refine S_goto (tgt := 114) dX2_byLot_106 (by decide) ?_
        exact S_sub [] rfl (hK10 0)
  · refine S_aload_n dX2_byLot_52 rfl ?_
    refine S_getR (c1 := 61) dX2_byLot_53 rfl fl_X2_7 rfl rfl rfl ?_
    refine S_bipush dX2_byLot_56 rfl (by decide) ?_
    refine S_iload_n dX2_byLot_58 rfl ?_
    refine S_iadd dX2_byLot_59 ?_
    refine S_iload dX2_byLot_60 rfl ?_
    refine S_iload dX2_byLot_62 rfl ?_
    refine S_iadd dX2_byLot_64 ?_
    refine S_bipush dX2_byLot_65 rfl (by decide) ?_
    refine S_jn (fun (K15 : Int → Option Mem) => ∀ (x14 : Int), Sim cX2_byLot 7 RX2 (7) (none) wV 80 [] [.inl x14, .inl (w32 (9 + x1)), .inr (.inr 61)] μ (K15 x14)) ?_ (fun K15 hK15 => ?_)
    · intro x14
      refine S_iast (N := 3305) dX2_byLot_80 rfl (by decide) rfl (fun μ16 => ?_)
      refine S_goto (tgt := 151) dX2_byLot_81 (by decide) ?_
      exact S_vret dX2_byLot_151 rfl rfl
    refine S_ic_le (tgt := 75) dX2_byLot_67 (by decide) (fun h17 => ?_) (fun h17 => ?_)
    · refine S_iload dX2_byLot_75 rfl ?_
      refine S_iload dX2_byLot_77 rfl ?_
      refine S_iadd dX2_byLot_79 ?_
      exact S_sub [] rfl (hK15 (w32 (x4 + x3)))
    · refine S_bipush dX2_byLot_70 rfl (by decide) ?_
      refine S_goto (tgt := 80) dX2_byLot_72 (by decide) ?_
      exact S_sub [] rfl (hK15 20)
def fX2_lots_L58 (p1 : Int) (K4 : Mem → Option (Int × Mem)) : Nat → Int → Int → Mem → Option (Int × Mem)
  | 0, _, _, _ => none
  | n8 + 1, x5, x6, μ7 =>
    if p1 ≤ x6 then
      K4 μ7
    else
      mlet (((w64 (x5 * 48271)).tmod 2147483647)) fun x9 =>
      (fX2_keepPast μ7).bind fun μ10 =>
      (fX2_byLot x9 μ10).bind fun μ11 =>
      mlet (w32 (x6 + 1)) fun x12 =>
      fX2_lots_L58 p1 K4 n8 x9 x12 μ11
def fX2_lots (p1 : Int) (p2 : Int) (μ : Mem) : Option (Int × Mem) :=
  (fX2_in p1 1 20 μ).bind fun x1 =>
  if x1 = 0 then
    some ((-1), μ)
  else
    (fX2_in p2 1 2147483646 μ).bind fun x2 =>
    if ¬ x2 = 0 then
      if ¬ (μ 60 1) = 0 then
        if (w32 ((μ 61 0) + p1)) ≤ 40 then
          mlet (fun (μ3 : Mem) =>
            some ((μ3 61 2), μ3)
            ) fun (K4 : Mem → Option (Int × Mem)) =>
          fX2_lots_L58 p1 K4 fuel p2 0 μ
        else
          some ((-2), μ)
      else
        some ((-4), μ)
    else
      some ((-1), μ)
theorem K_X2_lots  (p1 : Int) (p2 : Int)  (μ : Mem) : Con yX2_lots cX2_lots 6 (some .int) 8 [.inr (.inr 60), .inl p1, .inl p2] μ (fX2_lots p1 p2 μ) wI := by
  refine con_of (own := RX2) (by decide) rfl (Nat.le_of_ble_eq_true rfl) ?_
  show Sim cX2_lots 6 RX2 (8) (some .int) wI 0 [(0, .inr (.inr 60)), (1, .inl p1), (2, .inl p2)] [] μ (fX2_lots p1 p2 μ)
  unfold fX2_lots
  refine S_iload_n dX2_lots_0 rfl ?_
  refine S_i2l dX2_lots_1 ?_
  refine S_lconst (n := 1) dX2_lots_2 (by decide) rfl ?_
  refine S_ldc2 dX2_lots_3 rfl k_X2_180 ?_
  refine S_callS_I dX2_lots_6 [.inr (.inl p1), .inr (.inl 1), .inr (.inl 20)] (K_X2_in p1 1 20 μ) l_X2_59 yo_X2_in rfl rfl rfl (fun x1 => ?_)
  refine S_if_eq (tgt := 24) dX2_lots_9 (by decide) (fun h17 => ?_) (fun h17 => ?_)
  · refine S_iconst dX2_lots_24 rfl ?_
    exact S_iret dX2_lots_25 rfl rfl
  · refine S_iload_n dX2_lots_12 rfl ?_
    refine S_i2l dX2_lots_13 ?_
    refine S_lconst (n := 1) dX2_lots_14 (by decide) rfl ?_
    refine S_ldc2 dX2_lots_15 rfl k_X2_270 ?_
    refine S_callS_I dX2_lots_18 [.inr (.inl p2), .inr (.inl 1), .inr (.inl 2147483646)] (K_X2_in p2 1 2147483646 μ) l_X2_59 yo_X2_in rfl rfl rfl (fun x2 => ?_)
    refine S_if_ne (tgt := 26) dX2_lots_21 (by decide) (fun h16 => ?_) (fun h16 => ?_)
    · refine S_aload_n dX2_lots_26 rfl ?_
      refine S_getI dX2_lots_27 rfl fl_X2_136 rfl rfl ?_
      refine S_if_ne (tgt := 36) dX2_lots_30 (by decide) (fun h15 => ?_) (fun h15 => ?_)
      · refine S_aload_n dX2_lots_36 rfl ?_
        refine S_getR (c1 := 61) dX2_lots_37 rfl fl_X2_7 rfl rfl rfl ?_
        refine S_iconst dX2_lots_40 rfl ?_
        refine S_ialdK (k := 0) dX2_lots_41 rfl (by decide) (by decide) ?_
        refine S_iload_n dX2_lots_42 rfl ?_
        refine S_iadd dX2_lots_43 ?_
        refine S_bipush dX2_lots_44 rfl (by decide) ?_
        refine S_ic_le (tgt := 52) dX2_lots_46 (by decide) (fun h14 => ?_) (fun h14 => ?_)
        · refine S_iload_n dX2_lots_52 rfl ?_
          refine S_i2l dX2_lots_53 ?_
          refine S_lstore_n (lv' := [(3, .inr (.inl p2)), (0, .inr (.inr 60)), (1, .inl p1), (2, .inl p2)]) dX2_lots_54 rfl rfl ?_
          refine S_iconst dX2_lots_55 rfl ?_
          refine S_istore (lv' := [(5, .inl 0), (3, .inr (.inl p2)), (0, .inr (.inr 60)), (1, .inl p1), (2, .inl p2)]) dX2_lots_56 rfl rfl ?_
          refine S_jn (fun (K4 : Mem → Option (Int × Mem)) => ∀ (μ3 : Mem), Sim cX2_lots 6 RX2 (8) (some .int) wI 89 [(0, .inr (.inr 60))] [] μ3 (K4 μ3)) ?_ (fun K4 hK4 => ?_)
          · intro μ3
            refine S_aload_n dX2_lots_89 rfl ?_
            refine S_getR (c1 := 61) dX2_lots_90 rfl fl_X2_7 rfl rfl rfl ?_
            refine S_iconst dX2_lots_93 rfl ?_
            refine S_ialdK (k := 2) dX2_lots_94 rfl (by decide) (by decide) ?_
            exact S_iret dX2_lots_95 rfl rfl
          have hL58 : ∀ (n8 : Nat) (x5 : Int) (x6 : Int) (μ7 : Mem), Sim cX2_lots 6 RX2 (8) (some .int) wI 58 [(0, .inr (.inr 60)), (1, .inl p1), (3, .inr (.inl x5)), (5, .inl x6)] [] μ7 (fX2_lots_L58 p1 K4 n8 x5 x6 μ7) := by
            intro n8
            induction n8 with
            | zero =>
              intro x5 x6 μ7
              exact S_none rfl
            | succ n8 ih =>
              intro x5 x6 μ7
              rw [fX2_lots_L58]
              refine S_iload dX2_lots_58 rfl ?_
              refine S_iload_n dX2_lots_60 rfl ?_
              refine S_ic_ge (tgt := 89) dX2_lots_61 (by decide) (fun h13 => ?_) (fun h13 => ?_)
              · exact S_sub [0] rfl (hK4 μ7)
              · refine S_lload_n dX2_lots_64 rfl ?_
                refine S_ldc2 dX2_lots_65 rfl k_X2_272 ?_
                refine S_lmul dX2_lots_68 ?_
                refine S_ldc2 dX2_lots_69 rfl k_X2_274 ?_
                refine S_lremK dX2_lots_72 (by decide) ?_
                refine S_letL (fun x9 => ?_)
                refine S_lstore_n (lv' := [(3, .inr (.inl x9)), (0, .inr (.inr 60)), (1, .inl p1), (5, .inl x6)]) dX2_lots_73 rfl rfl ?_
                refine S_aload_n dX2_lots_74 rfl ?_
                refine S_callV_V dX2_lots_75 [] (K_X2_keepPast μ7) l_X2_174 yo_X2_keepPast rfl rfl rfl rfl rfl (fun μ10 => ?_)
                refine S_aload_n dX2_lots_78 rfl ?_
                refine S_lload_n dX2_lots_79 rfl ?_
                refine S_callV_V dX2_lots_80 [.inr (.inl x9)] (K_X2_byLot x9 μ10) l_X2_276 yo_X2_byLot rfl rfl rfl rfl rfl (fun μ11 => ?_)
                refine S_iinc (lv' := fun x12 => [(5, .inl x12), (3, .inr (.inl x9)), (0, .inr (.inr 60)), (1, .inl p1)]) dX2_lots_83 rfl rfl rfl (fun _ => rfl) (fun x12 => ?_)
                refine S_goto (tgt := 58) dX2_lots_86 (by decide) ?_
                exact S_sub [2, 3, 1, 0] rfl (ih x9 x12 μ11)
          exact S_sub [2, 3, 1, 0] rfl (hL58 fuel p2 0 μ)
        · refine S_bipush dX2_lots_49 rfl (by decide) ?_
          exact S_iret dX2_lots_51 rfl rfl
      · refine S_bipush dX2_lots_33 rfl (by decide) ?_
        exact S_iret dX2_lots_35 rfl rfl
    · refine S_iconst dX2_lots_24 rfl ?_
      exact S_iret dX2_lots_25 rfl rfl
def fX2_asked (μ : Mem) : Option Int :=
  some (μ 60 7)
theorem K_X2_asked    (μ : Mem) : Con yX2_asked cX2_asked 1 (some .int) 2 [.inr (.inr 60)] μ (fX2_asked  μ) (rI μ) := by
  refine con_of (own := RX2) (by decide) rfl (Nat.le_of_ble_eq_true rfl) ?_
  show Sim cX2_asked 1 RX2 (2) (some .int) (rI μ) 0 [(0, .inr (.inr 60))] [] μ (fX2_asked  μ)
  unfold fX2_asked
  refine S_aload_n dX2_asked_0 rfl ?_
  refine S_getI dX2_asked_1 rfl fl_X2_54 rfl rfl ?_
  exact S_iret dX2_asked_4 rfl rfl
def fX2_upper (μ : Mem) : Option Int :=
  some (μ 60 8)
theorem K_X2_upper    (μ : Mem) : Con yX2_upper cX2_upper 1 (some .long) 2 [.inr (.inr 60)] μ (fX2_upper  μ) (rL μ) := by
  refine con_of (own := RX2) (by decide) rfl (Nat.le_of_ble_eq_true rfl) ?_
  show Sim cX2_upper 1 RX2 (2) (some .long) (rL μ) 0 [(0, .inr (.inr 60))] [] μ (fX2_upper  μ)
  unfold fX2_upper
  refine S_aload_n dX2_upper_0 rfl ?_
  refine S_getL dX2_upper_1 rfl fl_X2_239 rfl rfl ?_
  exact S_lret dX2_upper_4 rfl rfl
def fX2_lower (μ : Mem) : Option Int :=
  some (μ 60 9)
theorem K_X2_lower    (μ : Mem) : Con yX2_lower cX2_lower 1 (some .long) 2 [.inr (.inr 60)] μ (fX2_lower  μ) (rL μ) := by
  refine con_of (own := RX2) (by decide) rfl (Nat.le_of_ble_eq_true rfl) ?_
  show Sim cX2_lower 1 RX2 (2) (some .long) (rL μ) 0 [(0, .inr (.inr 60))] [] μ (fX2_lower  μ)
  unfold fX2_lower
  refine S_aload_n dX2_lower_0 rfl ?_
  refine S_getL dX2_lower_1 rfl fl_X2_28 rfl rfl ?_
  exact S_lret dX2_lower_4 rfl rfl
def fX2_those_L4 (μ : Mem) (p1 : Int) : Nat → Int → Int → Option Int
  | 0, _, _ => none
  | n3 + 1, x1, x2 =>
    if (μ 60 1) ≤ x2 then
      some x1
    else
      (fX2_isOf x2 p1 μ).bind fun x4 =>
      mlet (fun (x5 : Int) =>
        mlet ((w32 (x1 + x5))) fun x7 =>
        mlet (w32 (x2 + 1)) fun x8 =>
        fX2_those_L4 μ p1 n3 x7 x8
        ) fun (K6 : Int → Option Int) =>
      if x4 = 0 then
        K6 0
      else
        K6 1
def fX2_those (p1 : Int) (μ : Mem) : Option Int :=
  fX2_those_L4 μ p1 fuel 0 0
theorem K_X2_those  (p1 : Int)  (μ : Mem) : Con yX2_those cX2_those 4 (some .int) 3 [.inr (.inr 60), .inl p1] μ (fX2_those p1 μ) (rI μ) := by
  refine con_of (own := RX2) (by decide) rfl (Nat.le_of_ble_eq_true rfl) ?_
  show Sim cX2_those 4 RX2 (3) (some .int) (rI μ) 0 [(0, .inr (.inr 60)), (1, .inl p1)] [] μ (fX2_those p1 μ)
  unfold fX2_those
  refine S_iconst dX2_those_0 rfl ?_
  refine S_istore_n (lv' := [(2, .inl 0), (0, .inr (.inr 60)), (1, .inl p1)]) dX2_those_1 rfl rfl ?_
  refine S_iconst dX2_those_2 rfl ?_
  refine S_istore_n (lv' := [(3, .inl 0), (2, .inl 0), (0, .inr (.inr 60)), (1, .inl p1)]) dX2_those_3 rfl rfl ?_
  have hL4 : ∀ (n3 : Nat) (x1 : Int) (x2 : Int), Sim cX2_those 4 RX2 (3) (some .int) (rI μ) 4 [(0, .inr (.inr 60)), (1, .inl p1), (2, .inl x1), (3, .inl x2)] [] μ (fX2_those_L4 μ p1 n3 x1 x2) := by
    intro n3
    induction n3 with
    | zero =>
      intro x1 x2
      exact S_none rfl
    | succ n3 ih =>
      intro x1 x2
      rw [fX2_those_L4]
      refine S_iload_n dX2_those_4 rfl ?_
      refine S_aload_n dX2_those_5 rfl ?_
      refine S_getI dX2_those_6 rfl fl_X2_136 rfl rfl ?_
      refine S_ic_ge (tgt := 35) dX2_those_9 (by decide) (fun h10 => ?_) (fun h10 => ?_)
      · refine S_iload_n dX2_those_35 rfl ?_
        exact S_iret dX2_those_36 rfl rfl
      · refine S_iload_n dX2_those_12 rfl ?_
        refine S_aload_n dX2_those_13 rfl ?_
        refine S_iload_n dX2_those_14 rfl ?_
        refine S_iload_n dX2_those_15 rfl ?_
        refine S_callV_I dX2_those_16 [.inl x2, .inl p1] (K_X2_isOf x2 p1 μ) l_X2_168 yo_X2_isOf rfl rfl rfl rfl rfl (fun x4 => ?_)
        refine S_jn (fun (K6 : Int → Option Int) => ∀ (x5 : Int), Sim cX2_those 4 RX2 (3) (some .int) (rI μ) 27 [(0, .inr (.inr 60)), (1, .inl p1), (3, .inl x2)] [.inl x5, .inl x1] μ (K6 x5)) ?_ (fun K6 hK6 => ?_)
        · intro x5
          refine S_iadd dX2_those_27 ?_
          refine S_let (fun x7 => ?_)
          refine S_istore_n (lv' := [(2, .inl x7), (0, .inr (.inr 60)), (1, .inl p1), (3, .inl x2)]) dX2_those_28 rfl rfl ?_
          refine S_iinc (lv' := fun x8 => [(3, .inl x8), (2, .inl x7), (0, .inr (.inr 60)), (1, .inl p1)]) dX2_those_29 rfl rfl rfl (fun _ => rfl) (fun x8 => ?_)
          refine S_goto (tgt := 4) dX2_those_32 (by decide) ?_
          exact S_sub [2, 3, 1, 0] rfl (ih x7 x8)
        refine S_if_eq (tgt := 26) dX2_those_19 (by decide) (fun h9 => ?_) (fun h9 => ?_)
        · refine S_iconst dX2_those_26 rfl ?_
          exact S_sub [0, 1, 3] rfl (hK6 0)
        · refine S_iconst dX2_those_22 rfl ?_
          refine S_goto (tgt := 27) dX2_those_23 (by decide) ?_
          exact S_sub [0, 1, 3] rfl (hK6 1)
  exact S_sub [2, 3, 1, 0] rfl (hL4 fuel 0 0)
def fX2_crossedByAll_L4 (μ : Mem) : Nat → Int → Int → Option Int
  | 0, _, _ => none
  | n3 + 1, x1, x2 =>
    if (μ 60 1) ≤ x2 then
      some x1
    else
      grd (0 ≤ (w32 (15 + x2)) ∧ (w32 (15 + x2)) < 3305) <|
      mlet ((w32 (x1 + (μ 61 ((w32 (15 + x2))).toNat)))) fun x4 =>
      mlet (w32 (x2 + 1)) fun x5 =>
      fX2_crossedByAll_L4 μ n3 x4 x5
def fX2_crossedByAll (μ : Mem) : Option Int :=
  fX2_crossedByAll_L4 μ fuel 0 0
theorem K_X2_crossedByAll    (μ : Mem) : Con yX2_crossedByAll cX2_crossedByAll 3 (some .int) 2 [.inr (.inr 60)] μ (fX2_crossedByAll  μ) (rI μ) := by
  refine con_of (own := RX2) (by decide) rfl (Nat.le_of_ble_eq_true rfl) ?_
  show Sim cX2_crossedByAll 3 RX2 (2) (some .int) (rI μ) 0 [(0, .inr (.inr 60))] [] μ (fX2_crossedByAll  μ)
  unfold fX2_crossedByAll
  refine S_iconst dX2_crossedByAll_0 rfl ?_
  refine S_istore_n (lv' := [(1, .inl 0), (0, .inr (.inr 60))]) dX2_crossedByAll_1 rfl rfl ?_
  refine S_iconst dX2_crossedByAll_2 rfl ?_
  refine S_istore_n (lv' := [(2, .inl 0), (1, .inl 0), (0, .inr (.inr 60))]) dX2_crossedByAll_3 rfl rfl ?_
  have hL4 : ∀ (n3 : Nat) (x1 : Int) (x2 : Int), Sim cX2_crossedByAll 3 RX2 (2) (some .int) (rI μ) 4 [(0, .inr (.inr 60)), (1, .inl x1), (2, .inl x2)] [] μ (fX2_crossedByAll_L4 μ n3 x1 x2) := by
    intro n3
    induction n3 with
    | zero =>
      intro x1 x2
      exact S_none rfl
    | succ n3 ih =>
      intro x1 x2
      rw [fX2_crossedByAll_L4]
      refine S_iload_n dX2_crossedByAll_4 rfl ?_
      refine S_aload_n dX2_crossedByAll_5 rfl ?_
      refine S_getI dX2_crossedByAll_6 rfl fl_X2_136 rfl rfl ?_
      refine S_ic_ge (tgt := 30) dX2_crossedByAll_9 (by decide) (fun h6 => ?_) (fun h6 => ?_)
      · refine S_iload_n dX2_crossedByAll_30 rfl ?_
        exact S_iret dX2_crossedByAll_31 rfl rfl
      · refine S_iload_n dX2_crossedByAll_12 rfl ?_
        refine S_aload_n dX2_crossedByAll_13 rfl ?_
        refine S_getR (c1 := 61) dX2_crossedByAll_14 rfl fl_X2_7 rfl rfl rfl ?_
        refine S_bipush dX2_crossedByAll_17 rfl (by decide) ?_
        refine S_iload_n dX2_crossedByAll_19 rfl ?_
        refine S_iadd dX2_crossedByAll_20 ?_
        refine S_iald (N := 3305) dX2_crossedByAll_21 rfl (by decide) rfl ?_
        refine S_iadd dX2_crossedByAll_22 ?_
        refine S_let (fun x4 => ?_)
        refine S_istore_n (lv' := [(1, .inl x4), (0, .inr (.inr 60)), (2, .inl x2)]) dX2_crossedByAll_23 rfl rfl ?_
        refine S_iinc (lv' := fun x5 => [(2, .inl x5), (1, .inl x4), (0, .inr (.inr 60))]) dX2_crossedByAll_24 rfl rfl rfl (fun _ => rfl) (fun x5 => ?_)
        refine S_goto (tgt := 4) dX2_crossedByAll_27 (by decide) ?_
        exact S_sub [2, 1, 0] rfl (ih x4 x5)
  exact S_sub [2, 1, 0] rfl (hL4 fuel 0 0)
def fX2_thereOf_L4 (p1 : Int) (μ : Mem) : Nat → Int → Int → Option Int
  | 0, _, _ => none
  | n3 + 1, x1, x2 =>
    if 6 ≤ x2 then
      some x1
    else
      mlet (fun (x4 : Int) =>
        mlet ((w32 (x1 + x4))) fun x6 =>
        mlet (w32 (x2 + 1)) fun x7 =>
        fX2_thereOf_L4 p1 μ n3 x6 x7
        ) fun (K5 : Int → Option Int) =>
      if ¬ p1 = 9 then
        if ¬ p1 = 10 then
          mlet (
            K5 0
            : Option Int) fun (K8 : Option Int) =>
          if 3 ≤ x2 then
            K8
          else
            grd (0 ≤ (w32 ((w32 (821 * (w32 (1 + x2)))) + 0)) ∧ (w32 ((w32 (821 * (w32 (1 + x2)))) + 0)) < 3305) <|
            if (μ 61 ((w32 ((w32 (821 * (w32 (1 + x2)))) + 0))).toNat) < 0 then
              K8
            else
              K5 1
        else
          mlet (
            K5 0
            : Option Int) fun (K11 : Option Int) =>
          if 4 ≤ x2 then
            K11
          else
            grd (0 ≤ x2 ∧ x2 < 4) <|
            if (μ 65 (x2).toNat) < 0 then
              K11
            else
              K5 1
      else
        grd (0 ≤ x2 ∧ x2 < 6) <|
        if 0 ≤ (μ 63 (x2).toNat) then
          K5 1
        else
          K5 0
def fX2_thereOf (p1 : Int) (μ : Mem) : Option Int :=
  fX2_thereOf_L4 p1 μ fuel 0 0
theorem K_X2_thereOf  (p1 : Int)  (μ : Mem) : Con yX2_thereOf cX2_thereOf 4 (some .int) 2 [.inr (.inr 60), .inl p1] μ (fX2_thereOf p1 μ) (rI μ) := by
  refine con_of (own := RX2) (by decide) rfl (Nat.le_of_ble_eq_true rfl) ?_
  show Sim cX2_thereOf 4 RX2 (2) (some .int) (rI μ) 0 [(0, .inr (.inr 60)), (1, .inl p1)] [] μ (fX2_thereOf p1 μ)
  unfold fX2_thereOf
  refine S_iconst dX2_thereOf_0 rfl ?_
  refine S_istore_n (lv' := [(2, .inl 0), (0, .inr (.inr 60)), (1, .inl p1)]) dX2_thereOf_1 rfl rfl ?_
  refine S_iconst dX2_thereOf_2 rfl ?_
  refine S_istore_n (lv' := [(3, .inl 0), (2, .inl 0), (0, .inr (.inr 60)), (1, .inl p1)]) dX2_thereOf_3 rfl rfl ?_
  have hL4 : ∀ (n3 : Nat) (x1 : Int) (x2 : Int), Sim cX2_thereOf 4 RX2 (2) (some .int) (rI μ) 4 [(0, .inr (.inr 60)), (1, .inl p1), (2, .inl x1), (3, .inl x2)] [] μ (fX2_thereOf_L4 p1 μ n3 x1 x2) := by
    intro n3
    induction n3 with
    | zero =>
      intro x1 x2
      exact S_none rfl
    | succ n3 ih =>
      intro x1 x2
      rw [fX2_thereOf_L4]
      refine S_iload_n dX2_thereOf_4 rfl ?_
      refine S_bipush dX2_thereOf_5 rfl (by decide) ?_
      refine S_ic_ge (tgt := 97) dX2_thereOf_7 (by decide) (fun h17 => ?_) (fun h17 => ?_)
      · refine S_iload_n dX2_thereOf_97 rfl ?_
        exact S_iret dX2_thereOf_98 rfl rfl
      · refine S_iload_n dX2_thereOf_10 rfl ?_
        refine S_iload_n dX2_thereOf_11 rfl ?_
        refine S_bipush dX2_thereOf_12 rfl (by decide) ?_
        refine S_jn (fun (K5 : Int → Option Int) => ∀ (x4 : Int), Sim cX2_thereOf 4 RX2 (2) (some .int) (rI μ) 89 [(0, .inr (.inr 60)), (1, .inl p1), (3, .inl x2)] [.inl x4, .inl x1] μ (K5 x4)) ?_ (fun K5 hK5 => ?_)
        · intro x4
          refine S_iadd dX2_thereOf_89 ?_
          refine S_let (fun x6 => ?_)
          refine S_istore_n (lv' := [(2, .inl x6), (0, .inr (.inr 60)), (1, .inl p1), (3, .inl x2)]) dX2_thereOf_90 rfl rfl ?_
          refine S_iinc (lv' := fun x7 => [(3, .inl x7), (2, .inl x6), (0, .inr (.inr 60)), (1, .inl p1)]) dX2_thereOf_91 rfl rfl rfl (fun _ => rfl) (fun x7 => ?_)
          refine S_goto (tgt := 4) dX2_thereOf_94 (by decide) ?_
          exact S_sub [2, 3, 1, 0] rfl (ih x6 x7)
        refine S_ic_ne (tgt := 34) dX2_thereOf_14 (by decide) (fun h16 => ?_) (fun h16 => ?_)
        · refine S_iload_n dX2_thereOf_34 rfl ?_
          refine S_bipush dX2_thereOf_35 rfl (by decide) ?_
          refine S_ic_ne (tgt := 62) dX2_thereOf_37 (by decide) (fun h14 => ?_) (fun h14 => ?_)
          · refine S_iload_n dX2_thereOf_62 rfl ?_
            refine S_iconst dX2_thereOf_63 rfl ?_
            refine S_jn (fun (K8 : Option Int) => Sim cX2_thereOf 4 RX2 (2) (some .int) (rI μ) 88 [(0, .inr (.inr 60)), (1, .inl p1), (3, .inl x2)] [.inl x1] μ K8) ?_ (fun K8 hK8 => ?_)
            · skip
              refine S_iconst dX2_thereOf_88 rfl ?_
              exact S_sub [0, 1, 2] rfl (hK5 0)
            refine S_ic_ge (tgt := 88) dX2_thereOf_64 (by decide) (fun h10 => ?_) (fun h10 => ?_)
            · exact S_sub [0, 1, 3] rfl (hK8)
            · refine S_aload_n dX2_thereOf_67 rfl ?_
              refine S_getR (c1 := 61) dX2_thereOf_68 rfl fl_X2_7 rfl rfl rfl ?_
              refine S_sipush dX2_thereOf_71 rfl (by decide) ?_
              refine S_iconst dX2_thereOf_74 rfl ?_
              refine S_iload_n dX2_thereOf_75 rfl ?_
              refine S_iadd dX2_thereOf_76 ?_
              refine S_imul dX2_thereOf_77 ?_
              refine S_iconst dX2_thereOf_78 rfl ?_
              refine S_iadd dX2_thereOf_79 ?_
              refine S_iald (N := 3305) dX2_thereOf_80 rfl (by decide) rfl ?_
              refine S_if_lt (tgt := 88) dX2_thereOf_81 (by decide) (fun h9 => ?_) (fun h9 => ?_)
              · exact S_sub [0, 1, 3] rfl (hK8)
              · refine S_iconst dX2_thereOf_84 rfl ?_
                refine S_goto (tgt := 89) dX2_thereOf_85 (by decide) ?_
                exact S_sub [0, 1, 3] rfl (hK5 1)
          · refine S_iload_n dX2_thereOf_40 rfl ?_
            refine S_iconst dX2_thereOf_41 rfl ?_
            refine S_jn (fun (K11 : Option Int) => Sim cX2_thereOf 4 RX2 (2) (some .int) (rI μ) 58 [(0, .inr (.inr 60)), (1, .inl p1), (3, .inl x2)] [.inl x1] μ K11) ?_ (fun K11 hK11 => ?_)
            · skip
              refine S_iconst dX2_thereOf_58 rfl ?_
              refine S_goto (tgt := 89) dX2_thereOf_59 (by decide) ?_
              exact S_sub [0, 1, 2] rfl (hK5 0)
            refine S_ic_ge (tgt := 58) dX2_thereOf_42 (by decide) (fun h13 => ?_) (fun h13 => ?_)
            · exact S_sub [0, 1, 3] rfl (hK11)
            · refine S_aload_n dX2_thereOf_45 rfl ?_
              refine S_getR (c1 := 65) dX2_thereOf_46 rfl fl_X2_22 rfl rfl rfl ?_
              refine S_iload_n dX2_thereOf_49 rfl ?_
              refine S_iald (N := 4) dX2_thereOf_50 rfl (by decide) rfl ?_
              refine S_if_lt (tgt := 58) dX2_thereOf_51 (by decide) (fun h12 => ?_) (fun h12 => ?_)
              · exact S_sub [0, 1, 3] rfl (hK11)
              · refine S_iconst dX2_thereOf_54 rfl ?_
                refine S_goto (tgt := 89) dX2_thereOf_55 (by decide) ?_
                exact S_sub [0, 1, 3] rfl (hK5 1)
        · refine S_aload_n dX2_thereOf_17 rfl ?_
          refine S_getR (c1 := 63) dX2_thereOf_18 rfl fl_X2_16 rfl rfl rfl ?_
          refine S_iload_n dX2_thereOf_21 rfl ?_
          refine S_iald (N := 6) dX2_thereOf_22 rfl (by decide) rfl ?_
          refine S_if_ge (tgt := 30) dX2_thereOf_23 (by decide) (fun h15 => ?_) (fun h15 => ?_)
          · refine S_iconst dX2_thereOf_30 rfl ?_
            refine S_goto (tgt := 89) dX2_thereOf_31 (by decide) ?_
            exact S_sub [0, 1, 3] rfl (hK5 1)
          · refine S_iconst dX2_thereOf_26 rfl ?_
            refine S_goto (tgt := 89) dX2_thereOf_27 (by decide) ?_
            exact S_sub [0, 1, 3] rfl (hK5 0)
  exact S_sub [2, 3, 1, 0] rfl (hL4 fuel 0 0)
